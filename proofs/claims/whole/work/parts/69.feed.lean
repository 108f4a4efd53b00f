/-! BOTH: feed -/
theorem m255 : ∀ i, i < 32 → (255#32).getLsbD i = decide (i < 8) := by decide +kernel
theorem sh_k : ∀ k, k < 8 → ((8#64 * BitVec.ofNat 64 k).smod 64#64).toNat = 8 * k ∧ 8 * k % 64 = 8 * k := by decide +kernel
theorem byte_eq (a : Int64) : ∀ k, k < 8 → (Int32.toInt8 ((Int32.toInt8 (Int64.toInt32 ((Int64.toUInt64 a >>> ((Int32.toInt64 (8 * nI k)).toUInt64 &&& Int64.toUInt64 63)).toInt64))).toInt32)).toInt32 &&& 255 = Int64.toInt32 ((a >>> (Int32.toInt64 (8 * nI k) &&& 63)) &&& 255) := by
  intro k hk
  have e1 : (Int32.toInt64 (8 * nI k)).toUInt64 &&& Int64.toUInt64 63 = UInt64.ofNat (8 * k) := by
    have : ∀ k, k < 8 → (Int32.toInt64 (8 * nI k)).toUInt64 &&& Int64.toUInt64 63 = UInt64.ofNat (8 * k) := by decide +kernel
    exact this k hk
  have e2 : Int32.toInt64 (8 * nI k) &&& 63 = Int64.ofNat (8 * k) := by
    have : ∀ k, k < 8 → Int32.toInt64 (8 * nI k) &&& 63 = Int64.ofNat (8 * k) := by decide +kernel
    exact this k hk
  rw [e1, e2]
  apply Int32.toBitVec_inj.mp
  apply BitVec.eq_of_getLsbD_eq
  intro i hi
  simp only [Int32.toBitVec_and, Int64.toBitVec_toInt32, Int64.toBitVec_and, BitVec.getLsbD_and]
  simp
  rw [m255 i hi, (sh_k k hk).1, (sh_k k hk).2]
  by_cases h : i < 8
  · rw [BitVec.getLsbD_signExtend, BitVec.getLsbD_signExtend, BitVec.getLsbD_signExtend, BitVec.getLsbD_sshiftRight, if_pos h, if_pos (show i < 64 by omega), if_pos (show i < 64 by omega), if_pos (show 8 * k + i < 64 by omega), BitVec.getLsbD_ushiftRight, decide_eq_false (show ¬ 64 ≤ i by omega), decide_eq_true h]
    simp
  · simp [h]
theorem byte_lt (a : Int64) {k : Nat} (hk : k < 8) : ∃ j, j < 256 ∧ Int64.toInt32 ((a >>> (Int32.toInt64 (8 * nI k) &&& 63)) &&& 255) = nI j := by
  rw [← byte_eq a k hk]
  exact pk_andE _ 8 (by decide)
/-- s but for the tape is s0 -/
def TapR (s0 s : Nat → Int32) (x : XP) : Prop := (∀ i, i ≠ 4 → (i < 10 ∨ 130 ≤ i) → s i = s0 i) ∧ s 4 = nI (sN s 4) ∧ sN s 4 ≤ 120 ∧ tpOk s ∧ KP s x
theorem tap_step {s0 s : Nat → Int32} {x : XP} (h : TapR s0 s x) (h2 : sN s 4 < 120) {b : Nat} (hb : b < 256) {y : Int32} (hy : y &&& 255 = nI b) (hf : fits .byte (.int y) = true) : TapR s0 (upd (upd s (10 + sN s 4) (nI b)) 4 (nI (sN s 4 + 1))) (upd x.1 (sN s 4) y, nI (sN s 4 + 1), x.2.2) ∧ sN (upd (upd s (10 + sN s 4) (nI b)) 4 (nI (sN s 4 + 1))) 4 = sN s 4 + 1 := by
  obtain ⟨h1, h3, h4, h5, h6, h7⟩ := h
  generalize hT : sN s 4 = T at *
  have e4 : sN (upd (upd s (10 + T) (nI b)) 4 (nI (T + 1))) 4 = T + 1 := sN_us (by omega)
  refine ⟨⟨fun i q1 q2 => ?_, ?_, ?_, fun i hi => ?_, ?_, fun i hi => ?_⟩, e4⟩
  · rw [pk_un q1, pk_un (by omega)]
    exact h1 i q1 q2
  · rw [e4, pk_us]
  · rw [e4]; omega
  · rw [e4] at hi
    by_cases hiT : i = T
    · subst hiT
      rw [sN_un (by omega), sN_us (by omega), pk_un (by omega), pk_us]
      exact ⟨rfl, hb⟩
    · have := h5 i (by omega)
      rw [sN_un (by omega), sN_un (by omega), pk_un (by omega), pk_un (by omega)]
      exact this
  · show nI (T + 1) = _
    rw [pk_us]
  · rw [e4] at hi
    show upd x.1 T y i &&& 255 = _ ∧ fits .byte (.int (upd x.1 T y i)) = true
    by_cases hiT : i = T
    · subst hiT
      rw [pk_us, pk_un (by omega), pk_us, hy]
      exact ⟨rfl, hf⟩
    · rw [pk_un hiT, pk_un (by omega), pk_un (by omega)]
      exact h7 i (by omega)
section FEED
variable {n m q : Nat} {ρ : Nat → Nat}
theorem feed_loop {s0 : Nat → Int32} (a : Int64) (o : MO) (c : MC) (C B : HSt) : ∀ (k : Nat) (f g : Nat) (s : Nat → Int32) (x : XP), k ≤ 8 → k < f → k < g → TapR s0 s x → sN s 4 + k ≤ 120 → ∃ s' x', TapR s0 s' x' ∧ f_X12_feed_L34 m a (f_X12_feed_K81 m) f (nI k - 1) (hM m (oS o s) c C) = some (s' 4, hM m (oS o s') c C) ∧ f_X6_add_L21 q a f_X6_add_K72 g (nI k - 1) (hP q x B) = some (1, hP q x' B) ∧ x'.2.1 = s' 4 := by
  intro k
  induction k with
  | zero =>
    intro f g s x _ hf hg h _
    obtain ⟨f, rfl⟩ : ∃ e, f = e + 1 := ⟨f - 1, by omega⟩
    obtain ⟨g, rfl⟩ : ∃ e, g = e + 1 := ⟨g - 1, by omega⟩
    refine ⟨s, x, h, ?_, ?_, h.2.2.2.2.1⟩
    · rw [f_X12_feed_L34]
      unfold f_X12_feed_B34
      rw [if_pos (by decide)]
      unfold f_X12_feed_K81
      rw [mR_1, ob, mA_4, ob]
      rfl
    · rw [f_X6_add_L21]
      unfold f_X6_add_B21
      rw [if_pos (by decide)]
      rfl
  | succ k ih =>
    intro f g s x hk hf hg h hT
    obtain ⟨f, rfl⟩ : ∃ e, f = e + 1 := ⟨f - 1, by omega⟩
    obtain ⟨g, rfl⟩ : ∃ e, g = e + 1 := ⟨g - 1, by omega⟩
    obtain ⟨b, hb, hbe⟩ := byte_lt a (show k < 8 by omega)
    have hy := byte_eq a k (by omega)
    rw [hbe] at hy
    obtain ⟨t1, t2⟩ := tap_step h (by omega) hb hy (pk_fb _)
    obtain ⟨s', x', r1, r2, r3, r4⟩ := ih f g _ _ (by omega) (by omega) (by omega) t1 (by rw [t2]; omega)
    refine ⟨s', x', r1, ?_, ?_, r4⟩
    · rw [f_X12_feed_L34]
      unfold f_X12_feed_B34
      have e4 : (oS o s).1 4 = nI (sN s 4) := h.2.1
      rw [nI_pred, if_neg (nI_pos (by omega)), mR_1, ob, ob, mA_4, e4, ob, mS_s m (oS o s) c C (i := 10 + nI (sN s 4)) (k := 10 + sN s 4) (nI_add 10 _) (by omega), ob, mR_1, ob, mA_4, ob, mS_s m _ c C (i := 4) (k := 4) rfl (by omega), ob, hbe]
      have e5 : (oS (oS o s) (upd (oS o s).1 (10 + sN s 4) (nI b))).1 4 + 1 = nI (sN s 4 + 1) := by
        show upd s (10 + sN s 4) (nI b) 4 + 1 = _
        rw [pk_un (by omega), h.2.1, nI_1]
      rw [e5, show nI k + (-1) = nI k - 1 from (Int32.sub_eq_add_neg _ _).symm]
      exact r2
    · rw [f_X6_add_L21]
      unfold f_X6_add_B21
      have e4 : x.2.1 = nI (sN s 4) := h.2.2.2.2.1.trans h.2.1
      rw [nI_pred, if_neg (nI_pos (by omega)), PI_1, ob, e4, PR_0, ob, PN_1, ob, if_neg (show ¬ (120 : Int32) ≤ nI (sN s 4) from nI_ge (b := 120) (by omega) (by omega)), ob, ob, PS_1 q x B (k := sN s 4) rfl (by omega), ob, PI_1, ob, PP_1, ob]
      show f_X6_add_L21 q a f_X6_add_K72 g (nI k + (-1)) (hP q (upd x.1 (sN s 4) _, x.2.1 + 1, x.2.2) B) = _
      rw [e4, nI_1, show nI k + (-1) = nI k - 1 from (Int32.sub_eq_add_neg _ _).symm]
      exact r3
theorem gC_tp {k : KK} {B : HSt} : gC (hK n ρ k B) (n + 2) = some 6 := by
  have e := hP_C (n + 2) (kTp k) (hK n ρ k B)
  rw [← hK_tp0 n ρ k B] at e
  exact e
/-- what a change of the tape leaves -/
theorem Rel_tape {o : MO} {tx gx : Nat → List Cl} {k : KK} {B : HSt} (hR : Rel n o tx gx k B) {s' : Nat → Int32} {x' : XP} (h : TapR o.1 s' x') : Rel n (oS o s') tx gx (kuTp k x') B := by
  obtain ⟨⟨hs, ho, htp, hz⟩, hk, hx, hkp, hB, htc, him⟩ := hR
  obtain ⟨h1, h3, h4, h5, h6⟩ := h
  have n2 := hs.2.2.2.1
  have colT : ∀ t', t' < 30 → colE o.1 s' t' := fun t' ht' => ⟨h1 _ (by omega) (by omega), h1 _ (by omega) (by omega), h1 _ (by omega) (by omega), h1 _ (by omega) (by omega), h1 _ (by omega) (by omega), h1 _ (by omega) (by omega)⟩
  have hn := hs.2.2.1
  have q1 := sN_e (h1 1 (by omega) (by omega))
  have q2 := sN_e (h1 2 (by omega) (by omega))
  have q3 := sN_e (h1 3 (by omega) (by omega))
  have q0 := sN_e (h1 0 (by omega) (by omega))
  have hs' : sOk s' := by
    refine ⟨fun i hi => ?_, ?_, ?_, ?_, ?_, h4, ?_⟩
    · by_cases hi4 : i = 4
      · subst hi4; exact h3
      · rw [sN_e (h1 i hi4 (by omega)), h1 i hi4 (by omega)]; exact hs.1 i hi
    · rw [q0]; exact hs.2.1
    · rw [q1]; exact hs.2.2.1
    · rw [q2]; exact hs.2.2.2.1
    · rw [q3]; exact hs.2.2.2.2.1
    · intro t' ht'
      rw [q1] at ht'
      exact colE_ok (colT t' (by omega)) (h1 0 (by omega) (by omega)) (hs.2.2.2.2.2.2 t' ht')
  refine ⟨⟨hs', txOk_cong hs (fun i _ _ => h1 i (by omega) (by omega)) (h1 2 (by omega) (by omega)) (h1 3 (by omega) (by omega)) ho, h5, fun i hi => (h1 i (by omega) (by omega)).trans (hz i hi)⟩, ?_, KX_cong hs (fun i _ _ => h1 i (by omega) (by omega)) (h1 2 (by omega) (by omega)) (h1 3 (by omega) (by omega)) rfl hx, h6, hB, htc, ?_⟩
  · refine ⟨?_, ?_, ?_, ?_, fun t' ht' => ?_⟩
    · show k.1 0 = s' 0
      rw [h1 0 (by omega) (by omega)]; exact hk.1
    · show k.1 2 = s' 1
      rw [h1 1 (by omega) (by omega)]; exact hk.2.1
    · show k.1 5 = s' 2
      rw [h1 2 (by omega) (by omega)]; exact hk.2.2.1
    · show k.1 7 = s' 3
      rw [h1 3 (by omega) (by omega)]; exact hk.2.2.2.1
    · have ht' : t' < sN s' 1 := ht'
      rw [q1] at ht'
      obtain ⟨a, ha, hA⟩ := hk.2.2.2.2 t' ht'
      exact ⟨a, ha, TA_cong (B := B) (colT t' (by omega)) (Nat.le_refl _) rfl hA⟩
  · obtain ⟨h, i1, i2, i3⟩ := him
    refine ⟨h, i1, i2, fun hh => ?_⟩
    have g1 := (i3 hh).1.1.2.2.1
    have g2 := (i3 hh).1.1.2.2.2.1
    have g3 := (i3 hh).1.1.2.2.2.2.1
    refine IMG_cong (s := o.1) (tx := tx) (k := k) ⟨rfl, rfl, rfl, rfl⟩ rfl rfl ?_ (fun t' ht' => ?_) ?_ (fun p hp => ⟨rfl, h1 _ ?_ ?_, h1 _ ?_ ?_⟩) ?_ (fun l _ => ⟨rfl, h1 _ (by omega) (by omega)⟩) (i3 hh)
    · show sN o.1 1 ≤ sN s' 1
      rw [q1]; exact Nat.le_refl _
    · have ht' : t' < sN o.2.1 1 := ht'
      obtain ⟨z1, z2, z3, z4, z5, -⟩ := colT t' (by omega)
      exact ⟨z1, z2, z3, z4, z5⟩
    · show sN o.1 2 ≤ sN s' 2
      rw [q2]; exact Nat.le_refl _
    · omega
    · omega
    · omega
    · omega
    · show sN o.1 3 ≤ sN s' 3
      rw [q3]; exact Nat.le_refl _
theorem Sim_feed (w : Int64) (v : Int32) : Sim n ρ (fun S => f_X11_feed S n w v) (fun S => f_X12_feed S (n + 65) w v) := by
  intro o c tx gx k B hR
  have hR' := hR
  obtain ⟨⟨hs, ho, htp, hz⟩, hk, hx, hkp, hB, htc, him⟩ := hR
  have n4 := hs.2.2.2.2.2.1
  have e4 := hs.1 4 (by omega)
  have T0 : TapR o.1 o.1 (kTp k) := ⟨fun _ _ _ => rfl, e4, n4, htp, hkp⟩
  by_cases h1 : 1 ≤ v ∧ v ≤ 8
  · obtain ⟨j, hj1, hj2, rfl⟩ := btw (n := 8) (m := 1) (by omega) rfl (by omega) h1
    have A0 : f_X6_add (hP (n + 2) (kTp k) (hK n ρ k (hM (n + 65) o c B))) (n + 2) w (nI j) = if sN o.1 4 + j ≤ 120 then f_X6_add_L21 (n + 2) w f_X6_add_K72 FU (nI j - 1) (hP (n + 2) (kTp k) (hK n ρ k (hM (n + 65) o c B))) else some (0, hP (n + 2) (kTp k) (hK n ρ k (hM (n + 65) o c B))) := by
      unfold f_X6_add
      rw [PR_0, ob, PN_1, ob, PI_1, ob, hkp.1, e4, show (120 : Int32) = nI 120 from rfl, nI_subN n4]
      by_cases h : sN o.1 4 + j ≤ 120
      · rw [if_pos (nI_le (by omega) (by omega)), if_pos h]
      · rw [if_neg (nI_ge (by omega) (by omega)), if_neg h]
    by_cases h2 : sN o.1 4 + j ≤ 120
    · obtain ⟨s', x', r1, r2, r3, r4⟩ := feed_loop (m := n + 65) (q := n + 2) (s0 := o.1) w o c (hK n ρ k B) (hK n ρ k (hM (n + 65) o c B)) j FU FU o.1 (kTp k) hj2 (by show j < 100000; omega) (by show j < 100000; omega) T0 h2
      obtain ⟨s2, x2, p1, p2, p3, p4⟩ := feed_loop (m := n + 65) (q := n + 2) (s0 := o.1) w o c (hK n ρ (kuTp k x') B) (hK n ρ k (hM (n + 65) o c B)) j FU FU o.1 (kTp k) hj2 (by show j < 100000; omega) (by show j < 100000; omega) T0 h2
      have hx2 : hP (n + 2) x2 (hK n ρ k (hM (n + 65) o c B)) = hP (n + 2) x' (hK n ρ k (hM (n + 65) o c B)) := by
        have := p3.symm.trans r3
        exact (Prod.mk.inj (Option.some.inj this)).2
      refine ⟨s2 4, oS o s2, c, tx, gx, kuTp k x', B, ?_, ?_, ?_⟩
      · show f_X11_feed (hK n ρ k (hM (n + 65) o c B)) n w (nI j) = _
        rw [if_pos h2, p3, hK_tp, hK_tp] at A0
        have A0 : f_X6_add (hK n ρ k (hM (n + 65) o c B)) (n + 2) w (nI j) = some (1, hK n ρ (kuTp k x2) (hM (n + 65) o c B)) := A0
        have e5 : gI (hK n ρ (kuTp k x2) (hM (n + 65) o c B)) (n + 2) 6 1 = some (x2.2.1) := by
          have e := PI_1 (n + 2) x2 (hK n ρ k (hM (n + 65) o c B))
          rw [hK_tp] at e
          exact e
        rw [hK_tp, hK_tp] at hx2
        unfold f_X11_feed
        rw [lh2, if_pos h1, KR_3, ob, gC_tp, if_pos rfl, A0, bd2_some, if_neg (by decide), KR_3, ob, e5, ob, p4, hx2]
      · show f_X12_feed (hM (n + 65) o c (hK n ρ (kuTp k x') B)) (n + 65) w (nI j) = _
        unfold f_X12_feed
        rw [X12_in, bd2_some, lh3, if_pos h1, mR_1, ob, mA_4, ob, e4, nI_add, if_pos (show nI (sN o.1 4 + j) ≤ (120 : Int32) from nI_le (b := 120) h2 (by omega))]
        exact p2
      · have : TapR o.1 s2 x' := by
          obtain ⟨u1, u2, u3, u4, u5, u6⟩ := p1
          have k1 := congrArg (fun S : HSt => gI S (n + 2) 6 1) hx2
          have k1 : gI (hP (n + 2) x2 (hK n ρ k (hM (n + 65) o c B))) (n + 2) 6 1 = gI (hP (n + 2) x' (hK n ρ k (hM (n + 65) o c B))) (n + 2) 6 1 := k1
          rw [PI_1, PI_1] at k1
          have k2 : ∀ i, i < 120 → x2.1 i = x'.1 i := fun i hi => by
            have k3 := congrArg (fun S : HSt => aI S (n + 2 + 1) 1 (nI i)) hx2
            have k3 : aI (hP (n + 2) x2 (hK n ρ k (hM (n + 65) o c B))) (n + 2 + 1) 1 (nI i) = aI (hP (n + 2) x' (hK n ρ k (hM (n + 65) o c B))) (n + 2 + 1) 1 (nI i) := k3
            rw [PA_1 (n + 2) x2 _ (k := i) rfl hi, PA_1 (n + 2) x' _ (k := i) rfl hi] at k3
            exact Option.some.inj k3
          exact ⟨u1, u2, u3, u4, (Option.some.inj k1).symm.trans u5, fun i hi => by rw [← k2 i (by omega)]; exact u6 i hi⟩
        exact Rel_tape hR' this
    · refine ⟨-4, o, c, tx, gx, k, B, ?_, ?_, hR'⟩
      · show f_X11_feed (hK n ρ k (hM (n + 65) o c B)) n w (nI j) = _
        rw [if_neg h2, hK_tp] at A0
        have A0 : f_X6_add (hK n ρ k (hM (n + 65) o c B)) (n + 2) w (nI j) = some (0, hK n ρ k (hM (n + 65) o c B)) := A0
        unfold f_X11_feed
        rw [lh2, if_pos h1, KR_3, ob, gC_tp, if_pos rfl, A0, bd2_some, if_pos rfl]
      · show f_X12_feed (hM (n + 65) o c (hK n ρ k B)) (n + 65) w (nI j) = _
        unfold f_X12_feed
        rw [X12_in, bd2_some, lh3, if_pos h1, mR_1, ob, mA_4, ob, e4, nI_add, if_neg (show ¬ nI (sN o.1 4 + j) ≤ (120 : Int32) from nI_ge (a := 120) (by omega) (by omega))]
  · refine ⟨-2, o, c, tx, gx, k, B, ?_, ?_, hR'⟩
    · show f_X11_feed (hK n ρ k (hM (n + 65) o c B)) n w v = _
      unfold f_X11_feed
      rw [lh2, if_neg h1]
    · show f_X12_feed (hM (n + 65) o c (hK n ρ k B)) (n + 65) w v = _
      unfold f_X12_feed
      rw [X12_in, bd2_some, lh3, if_neg h1]
end FEED
