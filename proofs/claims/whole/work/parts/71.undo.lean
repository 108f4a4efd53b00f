/-! BOTH: undo -/
def mixS (s g : Nat → Int32) (i : Nat) : Nat → Int32 := fun k => if 280 + i ≤ k ∧ k < 310 then s k else g k
theorem mixS_g {s g : Nat → Int32} {i k : Nat} (h : k < 280 + i ∨ 310 ≤ k) : mixS s g i k = g k := if_neg (by omega)
theorem mixS_s {s g : Nat → Int32} {i k : Nat} (h : 280 + i ≤ k ∧ k < 310) : mixS s g i k = s k := if_pos h
theorem mixS_up (s g : Nat → Int32) {i : Nat} (hi : i < 30) : upd (mixS s g i) (280 + i) (g (280 + i)) = mixS s g (i + 1) := funext fun k => by
  by_cases h : k = 280 + i
  · subst h
    rw [pk_us, mixS_g (by omega)]
  · rw [pk_un h]
    by_cases h2 : 280 + i ≤ k ∧ k < 310
    · rw [mixS_s h2, mixS_s (by omega)]
    · rw [mixS_g (by omega), mixS_g (by omega)]
section UNDO
variable {n : Nat} {ρ : Nat → Nat}
theorem undo_loop {o : MO} {c : MC} {s g : Nat → Int32} (hg : sOk g) {k2 : KK} (hie : ∀ t, t < sN g 1 → kIe k2 t = g (280 + t)) (K : HSt → Option (Int32 × HSt)) : ∀ (d i f : Nat) (B : HSt), sOk (mixS s g i) → KR n (mixS s g i) k2 B → i + d = sN g 1 → d < f → ∃ B', f_X11_undo_L44 n K f (nI i) (hK n ρ k2 (hM (n + 65) o c B)) = K (hK n ρ k2 (hM (n + 65) o c B')) ∧ KR n (mixS s g (sN g 1)) k2 B' ∧ B'.2 = B.2 := by
  have hn := hg.2.2.1
  have m1 : ∀ i, sN (mixS s g i) 1 = sN g 1 := fun i => sN_e (mixS_g (by omega))
  have mm1 : ∀ i, mixS s g i 1 = nI (sN g 1) := fun i => (mixS_g (by omega)).trans (hg.1 1 (by omega))
  intro d
  induction d with
  | zero =>
    intro i f B hs hk hi hf
    obtain ⟨f, rfl⟩ : ∃ e, f = e + 1 := ⟨f - 1, by omega⟩
    refine ⟨B, ?_, by rw [show sN g 1 = i by omega]; exact hk, rfl⟩
    rw [f_X11_undo_L44]
    unfold f_X11_undo_B44
    rw [KI_2, ob, hk.2.1, mm1, if_pos (nI_le (by omega) (by omega))]
  | succ d ih =>
    intro i f B hs hk hi hf
    obtain ⟨f, rfl⟩ : ∃ e, f = e + 1 := ⟨f - 1, by omega⟩
    have hk' := KR_hM o c hk
    have hti : i < sN (mixS s g i) 1 := by rw [m1]; omega
    obtain ⟨a, ha, hA⟩ := hk.2.2.2.2 i hti
    obtain ⟨a', ha', hA'⟩ := hk'.2.2.2.2 i hti
    have : a = a' := by rw [ha] at ha'; exact Option.some.inj ha'
    subst this
    obtain ⟨-, -, -, -, -, e6, -, -, -, -, -, hex⟩ := hg.2.2.2.2.2.2 i (by omega)
    have hs2 := sOk_exc hs hti hex
    have hk2 := KR_exc hs hk hti hex ha hA
    have hF := exc_F (s := mixS s g i) (t := i) (e := tExc g i) (by omega) hex (n + 10)
    have hup : upd (mixS s g i) (280 + i) (nI (tExc g i)) = mixS s g (i + 1) := by
      rw [← e6]
      exact mixS_up s g (by omega)
    rw [hup] at hs2 hk2 hF
    obtain ⟨B', w1, w2, w3⟩ := ih (i + 1) f _ hs2 hk2 (by omega) (by omega)
    refine ⟨B', ?_, w2, w3⟩
    rw [f_X11_undo_L44]
    unfold f_X11_undo_B44
    rw [KI_2, ob, hk.2.1, mm1, if_neg (nI_ge (by omega) (by omega)), KR_16, ob, KN_12, ob, if_neg (show ¬ (30 : Int32) ≤ nI i from nI_ge (b := 30) (by omega) (by omega)), hK_C, if_pos rfl, X11_tryN hs hk' hti ha, bd2_some, oC_some, KR_16, ob, KA_12 n ρ k2 _ (j := i) rfl (by omega), ob, hie i (by omega), e6, pVT_B (by have := hA.1; omega) hA'.2.2 (kcN_kin _) (by simp [tyF]), ob, hF, hM_up2 B (Or.inr (by have := hA.1; omega)), nI_1]
    exact w1
theorem Sim_undo : Sim n ρ (fun S => f_X11_undo S n) (fun S => f_X12_undo S (n + 65)) := by
  intro o c tx gx k B hR
  have hR' := hR
  obtain ⟨⟨hs, ho, htp, hz⟩, hk, hx, hkp, hB, ⟨hzg, q, r, c1, c2, c3, c4, c5⟩, h, i1, i2, i3⟩ := hR
  have hun := fun C : HSt => X12_undo (m := n + 65) (o := o) (c := c) (C := C) hz hzg
  cases h with
  | false =>
    have i1 : o.2.2.1 = 0 := i1
    refine ⟨-3, o, c, tx, gx, k, B, ?_, (hun _).trans (by rw [if_pos i1]), hR'⟩
    show f_X11_undo (hK n ρ k (hM (n + 65) o c B)) n = _
    unfold f_X11_undo
    rw [KI_11, ob, i2]
    exact if_pos rfl
  | true =>
    have i1' : ¬ o.2.2.1 = 0 := by rw [i1]; decide
    obtain ⟨⟨gs, go, gtp, gz⟩, ⟨a2, a3, a4, a5⟩, a6, ⟨a7, a8⟩, ⟨a9, a10⟩, ⟨a11, a12⟩⟩ := i3 rfl
    have hn := hs.2.2.1
    have gn := gs.2.2.1
    have n4 := gs.2.2.2.2.2.1
    have g4 := gs.1 4 (by omega)
    generalize hg : o.2.1 = g at *
    have y0 : ∀ (k : KK) (j : Nat) (v : Int32) (i : Nat), i ≠ j → (kuI k j v).1 i = k.1 i := fun k j v i hi => pk_un hi
    have y1 : ∀ (k : KK) (j : Nat) (v : Int32), (kuI k j v).1 j = v := fun k j v => pk_us
    generalize hk4 : kuI (kuI (kuI (kuI k 0 (g 0)) 2 (g 1)) 5 (g 2)) 7 (g 3) = k4
    have f0 : k4.1 0 = g 0 := by rw [← hk4, y0 _ _ _ _ (by omega), y0 _ _ _ _ (by omega), y0 _ _ _ _ (by omega), y1]
    have f2 : k4.1 2 = g 1 := by rw [← hk4, y0 _ _ _ _ (by omega), y0 _ _ _ _ (by omega), y1]
    have f5 : k4.1 5 = g 2 := by rw [← hk4, y0 _ _ _ _ (by omega), y1]
    have f7 : k4.1 7 = g 3 := by rw [← hk4, y1]
    have fo : ∀ i, 8 ≤ i → k4.1 i = k.1 i := fun i hi => by rw [← hk4, y0 _ _ _ _ (by omega), y0 _ _ _ _ (by omega), y0 _ _ _ _ (by omega), y0 _ _ _ _ (by omega)]
    have e2 : k4.2 = k.2 := by rw [← hk4]
    have eTr : kTr k4 = kTr k := congrArg (fun z => z.1) e2
    have eTx : kTx k4 = kTx k := congrArg (fun z => z.2.2.2.2.2.2.2) e2
    have eIt : kIt k4 = kIt k := congrArg (fun z => z.2.2.2.2.2.2.1) e2
    have eIe : kIe k4 = kIe k := congrArg (fun z => z.2.2.2.2.2.1) e2
    have eTc : kTc k4 = kTc k := congrArg (fun z => z.2.2.2.2.1) e2
    have M0 : sOk (mixS o.1 g 0) := by
      refine ⟨fun i hi => ?_, ?_, ?_, ?_, ?_, ?_, fun t ht => ?_⟩
      · rw [sN_e (s := g) (mixS_g (by omega)), mixS_g (by omega)]; exact gs.1 i hi
      · rw [sN_e (s := g) (mixS_g (by omega))]; exact gs.2.1
      · rw [sN_e (s := g) (mixS_g (by omega))]; exact gs.2.2.1
      · rw [sN_e (s := g) (mixS_g (by omega))]; exact gs.2.2.2.1
      · rw [sN_e (s := g) (mixS_g (by omega))]; exact gs.2.2.2.2.1
      · rw [sN_e (s := g) (mixS_g (by omega))]; exact gs.2.2.2.2.2.1
      · rw [sN_e (s := g) (mixS_g (by omega))] at ht
        obtain ⟨b1, b2, b3, b4, b5, b6, b7, b8, b9, b10, b11, b12⟩ := gs.2.2.2.2.2.2 t ht
        obtain ⟨-, -, -, -, -, d6, -, -, -, -, -, d12⟩ := hs.2.2.2.2.2.2 t (by omega)
        have q1 : tMan (mixS o.1 g 0) t = tMan g t := sN_e (mixS_g (by omega))
        have q2 : tDay (mixS o.1 g 0) t = tDay g t := sN_e (mixS_g (by omega))
        have q3 : tKind (mixS o.1 g 0) t = tKind g t := sN_e (mixS_g (by omega))
        have q4 : tPipe (mixS o.1 g 0) t = tPipe g t := sN_e (mixS_g (by omega))
        have q5 : tSaid (mixS o.1 g 0) t = tSaid g t := sN_e (mixS_g (by omega))
        have q6 : tExc (mixS o.1 g 0) t = tExc o.1 t := sN_e (mixS_s (by omega))
        unfold tOk
        rw [q1, q2, q3, q4, q5, q6, mixS_g (k := 130 + t) (by omega), mixS_g (k := 160 + t) (by omega), mixS_g (k := 190 + t) (by omega), mixS_g (k := 220 + t) (by omega), mixS_g (k := 250 + t) (by omega), mixS_s (k := 280 + t) (by omega), sN_e (s := g) (s' := mixS o.1 g 0) (i := 0) (mixS_g (by omega))]
        exact ⟨b1, b2, b3, b4, b5, d6, b7, b8, b9, b10, b11, d12⟩
    have K0 : KR n (mixS o.1 g 0) k4 B := by
      refine ⟨?_, ?_, ?_, ?_, fun t ht => ?_⟩
      · rw [mixS_g (by omega)]; exact f0
      · rw [mixS_g (by omega)]; exact f2
      · rw [mixS_g (by omega)]; exact f5
      · rw [mixS_g (by omega)]; exact f7
      · rw [sN_e (s := g) (mixS_g (by omega))] at ht
        obtain ⟨a, ha, hA⟩ := hk.2.2.2.2 t (by omega)
        obtain ⟨z1, z2, z3, z4, z5, -⟩ := a8 t ht
        refine ⟨a, by rw [eTr]; exact ha, TA_cong (B := B) ⟨?_, ?_, ?_, ?_, ?_, ?_⟩ (Nat.le_refl _) rfl hA⟩
        · rw [mixS_g (by omega)]; exact z1.symm
        · rw [mixS_g (by omega)]; exact z2.symm
        · rw [mixS_g (by omega)]; exact z3.symm
        · rw [mixS_g (by omega)]; exact z4.symm
        · rw [mixS_g (by omega)]; exact z5.symm
        · rw [mixS_s (by omega)]
    obtain ⟨B', w1, w2, w3⟩ := undo_loop (ρ := ρ) (o := o) (c := c) gs (fun t ht => by rw [eIe]; exact (a8 t ht).2.2.2.2.2) (f_X11_undo_K87 n) (sN g 1) 0 FU B M0 K0 (by omega) (by show _ < 100000; omega)
    have hit : (kIt k4).2.1 = nI (sN g 4) := by rw [eIt, a6.1]; exact g4
    have cp := K_copyU (n := n) (ρ := ρ) (k := k4) (B := hM (n + 65) o c B') (T := sN g 4) n4 hit (fun i hi => by rw [eIt]; exact (a6.2 i hi).2)
    refine ⟨g 1, (g, g, o.2.2), c, gx, gx, kuTp k4 (va_cpy (kIt k4).1 (kTp k4).1 0 0 (sN g 4), nI (sN g 4), (kTp k4).2.2), B', ?_, ?_, ?_⟩
    · show f_X11_undo (hK n ρ k (hM (n + 65) o c B)) n = _
      unfold f_X11_undo
      rw [KI_11, ob, i2, if_neg (show ¬ bI true = 0 by decide), KI_12, ob, a2, KP_0, ob, KI_13, ob, y0 _ _ _ _ (by omega), a3, KP_2, ob, KI_14, ob, y0 _ _ _ _ (by omega), y0 _ _ _ _ (by omega), a4, KP_5, ob, KI_15, ob, y0 _ _ _ _ (by omega), y0 _ _ _ _ (by omega), y0 _ _ _ _ (by omega), a5, KP_7, ob, hk4, show (0 : Int32) = nI 0 from rfl, w1]
      unfold f_X11_undo_K87
      rw [KR_3, ob, KR_17, ob, gC_tp, if_pos rfl, cp, ob, KI_2, ob]
      exact congrArg (fun v => some (v, _)) f2
    · refine (hun _).trans ?_
      rw [if_neg i1']
      have : (g, o.2) = (g, g, o.2.2) := by rw [← hg]
      rw [this]
    · refine ⟨⟨gs, go, gtp, gz⟩, ?_, ?_, ?_, by rw [w3]; exact hB, ⟨gz, q, r, c1, by show kTc k4 = _; rw [eTc]; exact c2, c3, c4, c5⟩, true, i1, ?_, fun _ => ?_⟩
      · refine ⟨f0, f2, f5, f7, fun t ht => ?_⟩
        have ht : t < sN g 1 := ht
        obtain ⟨a, ha, hA⟩ := w2.2.2.2.2 t (by rw [sN_e (s := g) (mixS_g (by omega))]; exact ht)
        exact ⟨a, ha, TA_cong (B := B') ⟨(mixS_g (by omega)).symm, (mixS_g (by omega)).symm, (mixS_g (by omega)).symm, (mixS_g (by omega)).symm, (mixS_g (by omega)).symm, (mixS_g (by omega)).symm⟩ (Nat.le_refl _) rfl hA⟩
      · refine ⟨fun p hp => ?_, fun l hl => ?_⟩
        · have hp : p < sN g 2 := hp
          obtain ⟨z1, z2, z3⟩ := a10 p hp
          obtain ⟨v1, v2, v3⟩ := hx.1 p (by omega)
          show TxC false (kTx k4 (2 * p)) (gx p) ∧ (kTx k4 (2 * p)).1 8 = g (310 + p) ∧ (kTx k4 (2 * p)).1 9 = g (315 + p)
          rw [eTx, ← z1, ← z2, ← z3]
          exact ⟨v1, v2, v3⟩
        · have hl : l < sN g 3 := hl
          obtain ⟨z1, z2⟩ := a12 l hl
          obtain ⟨v1, v2⟩ := hx.2 l (by omega)
          show TxC true (kTx k4 (2 * l + 1)) (gx (5 + l)) ∧ (kTx k4 (2 * l + 1)).1 10 = g (320 + l)
          rw [eTx, ← z1, ← z2]
          exact ⟨v1, v2⟩
      · refine ⟨g4.symm, fun i hi => ?_⟩
        have hi : i < sN g 4 := hi
        show va_cpy (kIt k4).1 (kTp k4).1 0 0 (sN g 4) i &&& 255 = g (10 + i) ∧ fits .byte (.int (va_cpy (kIt k4).1 (kTp k4).1 0 0 (sN g 4) i)) = true
        rw [cpy_at hi, eIt]
        exact a6.2 i hi
      · show k4.1 11 = _
        rw [fo 11 (by omega)]; exact i2
      · refine ⟨⟨gs, go, gtp, gz⟩, ⟨?_, ?_, ?_, ?_⟩, ?_, ⟨Nat.le_refl _, fun t ht => ⟨rfl, rfl, rfl, rfl, rfl, ?_⟩⟩, ⟨Nat.le_refl _, fun p hp => ⟨rfl, rfl, rfl⟩⟩, ⟨Nat.le_refl _, fun l hl => ⟨rfl, rfl⟩⟩⟩
        · show k4.1 12 = g 0
          rw [fo 12 (by omega)]; exact a2
        · show k4.1 13 = g 1
          rw [fo 13 (by omega)]; exact a3
        · show k4.1 14 = g 2
          rw [fo 14 (by omega)]; exact a4
        · show k4.1 15 = g 3
          rw [fo 15 (by omega)]; exact a5
        · show KP g (kIt k4)
          rw [eIt]; exact a6
        · show kIe k4 t = g (280 + t)
          rw [eIe]; exact (a8 t ht).2.2.2.2.2
end UNDO
