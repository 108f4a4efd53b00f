/-! THE REFERENCE READS: factors, terms, expressions -/
def lawB (a : Nat) : Bool := decide (5 ≤ a)
section MFAC
variable {m : Nat} {o : MO} {c : MC} {C : HSt} {T : Nat → Nat} {E a : Nat} {ρ : Nat → Nat}
/-- a reader of the reference does what f says -/
def MRd (m : Nat) (o : MO) (c : MC) (C : HSt) (T : Nat → Nat) (E a d : Nat) (rf : HSt → Nat → Option HSt) (f : Nat → PR) : Prop :=
  (∀ (s : Nat → Int32) (p L : Nat), p ≤ E → tpS T E s → s (325 + a) = nI L → L ≤ p → rf (hM m (oS o s) (sc c p false d) C) m = some (hM m (oS o (emL a ((f p).2.2.map encS) L s)) (sc c (f p).2.1 (!(f p).1) d) C)) ∧
  ∀ (s : Nat → Int32) (p : Nat), rf (hM m (oS o s) (sc c p true d) C) m = some (hM m (oS o s) (sc c p true d) C)
theorem seqL_stop {f : Nat → PR} {ch : Nat} {tk : Tk} {n : Nat} {r : PR} (h : ¬ (r.1 = true ∧ cAt T E r.2.1 = ch)) : seqL T E f ch tk n r = r := by
  cases n with
  | zero => rfl
  | succ n => unfold seqL; rw [if_neg h]

theorem M_everyL {law : Bool} (h4 : c.1 4 = nI a) (h6 : c.1 6 = nI E) (ha : a < 10) (hE : E ≤ 120) (hT : ∀ i, i < E → T i < 256) {d N : Nat} {rf : HSt → Nat → Option HSt} {f : Nat → PR} (hrf : MRd m o c C T E a d rf f) (hf : ∀ q, q ≤ E → Gd E law q (N + 1) (f q)) {s : Nat → Int32} {p L : Nat} (ht : tpS T E s) (hs : s (325 + a) = nI L) (hL : L ≤ p) : ∀ (n g : Nat) (r : PR), Gd E law p N r → E < n + r.2.1 → n < g → f_X12_every_L4 m rf f_X12_every_K43 g (hM m (oS o (emL a (r.2.2.map encS) L s)) (sc c r.2.1 (!r.1) d) C) = some (hM m (oS o (emL a ((seqL T E f 38 (.inr (some false)) n r).2.2.map encS) L s)) (sc c (seqL T E f 38 (.inr (some false)) n r).2.1 (!(seqL T E f 38 (.inr (some false)) n r).1) d) C) := by
  intro n
  induction n with
  | zero =>
    intro g r hr hn hg
    exact absurd hr.2.1 (by omega)
  | succ n ih =>
    intro g r hr hn hg
    obtain ⟨g, rfl⟩ : ∃ e, g = e + 1 := ⟨g - 1, by omega⟩
    obtain ⟨r1, r2, r3, r4⟩ := hr
    have hlen : L + (r.2.2.map encS).length ≤ r.2.1 := by rw [List.length_map]; omega
    have ht1 := emL_tp (a := a) (L := L) hE (r.2.2.map encS) ht
    have hs1 := emL_c a ha (r.2.2.map encS) L s hs
    rw [f_X12_every_L4]
    unfold f_X12_every_B4
    by_cases hc : r.1 = true ∧ cAt T E r.2.1 = 38
    · have hp1 : r.2.1 < E := cAt_lt hc.2 (by omega)
      obtain ⟨g1, g2, g3, g4⟩ := hf (r.2.1 + 1) hp1
      have e1 := hrf.1 (emL a (r.2.2.map encS) L s) (r.2.1 + 1) (L + (r.2.2.map encS).length) hp1 ht1 hs1 (by omega)
      rw [hc.1, mI_7, ob, show (sc c r.2.1 (!true) d).1 7 = 0 from rfl, if_pos rfl, hM_C, if_pos rfl, show (!true) = false from rfl, M_here h6 hE r2 ht1, bd2_some, if_pos (show lkI T E r.2.1 = 38 from (lk_eq (ch := 38) hT (by omega)).mpr hc.2), mI_5, ob, show (sc c r.2.1 false d).1 5 = nI r.2.1 from rfl, nI_1, mP_5, ob, sc_5, hM_C, if_pos rfl, e1, ob, hM_C, if_pos rfl]
      rw [seqL, if_pos ⟨hc.1, hc.2⟩]
      have hR : Gd E law p N ((f (r.2.1 + 1)).1, (f (r.2.1 + 1)).2.1, r.2.2 ++ ((f (r.2.1 + 1)).2.2 ++ if (f (r.2.1 + 1)).1 = true then [(Sum.inr (some false) : Tk)] else [])) := by
        have := seq_Gd (T := T) (ch := 38) (b := false) (by omega) hf 1 r p ⟨r1, r2, r3, fun _ => r4 hc.1⟩
        unfold seqL at this
        rw [if_pos ⟨hc.1, hc.2⟩] at this
        exact this
      have ih1 := ih g _ hR (by show E < n + (f (r.2.1 + 1)).2.1; omega) (by omega)
      rw [← ih1]
      cases hb : (f (r.2.1 + 1)).1
      · simp only [hb, Bool.not_false, if_neg (show ¬ false = true by decide), List.append_nil, List.map_append]
        rw [M_emitsW, ob, emL_app]
      · have hs2 := emL_c a ha ((f (r.2.1 + 1)).2.2.map encS) (L + (r.2.2.map encS).length) (emL a (r.2.2.map encS) L s) hs1
        simp only [hb, Bool.not_true, if_true, List.map_append]
        rw [M_emits h4 ha hs2 (by rw [List.length_map] at hlen ⊢; rw [List.length_map]; omega), ob, emL_app, emL_app]
        rfl
    · rw [seqL, if_neg hc, mI_7, ob]
      cases hb : r.1
      · rw [show (sc c r.2.1 (!false) d).1 7 = 1 from rfl, if_neg (by decide)]
        rfl
      · have hne : ¬ cAt T E r.2.1 = 38 := fun q => hc ⟨hb, q⟩
        rw [show (sc c r.2.1 (!true) d).1 7 = 0 from rfl, if_pos rfl, hM_C, if_pos rfl, show (!true) = false from rfl, M_here h6 hE r2 ht1, bd2_some, if_neg (show ¬ lkI T E r.2.1 = 38 from fun q => hne ((lk_eq (ch := 38) hT (by omega)).mp q))]
        rfl

theorem M_every {law : Bool} (h4 : c.1 4 = nI a) (h6 : c.1 6 = nI E) (ha : a < 10) (hE : E ≤ 120) (hT : ∀ i, i < E → T i < 256) {d N : Nat} {rf : HSt → Nat → Option HSt} {f : Nat → PR} (hrf : MRd m o c C T E a d rf f) (hf : ∀ q, q ≤ E → Gd E law q (N + 1) (f q)) : MRd m o c C T E a d (f_X12_every rf) (pT T E f) := by
  refine ⟨fun s p L hp ht hs hL => ?_, fun s p => ?_⟩
  · unfold f_X12_every
    rw [hM_C, if_pos rfl, hrf.1 s p L hp ht hs hL, ob]
    have hg := Gd_weak (hf p hp) (show N ≤ N + 1 by omega)
    exact M_everyL h4 h6 ha hE hT hrf hf ht hs hL 121 FU (f p) hg (by have := hg.1; omega) (by show 121 < 100000; omega)
  · unfold f_X12_every
    rw [hM_C, if_pos rfl, hrf.2 s p, ob]
    show f_X12_every_L4 m rf f_X12_every_K43 (99999 + 1) _ = _
    rw [f_X12_every_L4]
    unfold f_X12_every_B4
    rw [mI_7, ob, show (sc c p true d).1 7 = 1 from rfl, if_neg (by decide)]
    rfl

theorem M_someL {law : Bool} (h4 : c.1 4 = nI a) (h6 : c.1 6 = nI E) (ha : a < 10) (hE : E ≤ 120) (hT : ∀ i, i < E → T i < 256) {d N : Nat} {rf : HSt → Nat → Option HSt} {f : Nat → PR} (hrf : MRd m o c C T E a d (f_X12_every rf) f) (hf : ∀ q, q ≤ E → Gd E law q (N + 1) (f q)) {s : Nat → Int32} {p L : Nat} (ht : tpS T E s) (hs : s (325 + a) = nI L) (hL : L ≤ p) : ∀ (n g : Nat) (r : PR), Gd E law p N r → E < n + r.2.1 → n < g → f_X12_some_L4 m rf f_X12_some_K43 g (hM m (oS o (emL a (r.2.2.map encS) L s)) (sc c r.2.1 (!r.1) d) C) = some (hM m (oS o (emL a ((seqL T E f 124 (.inr (some true)) n r).2.2.map encS) L s)) (sc c (seqL T E f 124 (.inr (some true)) n r).2.1 (!(seqL T E f 124 (.inr (some true)) n r).1) d) C) := by
  intro n
  induction n with
  | zero =>
    intro g r hr hn hg
    exact absurd hr.2.1 (by omega)
  | succ n ih =>
    intro g r hr hn hg
    obtain ⟨g, rfl⟩ : ∃ e, g = e + 1 := ⟨g - 1, by omega⟩
    obtain ⟨r1, r2, r3, r4⟩ := hr
    have hlen : L + (r.2.2.map encS).length ≤ r.2.1 := by rw [List.length_map]; omega
    have ht1 := emL_tp (a := a) (L := L) hE (r.2.2.map encS) ht
    have hs1 := emL_c a ha (r.2.2.map encS) L s hs
    rw [f_X12_some_L4]
    unfold f_X12_some_B4
    by_cases hc : r.1 = true ∧ cAt T E r.2.1 = 124
    · have hp1 : r.2.1 < E := cAt_lt hc.2 (by omega)
      obtain ⟨g1, g2, g3, g4⟩ := hf (r.2.1 + 1) hp1
      have e1 := hrf.1 (emL a (r.2.2.map encS) L s) (r.2.1 + 1) (L + (r.2.2.map encS).length) hp1 ht1 hs1 (by omega)
      rw [hc.1, mI_7, ob, show (sc c r.2.1 (!true) d).1 7 = 0 from rfl, if_pos rfl, hM_C, if_pos rfl, show (!true) = false from rfl, M_here h6 hE r2 ht1, bd2_some, if_pos (show lkI T E r.2.1 = 124 from (lk_eq (ch := 124) hT (by omega)).mpr hc.2), mI_5, ob, show (sc c r.2.1 false d).1 5 = nI r.2.1 from rfl, nI_1, mP_5, ob, sc_5, hM_C, if_pos rfl, e1, ob, hM_C, if_pos rfl]
      rw [seqL, if_pos ⟨hc.1, hc.2⟩]
      have hR : Gd E law p N ((f (r.2.1 + 1)).1, (f (r.2.1 + 1)).2.1, r.2.2 ++ ((f (r.2.1 + 1)).2.2 ++ if (f (r.2.1 + 1)).1 = true then [(Sum.inr (some true) : Tk)] else [])) := by
        have := seq_Gd (T := T) (ch := 124) (b := true) (by omega) hf 1 r p ⟨r1, r2, r3, fun _ => r4 hc.1⟩
        unfold seqL at this
        rw [if_pos ⟨hc.1, hc.2⟩] at this
        exact this
      have ih1 := ih g _ hR (by show E < n + (f (r.2.1 + 1)).2.1; omega) (by omega)
      rw [← ih1]
      cases hb : (f (r.2.1 + 1)).1
      · simp only [hb, Bool.not_false, if_neg (show ¬ false = true by decide), List.append_nil, List.map_append]
        rw [M_emitsW, ob, emL_app]
      · have hs2 := emL_c a ha ((f (r.2.1 + 1)).2.2.map encS) (L + (r.2.2.map encS).length) (emL a (r.2.2.map encS) L s) hs1
        simp only [hb, Bool.not_true, if_true, List.map_append]
        rw [M_emits h4 ha hs2 (by rw [List.length_map] at hlen ⊢; rw [List.length_map]; omega), ob, emL_app, emL_app]
        rfl
    · rw [seqL, if_neg hc, mI_7, ob]
      cases hb : r.1
      · rw [show (sc c r.2.1 (!false) d).1 7 = 1 from rfl, if_neg (by decide)]
        rfl
      · have hne : ¬ cAt T E r.2.1 = 124 := fun q => hc ⟨hb, q⟩
        rw [show (sc c r.2.1 (!true) d).1 7 = 0 from rfl, if_pos rfl, hM_C, if_pos rfl, show (!true) = false from rfl, M_here h6 hE r2 ht1, bd2_some, if_neg (show ¬ lkI T E r.2.1 = 124 from fun q => hne ((lk_eq (ch := 124) hT (by omega)).mp q))]
        rfl

theorem M_some {law : Bool} (h4 : c.1 4 = nI a) (h6 : c.1 6 = nI E) (ha : a < 10) (hE : E ≤ 120) (hT : ∀ i, i < E → T i < 256) {d N : Nat} {rf : HSt → Nat → Option HSt} {f : Nat → PR} (hrf : MRd m o c C T E a d rf f) (hf : ∀ q, q ≤ E → Gd E law q (N + 2) (f q)) : MRd m o c C T E a d (f_X12_some rf) (pE T E f) := by
  have he := M_every (N := N + 1) h4 h6 ha hE hT hrf hf
  have hg2 := fun q hq => pT_Gd (T := T) (law := law) (N := N + 1) hf q hq
  refine ⟨fun s p L hp ht hs hL => ?_, fun s p => ?_⟩
  · unfold f_X12_some
    rw [hM_C, if_pos rfl, he.1 s p L hp ht hs hL, ob]
    have hg := Gd_weak (hg2 p hp) (show N ≤ N + 1 by omega)
    exact M_someL h4 h6 ha hE hT he hg2 ht hs hL 121 FU (pT T E f p) hg (by have := hg.1; omega) (by show 121 < 100000; omega)
  · unfold f_X12_some
    rw [hM_C, if_pos rfl, he.2 s p, ob]
    show f_X12_some_L4 m rf f_X12_some_K43 (99999 + 1) _ = _
    rw [f_X12_some_L4]
    unfold f_X12_some_B4
    rw [mI_7, ob, show (sc c p true d).1 7 = 1 from rfl, if_neg (by decide)]
    rfl
theorem M_test (hρ : rhoOk ρ) (h4 : c.1 4 = nI a) (h6 : c.1 6 = nI E) (ha : a < 10) (hE : E ≤ 120) (hT : ∀ i, i < E → T i < 256) {s : Nat → Int32} {p L d : Nat} (hp : p ≤ E) (ht : tpS T E s) (hs : s (325 + a) = nI L) (hL : L ≤ p) : f_X12_factor_J128 ρ m (ρ (ltI (lawB a))) (hM m (oS o s) (sc c p false d) C) = some (hM m (oS o (emL a ((pTest T E (lawB a) p).2.2.map encS) L s)) (sc c (pTest T E (lawB a) p).2.1 (!(pTest T E (lawB a) p).1) d) C) := by
  unfold f_X12_factor_J128 pTest
  rw [hM_C, if_pos rfl, M_among hρ h6 hE ht hT ltI_lt hp, bd2_some]
  cases hw : idxN (ltI (lawB a)) (cAt T E p) (lenN (ltI (lawB a))) 0 with
  | none =>
    have e : ixI none = -1 := rfl
    simp only [Option.isSome_none]
    rw [e, if_pos rfl, if_neg (by decide)]
    unfold f_X12_factor_J143
    rw [if_pos (Or.inr rfl), show (1 : Int32) = bI true from rfl, mP_7, ob, sc_7, mI_7, ob, show (sc c p true d).1 7 = 1 from rfl, if_neg (by decide)]
    unfold f_X12_factor_J163
    rw [mI_7, ob, show (sc c p true d).1 7 = 1 from rfl, if_neg (by decide)]
    unfold f_X12_factor_J182
    rw [if_pos (Or.inr rfl), show (1 : Int32) = bI true from rfl, mP_7, ob, sc_7, hM_C, if_pos rfl, M_figuresW, bd2_some, hM_C, if_pos rfl, M_emitsW, ob]
    rfl
  | some w =>
    obtain ⟨-, w1, w2⟩ := idxN_lt _ _ _ hw
    rw [lenI] at w1
    have w8 : w < 7 := by cases hlb : lawB a <;> rw [hlb] at w1 <;> simp at w1 <;> omega
    have e : ixI (some w) = nI w := rfl
    have hp1 : p < E := cAt_lt (T := T) rfl (by rw [← w2]; have := (chr_tab (ltI (lawB a)) ltI_lt w (by omega)).2; omega)
    simp only [Option.isSome_some]
    rw [e, if_neg (nI_m1 (by omega)), if_pos trivial]
    unfold f_X12_factor_J143
    rw [if_pos (Or.inl rfl), show (0 : Int32) = bI false from rfl, mP_7, ob, sc_7, mI_7, ob, show (sc c (p + 1) false d).1 7 = 0 from rfl, if_pos (show (0 : Int32) = bI false from rfl), hM_C, if_pos rfl, M_among hρ h6 hE ht hT (show 12 < 15 by omega) hp1, bd2_some, show lenN 12 = 3 from rfl]
    cases hh : idxN 12 (cAt T E (p + 1)) 3 0 with
    | none =>
      have e : ixI none = -1 := rfl
      simp only [Option.isSome_none]
      rw [e, if_neg (by decide)]
      unfold f_X12_factor_J163
      rw [mI_7, ob, show (sc c (p + 1) false d).1 7 = 0 from rfl, if_pos rfl, if_pos rfl]
      unfold f_X12_factor_J182
      rw [if_pos (Or.inr rfl), show (1 : Int32) = bI true from rfl, mP_7, ob, sc_7, hM_C, if_pos rfl, M_figuresW, bd2_some, hM_C, if_pos rfl, M_emitsW, ob]
      rfl
    | some h =>
      obtain ⟨-, v1, v2⟩ := idxN_lt _ _ _ hh
      have e : ixI (some h) = nI h := rfl
      have hp2 : p + 1 < E := cAt_lt (T := T) rfl (by rw [← v2]; have := (chr_tab 12 (by omega) h (by omega)).2; omega)
      simp only [Option.isSome_some]
      rw [e, if_pos trivial]
      unfold f_X12_factor_J163
      rw [mI_7, ob, show (sc c (p + 1 + 1) false d).1 7 = 0 from rfl, if_pos rfl, if_neg (nI_m1 (by omega))]
      unfold f_X12_factor_J182
      rw [if_pos (Or.inl rfl), show (0 : Int32) = bI false from rfl, mP_7, ob, sc_7, hM_C, if_pos rfl, M_figures h6 hE hp2 ht hT]
      cases hz : pNum T E (p + 1 + 1) with
      | none =>
        have hz' : pNum T E (p + 2) = none := hz
        simp only [hz']
        rw [bd2_some, hM_C, if_pos rfl, M_emitsW, ob]
        rfl
      | some z =>
        have hz' : pNum T E (p + 2) = some z := hz
        obtain ⟨z1, z2, z3⟩ := pNum_ok hz
        simp only [hz']
        have ev : nI w + 8 * nI h + 32 * nI z.1 = encS (.inl (w, h, z.1)) := by
          show _ = nI (w + 8 * h + 32 * z.1)
          rw [show (8 : Int32) = nI 8 from rfl, show (32 : Int32) = nI 32 from rfl, pk_mul, pk_mul, nI_add, nI_add]
        rw [bd2_some, hM_C, if_pos rfl, ev, M_emits h4 ha hs (by omega), ob]
        rfl
theorem M_factor (hρ : rhoOk ρ) (h4 : c.1 4 = nI a) (h6 : c.1 6 = nI E) (ha : a < 10) (hE : E ≤ 120) (hT : ∀ i, i < E → T i < 256) : ∀ (g d : Nat), d ≤ 5 → 7 ≤ g + d → MRd m o c C T E a d (fF_X12 ρ g) (pF T E (lawB a) g d) := by
  intro g
  induction g with
  | zero => intro d h1 h2; omega
  | succ g ih =>
    intro d hd hg
    refine ⟨fun s p L hp ht hs hL => ?_, fun s p => ?_⟩
    · show f_X12_factor_B (fF_X12 ρ g) ρ (hM m (oS o s) (sc c p false d) C) m = _
      unfold f_X12_factor_B
      rw [mI_7, ob, show (sc c p false d).1 7 = 0 from rfl, if_pos rfl, hM_C, if_pos rfl, M_here h6 hE hp ht, bd2_some]
      -- five are open: a fault
      have bad : ∀ v : Int32, d = 5 → f_X12_factor_J25 m (fF_X12 ρ g) v (hM m (oS o s) (sc c p false d) C) = some (hM m (oS o s) (sc c p true d) C) := fun v h5 => by
        subst h5
        have i1 : ∀ (s : Nat → Int32) (p : Nat), fF_X12 ρ g (hM m (oS o s) (sc c p true 6) C) m = some (hM m (oS o s) (sc c p true 6) C) := by
          intro s p
          cases g with
          | zero => omega
          | succ g =>
            show f_X12_factor_B (fF_X12 ρ g) ρ (hM m (oS o s) (sc c p true 6) C) m = _
            unfold f_X12_factor_B
            rw [mI_7, ob, show (sc c p true 6).1 7 = 1 from rfl, if_neg (by decide)]
        have i2 : f_X12_some (fF_X12 ρ g) (hM m (oS o s) (sc c p true 6) C) m = some (hM m (oS o s) (sc c p true 6) C) := by
          unfold f_X12_some f_X12_every
          rw [hM_C, if_pos rfl, if_pos rfl, i1, ob]
          show (f_X12_every_L4 m (fF_X12 ρ g) f_X12_every_K43 (99999 + 1) _).bind (fun S3 => f_X12_some_L4 m (fF_X12 ρ g) f_X12_some_K43 (99999 + 1) S3) = _
          rw [f_X12_every_L4]
          unfold f_X12_every_B4
          rw [mI_7, ob, show (sc c p true 6).1 7 = 1 from rfl, if_neg (by decide)]
          unfold f_X12_every_K43
          rw [ob, f_X12_some_L4]
          unfold f_X12_some_B4
          rw [mI_7, ob, show (sc c p true 6).1 7 = 1 from rfl, if_neg (by decide)]
          rfl
        unfold f_X12_factor_J25
        rw [mI_8, ob, show (sc c p false 5).1 8 = 5 from rfl, if_pos rfl]
        unfold f_X12_factor_J39
        rw [if_pos (Or.inr rfl), show (1 : Int32) = bI true from rfl, mP_7, ob, sc_7, mI_8, ob, show (sc c p true 5).1 8 + bI true = nI 6 from rfl, mP_8, ob, sc_8, mI_5, ob, mI_7, ob, show (sc c p true 6).1 7 = 1 from rfl, if_neg (by decide)]
        unfold f_X12_factor_J69
        rw [show (sc c p true 6).1 5 + 0 = nI p from nI_add p 0, mP_5, ob, sc_5, hM_C, if_pos rfl, if_pos rfl, i1, ob, hM_C, if_pos rfl, M_emitsW, ob, mI_8, ob, show (sc c p true 6).1 8 - 1 = nI 5 from nI_pred 5, mP_8, ob, sc_8, i2, ob, hM_C, if_pos rfl, M_mustW, ob, mI_8, ob, show (sc c p true 6).1 8 - 1 = nI 5 from nI_pred 5, mP_8, ob, sc_8, ite_self]
      -- one more is open
      have opn : ∀ v : Int32, d < 5 → f_X12_factor_J25 m (fF_X12 ρ g) v (hM m (oS o s) (sc c p false d) C) = if v = 33 then ((fF_X12 ρ g (hM m (oS o s) (sc c (p + 1) false (d + 1)) C) m).bind fun S41 => if gC S41 m = some 12 then ((f_X12_emits S41 m (-1)).bind fun S44 => (gI S44 m 12 8).bind fun v45 => (pV S44 m 12 8 (.int (v45 - 1))).bind fun S47 => some S47) else none) else ((f_X12_some (fF_X12 ρ g) (hM m (oS o s) (sc c (p + 1) false (d + 1)) C) m).bind fun S31 => if gC S31 m = some 12 then ((f_X12_must S31 m 41).bind fun S34 => (gI S34 m 12 8).bind fun v35 => (pV S34 m 12 8 (.int (v35 - 1))).bind fun S37 => some S37) else none) := fun v h5 => by
        unfold f_X12_factor_J25
        rw [mI_8, ob, show (sc c p false d).1 8 = nI d from rfl, if_neg (show ¬ nI d = 5 from fun q => by have := (nI_eq (b := 5) (by omega) (by omega)).mp q; omega)]
        unfold f_X12_factor_J39
        rw [if_pos (Or.inl rfl), show (0 : Int32) = bI false from rfl, mP_7, ob, sc_7, mI_8, ob, show (sc c p false d).1 8 + 1 = nI (d + 1) from nI_1 d, mP_8, ob, sc_8, mI_5, ob, mI_7, ob, show (sc c p false (d + 1)).1 7 = 0 from rfl, if_pos (show (0 : Int32) = bI false from rfl)]
        unfold f_X12_factor_J69
        rw [show (sc c p false (d + 1)).1 5 + 1 = nI (p + 1) from nI_1 p, mP_5, ob, sc_5, hM_C, if_pos rfl, if_pos rfl]
      have hdn : ∀ (w : Bool) (q : Nat), (sc c q w (d + 1)).1 8 - 1 = nI d := fun w q => nI_pred d
      rw [pF]
      by_cases h33 : cAt T E p = 33
      · have hp1 : p < E := cAt_lt h33 (by omega)
        rw [if_pos (show lkI T E p = 33 from (lk_eq (ch := 33) hT (by omega)).mpr h33), if_pos h33]
        by_cases h5 : d < 5
        · obtain ⟨g1, g2, g3, g4⟩ := pF_Gd (T := T) (E := E) (law := lawB a) g (d + 1) (p + 1) (by omega) hp1
          have e1 := (ih (d + 1) (by omega) (by omega)).1 s (p + 1) L hp1 ht hs (by omega)
          rw [opn _ h5, if_pos (show lkI T E p = 33 from (lk_eq (ch := 33) hT (by omega)).mpr h33), if_pos h5, e1, ob, hM_C, if_pos rfl]
          generalize pF T E (lawB a) g (d + 1) (p + 1) = r at *
          have hs1 := emL_c a ha (r.2.2.map encS) L s hs
          cases hb : r.1
          · simp only [Bool.not_false, if_neg (show ¬ false = true by decide), List.append_nil]
            rw [M_emitsW, ob, mI_8, ob, hdn, mP_8, ob, sc_8]
          · simp only [Bool.not_true, if_true, List.map_append]
            rw [M_emits h4 ha hs1 (by rw [List.length_map]; omega), ob, mI_8, ob, hdn, mP_8, ob, sc_8, emL_app]
            rfl
        · rw [bad _ (by omega), if_neg h5]
          rfl
      · rw [if_neg (show ¬ lkI T E p = 33 from fun q => h33 ((lk_eq (ch := 33) hT (by omega)).mp q)), if_neg h33]
        by_cases h40 : cAt T E p = 40
        · have hp1 : p < E := cAt_lt h40 (by omega)
          rw [if_pos (show lkI T E p = 40 from (lk_eq (ch := 40) hT (by omega)).mpr h40), if_pos h40]
          by_cases h5 : d < 5
          · obtain ⟨g1, g2, g3, g4⟩ := pE_Gd (T := T) (E := E) (law := lawB a) (N := 2 * d + 2) (fun q hq => pF_Gd g (d + 1) q (by omega) hq) (p + 1) hp1
            have hsm := M_some (N := 2 * d + 2) (law := lawB a) h4 h6 ha hE hT (ih (d + 1) (by omega) (by omega)) (fun q hq => pF_Gd g (d + 1) q (by omega) hq)
            have e1 := hsm.1 s (p + 1) L hp1 ht hs (by omega)
            rw [opn _ h5, if_neg (show ¬ lkI T E p = 33 from fun q => h33 ((lk_eq (ch := 33) hT (by omega)).mp q)), if_pos h5, e1, ob, hM_C, if_pos rfl]
            generalize pE T E (pF T E (lawB a) g (d + 1)) (p + 1) = r at *
            have ht1 := emL_tp (a := a) (L := L) hE (r.2.2.map encS) ht
            cases hb : r.1
            · have hn : ¬ (false = true ∧ cAt T E r.2.1 = 41) := fun q => by cases q.1
              simp only [Bool.not_false, if_neg hn]
              rw [M_mustW, ob, mI_8, ob, hdn, mP_8, ob, sc_8]
            · simp only [Bool.not_true, true_and]
              rw [show (41 : Int32) = nI 41 from rfl, M_must h6 hE g2 ht1 hT (by omega), ob, mI_8, ob, hdn, mP_8, ob, sc_8]
              by_cases h41 : cAt T E r.2.1 = 41
              · simp [h41]
              · simp [h41]
          · rw [bad _ (by omega), if_neg h5]
            rfl
        · rw [if_neg (show ¬ lkI T E p = 40 from fun q => h40 ((lk_eq (ch := 40) hT (by omega)).mp q)), if_neg h40, mI_4, ob, show (sc c p false d).1 4 = nI a from h4]
          have ht2 := M_test (m := m) (o := o) (C := C) (d := d) hρ h4 h6 ha hE hT hp ht hs hL
          unfold ltI lawB at ht2
          by_cases h5 : 5 ≤ a
          · rw [if_pos (show (5 : Int32) ≤ nI a from nI_le (a := 5) h5 (by omega))]
            simp only [h5, decide_true, if_true] at ht2
            rw [ht2]
            simp [lawB, h5]
          · rw [if_neg (show ¬ (5 : Int32) ≤ nI a from nI_ge (b := 5) (by omega) (by omega))]
            simp only [h5, decide_false, if_neg (show ¬ false = true by decide)] at ht2
            rw [ht2]
            simp [lawB, h5]
    · show f_X12_factor_B (fF_X12 ρ g) ρ (hM m (oS o s) (sc c p true d) C) m = _
      unfold f_X12_factor_B
      rw [mI_7, ob, show (sc c p true d).1 7 = 1 from rfl, if_neg (by decide)]
theorem M_someR (hρ : rhoOk ρ) (h4 : c.1 4 = nI a) (h6 : c.1 6 = nI E) (ha : a < 10) (hE : E ≤ 120) (hT : ∀ i, i < E → T i < 256) : MRd m o c C T E a 0 (f_X12_someR ρ) (pE T E (pF T E (lawB a) 12 0)) := M_some (N := 0) (law := lawB a) h4 h6 ha hE hT (M_factor hρ h4 h6 ha hE hT 12 0 (by omega) (by omega)) (fun q hq => pF_Gd 12 0 q (by omega) hq)
end MFAC
