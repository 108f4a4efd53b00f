/-! BOTH READ: side by side, a text -/
section JLP
variable {m n j a p E : Nat} {law : Bool} {o : MO} {c : MC} {C B : HSt} {T : Nat → Nat} {ρ : Nat → Nat} {k : KK} {b : Nat → Int32} {s s0 : Nat → Int32} {y : XT} {cls : List Cl}
theorem M_K130 {o : MO} (h6 : c.1 6 = nI E) (hp : p ≤ E) (hE : E ≤ 120) (v : Int32) (w : Bool) (d : Nat) : f_X12_reads_K130 m v (hM m o (sc c p w d) C) = some (if w = false ∧ p = E then v else -10 - nI p, hM m o (sc c p w d) C) := by
  unfold f_X12_reads_K130
  rw [mI_7, ob, mI_5, ob, mI_6, ob, ob, show (sc c p w d).1 7 = bI w from rfl, show (sc c p w d).1 5 = nI p from rfl, show (sc c p w d).1 6 = c.1 6 from rfl, h6]
  cases w
  · rw [if_pos (show bI false = 0 from rfl)]
    by_cases h : p = E
    · rw [if_pos (by rw [h]), if_pos ⟨rfl, h⟩]
    · rw [if_neg (fun q => h ((nI_eq (by omega) (by omega)).mp q)), if_neg (fun q => h q.2)]
  · rw [if_neg (show ¬ bI true = 0 by decide), if_neg (fun q => by cases q.1)]
theorem C_sz0 : pV (CS n ρ k j b E B p y) (n + 2) 6 1 (.int 0) = some (hK n ρ (kuTp (kuTx k j y) (b, 0, nI p)) B) := by
  have e := PP_1 (n + 2) (b, nI E, nI p) (CS n ρ k j b E B p y) 0
  rw [CS_P] at e
  rw [e]
  unfold CS
  rw [hK_tp]
theorem C_K64 (hp : p ≤ E) (hE : E ≤ 120) (ok : Bool) : f_X6_readInto_K64 (n + 2) (bI ok) (CS n ρ k j b E B p y) = some (if ok = true ∧ p = E then -1 else nI p, hK n ρ (kuTp (kuTx k j y) (b, 0, nI p)) B) := by
  unfold f_X6_readInto_K64
  rw [C_at, C_sz, C_sz0]
  cases ok
  · rw [if_pos (show bI false = 0 from rfl), ob, ob, if_neg (fun q => by cases q.1)]
  · rw [if_neg (show ¬ bI true = 0 by decide), ob, ob]
    by_cases h : p = E
    · rw [if_neg (show ¬ nI p < nI E by rw [h]; exact Int32.lt_irrefl), ob, if_pos ⟨rfl, h⟩]
    · rw [if_pos (show nI p < nI E from nI_lt (by omega) (by omega)), ob, ob, if_neg (fun q => h q.2)]
theorem M_J108 {f : Nat} {i : Nat} (hi : i < 100) (h6 : c.1 6 = nI E) (hp : p ≤ E) (hE : E ≤ 120) {s : Nat → Int32} {v : Int32} (w : Bool) : f_X12_reads_J108 m (f_X12_reads_L55 ρ m (f_X12_reads_K130 m v) (f + 1)) (nI i) 0 (hM m (oS o s) (sc c p w 0) C) = some (if w = false ∧ p = E then v else -10 - nI p, hM m (oS o s) (sc c p w 0) C) := by
  unfold f_X12_reads_J108
  rw [mI_5, ob, if_pos rfl, show (sc c p w 0).1 5 = nI p from rfl, show nI p + 0 = nI p from Int32.add_zero _, mP_5, ob, sc_5, f_X12_reads_L55]
  unfold f_X12_reads_B55
  rw [if_pos rfl, M_K130 h6 hp hE]
theorem J_loop (hρ : rhoOk ρ) (hj : j < 10) (hjl : j % 2 = if law then 1 else 0) (h4 : c.1 4 = nI a) (h6 : c.1 6 = nI E) (ha : a < 10) (hal : law = lawB a) (hE : E ≤ 120) (hT : ∀ i, i < E → T i < 256) (hb : ∀ i, i < E → b i &&& 255 = nI (T i)) : ∀ (r i p f g : Nat) (s : Nat → Int32) (y : XT) (cls : List Cl), i + r = 7 → r + 1 < f → r + 1 < g → p ≤ E → tpS T E s → JT law a s y cls p → cls.length ≤ i → OUT law a s0 s → ∃ (fin : Bool) (p' : Nat) (w : Bool) (s' : Nat → Int32) (y' : XT),
    f_X12_reads_L55 ρ m (f_X12_reads_K130 m (nI a)) f (nI i) 1 (hM m (oS o s) (sc c p false 0) C) = some (if fin = true then nI a else -10 - nI p', hM m (oS o s') (sc c p' w 0) C) ∧
    bd2 (f_X6_readClause ρ (CS n ρ k j b E B p y) (n + 2) (txA n j)) (fun v S => f_X6_readInto_L23 ρ (n + 2) (txA n j) (f_X6_readInto_K64 (n + 2)) g v (nI (i + 1)) S) = some (if fin = true then -1 else nI p', hK n ρ (kuTp (kuTx k j y') (b, 0, nI p')) B) ∧ p' ≤ E ∧ OUT law a s0 s' ∧ (fin = true → ∃ cls', JT law a s' y' cls' E ∧ cls'.length ≤ 8) := by
  intro r
  induction r with
  | zero =>
    intro i p f g s y cls hi hf hg hp ht hJ hc hO
    obtain ⟨f, rfl⟩ : ∃ e, f = e + 2 := ⟨f - 2, by omega⟩
    obtain ⟨g, rfl⟩ : ∃ e, g = e + 2 := ⟨g - 2, by omega⟩
    obtain rfl : i = 7 := by omega
    obtain ⟨ok, p1, s1, y1, F1, G1, q1, q2, q3, q4, q5⟩ := J_step (m := m) (n := n) (o := o) (C := C) (B := B) (k := k) hρ hj hjl h4 h6 ha hal hE hT ht hb hp hJ (show cls.length < 8 by omega) hO
    refine ⟨decide (ok = true ∧ p1 = E), p1, !ok, s1, y1, ?_, ?_, q2, q3, fun h => ?_⟩
    · rw [f_X12_reads_L55]
      unfold f_X12_reads_B55
      have hh : ∀ K : HSt → Option (Int32 × HSt), (if 5 ≤ nI a then (if gC (hM m (oS o s) (sc c p false 0) C) m = some 12 then ((f_X12_lawHere ρ (hM m (oS o s) (sc c p false 0) C) m).bind fun S66 => K S66) else none) else (if gC (hM m (oS o s) (sc c p false 0) C) m = some 12 then ((f_X12_planHere ρ (hM m (oS o s) (sc c p false 0) C) m).bind fun S69 => K S69) else none)) = K (hM m (oS o s1) (sc c p1 (!ok) 0) C) := fun K => by
        rw [hM_C, if_pos rfl, if_pos rfl]
        by_cases h5 : 5 ≤ a
        · rw [if_pos (show law = true by rw [hal]; exact decide_eq_true h5)] at F1
          rw [if_pos (show (5 : Int32) ≤ nI a from nI_le (a := 5) h5 (by omega)), F1, ob]
        · rw [if_neg (show ¬ law = true by rw [hal]; exact fun q => h5 (of_decide_eq_true q))] at F1
          rw [if_neg (show ¬ (5 : Int32) ≤ nI a from nI_ge (b := 5) (by omega) (by omega)), F1, ob]
      rw [if_neg (by decide), mI_4, ob, show (sc c p false 0).1 4 = c.1 4 from rfl, h4]
      rw [hh]
      unfold f_X12_reads_J78
      rw [mI_7, ob, show (sc c p1 (!ok) 0).1 7 = bI (!ok) from rfl, if_pos (show (8 : Int32) ≤ nI 7 + 1 by decide), M_J108 (by omega) h6 q2 hE]
      have : (if bI (!ok) = 0 then some (if (!ok) = false ∧ p1 = E then nI a else -10 - nI p1, hM m (oS o s1) (sc c p1 (!ok) 0) C) else some (if (!ok) = false ∧ p1 = E then nI a else -10 - nI p1, hM m (oS o s1) (sc c p1 (!ok) 0) C)) = some (if (!ok) = false ∧ p1 = E then nI a else -10 - nI p1, hM m (oS o s1) (sc c p1 (!ok) 0) C) := ite_self _
      rw [this]
      cases ok <;> simp
    · rw [G1, bd2_some, f_X6_readInto_L23]
      unfold f_X6_readInto_B23
      rw [C_gC, if_pos rfl, C_look hE hb p1 q2, bd2_some, if_pos (show (8 : Int32) ≤ nI (7 + 1) by decide), C_K64 q2 hE]
      by_cases h1 : bI ok = 0
      · rw [if_pos h1]
        simp
      · rw [if_neg h1]
        simp
    · obtain ⟨h1, h2⟩ := of_decide_eq_true h
      obtain ⟨cls', j1, j2⟩ := q5 h1
      rw [h2] at j1
      exact ⟨cls', j1, by omega⟩
  | succ r ih =>
    intro i p f g s y cls hi hf hg hp ht hJ hc hO
    obtain ⟨f, rfl⟩ : ∃ e, f = e + 2 := ⟨f - 2, by omega⟩
    obtain ⟨g, rfl⟩ : ∃ e, g = e + 2 := ⟨g - 2, by omega⟩
    obtain ⟨ok, p1, s1, y1, F1, G1, q1, q2, q3, q4, q5⟩ := J_step (m := m) (n := n) (o := o) (C := C) (B := B) (k := k) hρ hj hjl h4 h6 ha hal hE hT ht hb hp hJ (show cls.length < 8 by omega) hO
    have hh : ∀ K : HSt → Option (Int32 × HSt), (if 5 ≤ nI a then (if gC (hM m (oS o s) (sc c p false 0) C) m = some 12 then ((f_X12_lawHere ρ (hM m (oS o s) (sc c p false 0) C) m).bind fun S66 => K S66) else none) else (if gC (hM m (oS o s) (sc c p false 0) C) m = some 12 then ((f_X12_planHere ρ (hM m (oS o s) (sc c p false 0) C) m).bind fun S69 => K S69) else none)) = K (hM m (oS o s1) (sc c p1 (!ok) 0) C) := fun K => by
      rw [hM_C, if_pos rfl, if_pos rfl]
      by_cases h5 : 5 ≤ a
      · rw [if_pos (show law = true by rw [hal]; exact decide_eq_true h5)] at F1
        rw [if_pos (show (5 : Int32) ≤ nI a from nI_le (a := 5) h5 (by omega)), F1, ob]
      · rw [if_neg (show ¬ law = true by rw [hal]; exact fun q => h5 (of_decide_eq_true q))] at F1
        rw [if_neg (show ¬ (5 : Int32) ≤ nI a from nI_ge (b := 5) (by omega) (by omega)), F1, ob]
    have l59 : (lkI T E p1 = 59) ↔ cAt T E p1 = 59 := lk_eq (ch := 59) hT (by omega)
    by_cases hgo : ok = true ∧ cAt T E p1 = 59
    · obtain ⟨hok, h59⟩ := hgo
      subst hok
      obtain ⟨cls1, j1, j2⟩ := q5 rfl
      have hp1 : p1 < E := cAt_lt h59 (by omega)
      obtain ⟨fin, p', w, s', y', r1, r2, r3, r4, r5⟩ := ih (i + 1) (p1 + 1) (f + 1) (g + 1) s1 y1 cls1 (by omega) (by omega) (by omega) hp1 q4 (JT_mono j1 (by omega)) (by omega) q3
      refine ⟨fin, p', w, s', y', ?_, ?_, r3, r4, r5⟩
      · rw [f_X12_reads_L55]
        unfold f_X12_reads_B55
        rw [if_neg (by decide), mI_4, ob, show (sc c p false 0).1 4 = c.1 4 from rfl, h4]
        rw [hh]
        unfold f_X12_reads_J78
        rw [mI_7, ob, show (sc c p1 (!true) 0).1 7 = 0 from rfl, if_pos rfl, nI_1, if_neg (show ¬ (8 : Int32) ≤ nI (i + 1) from nI_ge (b := 8) (by omega) (by omega)), hM_C, if_pos rfl, M_here h6 hE q2 q4, bd2_some, if_pos (l59.mpr h59)]
        unfold f_X12_reads_J108
        rw [mI_5, ob, if_neg (by decide), show (sc c p1 (!true) 0).1 5 = nI p1 from rfl, nI_1, mP_5, ob, sc_5, nI_1]
        exact r1
      · rw [G1, bd2_some, f_X6_readInto_L23]
        unfold f_X6_readInto_B23
        rw [if_neg (show ¬ bI true = 0 by decide), C_gC, if_pos rfl, C_look hE hb p1 q2, bd2_some, if_pos (l59.mpr h59), if_neg (show ¬ (8 : Int32) ≤ nI (i + 1) from nI_ge (b := 8) (by omega) (by omega)), C_at, ob, nI_1, C_set, ob, C_gC, if_pos rfl, nI_1]
        exact r2
    · refine ⟨decide (ok = true ∧ p1 = E), p1, !ok, s1, y1, ?_, ?_, q2, q3, fun h => ?_⟩
      · rw [f_X12_reads_L55]
        unfold f_X12_reads_B55
        rw [if_neg (by decide), mI_4, ob, show (sc c p false 0).1 4 = c.1 4 from rfl, h4]
        rw [hh]
        unfold f_X12_reads_J78
        rw [mI_7, ob, show (sc c p1 (!ok) 0).1 7 = bI (!ok) from rfl, nI_1, if_neg (show ¬ (8 : Int32) ≤ nI (i + 1) from nI_ge (b := 8) (by omega) (by omega)), hM_C, if_pos rfl, M_here h6 hE q2 q4, bd2_some, M_J108 (by omega) h6 q2 hE]
        cases ok
        · rw [if_neg (show ¬ bI (!false) = 0 by decide)]
          simp
        · rw [if_pos (show bI (!true) = 0 from rfl), if_neg (fun q => hgo ⟨rfl, l59.mp q⟩)]
          simp
      · rw [G1, bd2_some, f_X6_readInto_L23]
        unfold f_X6_readInto_B23
        rw [C_gC, if_pos rfl, C_look hE hb p1 q2, bd2_some, C_K64 q2 hE]
        cases ok
        · rw [if_pos (show bI false = 0 from rfl)]
          simp
        · rw [if_neg (show ¬ bI true = 0 by decide), if_neg (fun q => hgo ⟨rfl, l59.mp q⟩)]
          simp
      · obtain ⟨h1, h2⟩ := of_decide_eq_true h
        obtain ⟨cls', j1, j2⟩ := q5 h1
        rw [h2] at j1
        exact ⟨cls', j1, by omega⟩
end JLP
