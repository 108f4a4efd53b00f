/-! BOTH READ: side by side, one clause -/
section JST
variable {m n j a p E : Nat} {law : Bool} {o : MO} {c : MC} {C B : HSt} {T : Nat → Nat} {ρ : Nat → Nat} {k : KK} {b : Nat → Int32} {s s0 : Nat → Int32} {y : XT} {cls : List Cl}
def JR (m n j a p E : Nat) (law : Bool) (o : MO) (c : MC) (C B : HSt) (T : Nat → Nat) (ρ : Nat → Nat) (k : KK) (b : Nat → Int32) (s0 : Nat → Int32) (cls : List Cl) (F : Option HSt) (G : Option (Int32 × HSt)) : Prop := ∃ (ok : Bool) (p' : Nat) (s' : Nat → Int32) (y' : XT), F = some (hM m (oS o s') (sc c p' (!ok) 0) C) ∧ G = some (bI ok, CS n ρ k j b E B p' y') ∧ p ≤ p' ∧ p' ≤ E ∧ OUT law a s0 s' ∧ tpS T E s' ∧ (ok = true → ∃ cls', JT law a s' y' cls' p' ∧ cls'.length ≤ cls.length + 1)
theorem JT_mono {q q' : Nat} (h : JT law a s y cls q) (hq : q ≤ q') : JT law a s y cls q' := ⟨⟨h.1.1, h.1.2.1, by have := h.1.2.2; omega⟩, ⟨h.2.1.1, h.2.1.2.1, h.2.1.2.2.1, by have := h.2.1.2.2.2; omega⟩, h.2.2.1, h.2.2.2⟩
theorem tLet_law {j : Nat} (hjl : j % 2 = if law then 1 else 0) : tLet ρ j = ρ (ltC law) := by
  unfold tLet ltC
  cases law
  · rw [if_pos (show j % 2 = 0 from hjl)]; rfl
  · rw [if_neg (show ¬ j % 2 = 0 by simp at hjl; omega)]; rfl
theorem tpS_W {W : Nat} (h : tpS T E s) (hE : E ≤ 120) (hW : 310 ≤ W) (v : Int32) : tpS T E (upd s W v) := fun i hi => by
  rw [pk_un (by omega)]
  exact h i hi
theorem J_num (hρ : rhoOk ρ) (hj : j < 10) (hjl : j % 2 = if law then 1 else 0) (h6 : c.1 6 = nI E) (ha : a < 10) (hE : E ≤ 120) (hT : ∀ i, i < E → T i < 256) (ht : tpS T E s) (hb : ∀ i, i < E → b i &&& 255 = nI (T i)) (hp : p ≤ E) (hJ : JT law a s y cls p) (h8 : cls.length < 8) (hO : OUT law a s0 s) {ch i F W : Nat} {w : Int32} (hch : cAt T E p = ch) (hi : wI law ch = i) (hi2 : i ≠ 2) (htd : ch = 104 ∨ ch = 110) (hF : (if ch = 104 then 8 else if law then 10 else 9) = F) (hw : w = nI W) (hFW : (law = true ∧ F = 10 ∧ W = 315 + a) ∨ (law = false ∧ F = 8 ∧ W = 310 + a) ∨ (law = false ∧ F = 9 ∧ W = 315 + a)) :
    JR m n j a p E law o c C B T ρ k b s0 cls (f_X12_numbered ρ (hM m (oS o s) (sc c p false 0) C) m w (ρ i)) (f_X6_readClause ρ (CS n ρ k j b E B p y) (n + 2) (txA n j)) := by
  have hi11 : i < 11 := hi ▸ wI_lt law ch
  have hl := len_tab i (by omega)
  obtain ⟨w1, w2, w3⟩ := pW_ok (T := T) (E := E) i (by omega) (lenN i) 0 p (by omega) hp
  have hWs : W ≤ 324 := by omega
  have hWW : (law = false ∧ W = 310 + a) ∨ W = 315 + a := by
    rcases hFW with h | h | h
    · exact Or.inr h.2.2
    · exact Or.inl ⟨h.1, h.2.2⟩
    · exact Or.inr h.2.2
  rw [M_numbered hρ h6 hE hT ht hp (show i < 15 by omega) hw (by omega), C_clause hρ hj hjl (tLet_law hjl) hE hb hT h8 hp hJ.2.1.1 hJ.2.1.2.1 hJ.2.1.2.2.2, hch, hi, if_neg hi2, if_pos htd, hF]
  generalize pW T E i (lenN i) 0 p = r at *
  by_cases hr : r.1 = true
  · rw [if_pos hr, if_pos hr]
    cases hz : pNum T E r.2 with
    | none => exact ⟨false, r.2, s, _, rfl, rfl, w1, w2, hO, ht, fun q => by cases q⟩
    | some z =>
      obtain ⟨z1, z2, z3⟩ := pNum_ok hz
      refine ⟨true, z.2, upd s W (nI z.1), tl1 y F (nI z.1), rfl, rfl, by omega, z3, OUT_hd hO hWW _, tpS_W ht hE (by omega) _, fun _ => ⟨cls, JT_tell ha hJ z1 (by omega) hFW, by omega⟩⟩
  · rw [if_neg hr, if_neg hr]
    exact ⟨false, r.2, s, y, rfl, rfl, w1, w2, hO, ht, fun q => by cases q⟩
theorem dep_ne {toks : List Tk} (h : dep toks 0 = some 1) : toks ≠ [] := fun z => by
  subst z
  cases h
theorem J_tst (hρ : rhoOk ρ) (hj : j < 10) (hjl : j % 2 = if law then 1 else 0) (h4 : c.1 4 = nI a) (h6 : c.1 6 = nI E) (ha : a < 10) (hal : law = lawB a) (hE : E ≤ 120) (hT : ∀ i, i < E → T i < 256) (ht : tpS T E s) (hb : ∀ i, i < E → b i &&& 255 = nI (T i)) (hp : p ≤ E) (hJ : JT law a s y cls p) (h8 : cls.length < 8) (hO : OUT law a s0 s) {ch i K : Nat} {v : Int32} (hch : cAt T E p = ch) (hi : wI law ch = i) (hi2 : i ≠ 2) (htd : ¬ (ch = 104 ∨ ch = 110)) (hl : law = false) (hK : K < 2) (hcK : ch = wdN K) (hv : v = nI K) :
    JR m n j a p E law o c C B T ρ k b s0 cls (f_X12_tested ρ (hM m (oS o s) (sc c p false 0) C) m v (ρ i)) (f_X6_readClause ρ (CS n ρ k j b E B p y) (n + 2) (txA n j)) := by
  have hi11 : i < 11 := hi ▸ wI_lt law ch
  have hln := len_tab i (by omega)
  obtain ⟨w1, w2, w3⟩ := pW_ok (T := T) (E := E) i (by omega) (lenN i) 0 p (by omega) hp
  have a3 := hJ.1.2.2
  rw [M_tested hρ h4 h6 ha hE hT ht hp hJ.1.2.1 a3 (show i < 15 by omega) hv, C_clause hρ hj hjl (tLet_law hjl) hE hb hT h8 hp hJ.2.1.1 hJ.2.1.2.1 hJ.2.1.2.2.2, hch, hi, if_neg hi2, if_neg htd, ← hal, if_neg (show ¬ law = true by rw [hl]; decide)]
  obtain ⟨g1, g2, g3, g4⟩ := pE_Gd (T := T) (E := E) (law := law) (N := 0) (f := pF T E law 12 0) (fun q hq => pF_Gd 12 0 q (by omega) hq) (pW T E i (lenN i) 0 p).2 w2
  have w3' : (pW T E i (lenN i) 0 p).1 = true → p < (pW T E i (lenN i) 0 p).2 := fun h => by
    have := w3 h
    have : lenN i ≠ 0 := by
      have : ∀ i, i < 11 → i ≠ 2 → lenN i ≠ 0 := by decide +kernel
      exact this _ hi11 hi2
    omega
  generalize pW T E i (lenN i) 0 p = r at *
  generalize pE T E (pF T E law 12 0) r.2 = e at *
  by_cases hr : r.1 = true
  · rw [if_pos hr, if_pos hr]
    have w3 := w3' hr
    have hL : (flat cls).length + (e.2.2.map encS).length ≤ 120 := by rw [List.length_map]; omega
    cases he : e.1
    · rw [if_neg (by decide), List.append_nil]
      exact ⟨false, e.2.1, _, _, rfl, rfl, by omega, g2, OUT_em hO (by omega), emL_tp hE _ ht, fun q => by cases q⟩
    · obtain ⟨k1, k2, k3⟩ := g4 he
      rw [if_pos rfl]
      refine ⟨true, e.2.1, _, _, rfl, rfl, by omega, g2, OUT_em hO (by rw [List.length_append]; show _ + (_ + 1) ≤ _; omega), emL_tp hE _ ht, fun _ => ⟨cls ++ [(K, 0, e.2.2)], ?_, by rw [List.length_append]; exact Nat.le_refl _⟩⟩
      have := JT_add (toks := e.2.2) (num := 0) (pos := e.2.1) ha hJ h8 (show K < 5 by omega) (by rw [hl]; exact hK) (by omega) w3 g3 (by omega) (dep_ne (k2 0 (Nat.le_refl _))) (k2 0 (Nat.le_refl _)) k3 hcK
      rw [Nat.add_zero] at this
      exact this
  · rw [if_neg hr, if_neg hr]
    exact ⟨false, r.2, s, y, rfl, rfl, w1, w2, hO, ht, fun q => by cases q⟩
theorem J_say (hρ : rhoOk ρ) (hj : j < 10) (hjl : j % 2 = if law then 1 else 0) (h4 : c.1 4 = nI a) (h6 : c.1 6 = nI E) (ha : a < 10) (hal : law = lawB a) (hE : E ≤ 120) (hT : ∀ i, i < E → T i < 256) (ht : tpS T E s) (hb : ∀ i, i < E → b i &&& 255 = nI (T i)) (hp : p ≤ E) (hJ : JT law a s y cls p) (h8 : cls.length < 8) (hO : OUT law a s0 s) {ch i K : Nat} {v : Int32} (hch : cAt T E p = ch) (hi : wI law ch = i) (hi2 : i ≠ 2) (htd : ¬ (ch = 104 ∨ ch = 110)) (hl : law = true) (hK : 2 ≤ K) (hK5 : K < 5) (hcK : ch = wdN K) (hv : v = nI K) :
    JR m n j a p E law o c C B T ρ k b s0 cls (f_X12_saying ρ (hM m (oS o s) (sc c p false 0) C) m v (ρ i)) (f_X6_readClause ρ (CS n ρ k j b E B p y) (n + 2) (txA n j)) := by
  have hi11 : i < 11 := hi ▸ wI_lt law ch
  have hln := len_tab i (by omega)
  obtain ⟨w1, w2, w3⟩ := pW_ok (T := T) (E := E) i (by omega) (lenN i) 0 p (by omega) hp
  have a3 := hJ.1.2.2
  rw [M_saying hρ h4 h6 ha hE hT ht hp hJ.1.2.1 a3 (show i < 15 by omega) hv, C_clause hρ hj hjl (tLet_law hjl) hE hb hT h8 hp hJ.2.1.1 hJ.2.1.2.1 hJ.2.1.2.2.2, hch, hi, if_neg hi2, if_neg htd, ← hal, if_pos hl]
  generalize pW T E i (lenN i) 0 p = r at *
  by_cases hr : r.1 = true
  · rw [if_pos hr, if_pos hr]
    cases hz : pNum T E r.2 with
    | none => exact ⟨false, r.2, s, y, rfl, rfl, w1, w2, hO, ht, fun q => by cases q⟩
    | some z =>
      obtain ⟨z1, z2, z3⟩ := pNum_ok hz
      simp only []
      by_cases h32 : cAt T E z.2 = 32
      · have hp1 : z.2 < E := cAt_lt h32 (by omega)
        obtain ⟨g1, g2, g3, g4⟩ := pE_Gd (T := T) (E := E) (law := law) (N := 0) (f := pF T E law 12 0) (fun q hq => pF_Gd 12 0 q (by omega) hq) (z.2 + 1) hp1
        rw [if_pos h32, if_pos h32]
        generalize pE T E (pF T E law 12 0) (z.2 + 1) = e at *
        have hL : (flat cls).length + (e.2.2.map encS).length ≤ 120 := by rw [List.length_map]; omega
        cases he : e.1
        · rw [if_neg (by decide), List.append_nil]
          exact ⟨false, e.2.1, _, _, rfl, rfl, by omega, g2, OUT_em hO (by omega), emL_tp hE _ ht, fun q => by cases q⟩
        · obtain ⟨k1, k2, k3⟩ := g4 he
          rw [if_pos rfl]
          refine ⟨true, e.2.1, _, _, rfl, rfl, by omega, g2, OUT_em hO (by rw [List.length_append]; show _ + (_ + 1) ≤ _; omega), emL_tp hE _ ht, fun _ => ⟨cls ++ [(K, z.1, e.2.2)], ?_, by rw [List.length_append]; exact Nat.le_refl _⟩⟩
          exact JT_add (toks := e.2.2) (num := z.1) (pos := e.2.1) ha hJ h8 hK5 (by rw [hl]; exact hK) z1 (show p < z.2 + 1 by omega) g3 (by omega) (dep_ne (k2 0 (Nat.le_refl _))) (k2 0 (Nat.le_refl _)) k3 hcK
      · rw [if_neg h32, if_neg h32]
        exact ⟨false, z.2, s, y, rfl, rfl, by omega, z3, hO, ht, fun q => by cases q⟩
  · rw [if_neg hr, if_neg hr]
    exact ⟨false, r.2, s, y, rfl, rfl, w1, w2, hO, ht, fun q => by cases q⟩
theorem os_id : ∀ F : Option HSt, (F.bind fun S => some S) = F := fun F => by cases F <;> rfl
theorem J_step (hρ : rhoOk ρ) (hj : j < 10) (hjl : j % 2 = if law then 1 else 0) (h4 : c.1 4 = nI a) (h6 : c.1 6 = nI E) (ha : a < 10) (hal : law = lawB a) (hE : E ≤ 120) (hT : ∀ i, i < E → T i < 256) (ht : tpS T E s) (hb : ∀ i, i < E → b i &&& 255 = nI (T i)) (hp : p ≤ E) (hJ : JT law a s y cls p) (h8 : cls.length < 8) (hO : OUT law a s0 s) :
    JR m n j a p E law o c C B T ρ k b s0 cls (if law = true then f_X12_lawHere ρ (hM m (oS o s) (sc c p false 0) C) m else f_X12_planHere ρ (hM m (oS o s) (sc c p false 0) C) m) (f_X6_readClause ρ (CS n ρ k j b E B p y) (n + 2) (txA n j)) := by
  have lk : ∀ ch : Nat, ch < 256 → (lkI T E p = nI ch ↔ cAt T E p = ch) := fun ch hch => lk_eq hT hch
  have bad : wI law (cAt T E p) = 2 → JR m n j a p E law o c C B T ρ k b s0 cls (some (hM m (oS o s) (sc c p true 0) C)) (f_X6_readClause ρ (CS n ρ k j b E B p y) (n + 2) (txA n j)) := fun h2 => by
    rw [C_clause hρ hj hjl (tLet_law hjl) hE hb hT h8 hp hJ.2.1.1 hJ.2.1.2.1 hJ.2.1.2.2.2, if_pos h2]
    exact ⟨false, p, s, y, rfl, rfl, Nat.le_refl _, hp, hO, ht, fun q => by cases q⟩
  have i4 : gI (hM m (oS o s) (sc c p false 0) C) m 12 4 = some (nI a) := by
    rw [mI_4]
    exact congrArg some h4
  have l97 := lk 97 (by omega)
  have l98 := lk 98 (by omega)
  have l100 := lk 100 (by omega)
  have l104 := lk 104 (by omega)
  have l110 := lk 110 (by omega)
  have l111 := lk 111 (by omega)
  have l116 := lk 116 (by omega)
  rcases Bool.eq_false_or_eq_true law with hl | hl
  rotate_left
  · rw [if_neg (by rw [hl]; decide)]
    have ha5 : a < 5 := by
      have : ¬ 5 ≤ a := of_decide_eq_false (hal.symm.trans hl)
      omega
    unfold f_X12_planHere
    rw [hM_C, if_pos rfl, M_here h6 hE hp ht, bd2_some, hM_C, if_pos rfl, if_pos rfl, i4, ob, ob, if_pos rfl, if_pos rfl, os_id, os_id, os_id, os_id]
    by_cases c100 : cAt T E p = 100
    · rw [if_pos (show lkI T E p = 100 from l100.mpr c100)]
      exact J_tst hρ hj hjl h4 h6 ha hal hE hT ht hb hp hJ h8 hO (K := 1) c100 (by rw [hl]; rfl) (by decide) (by decide) hl (by omega) rfl rfl
    rw [if_neg (show ¬ lkI T E p = 100 from fun q => c100 (l100.mp q))]
    by_cases c104 : cAt T E p = 104
    · rw [if_pos (show lkI T E p = 104 from l104.mpr c104)]
      exact J_num hρ hj hjl h6 ha hE hT ht hb hp hJ h8 hO (W := 310 + a) c104 (by rw [hl]; rfl) (by decide) (by decide) rfl (by rw [show (310 : Int32) = nI 310 from rfl, ← nI_add]) (Or.inr (Or.inl ⟨hl, rfl, rfl⟩))
    rw [if_neg (show ¬ lkI T E p = 104 from fun q => c104 (l104.mp q))]
    by_cases c110 : cAt T E p = 110
    · rw [if_pos (show lkI T E p = 110 from l110.mpr c110)]
      exact J_num hρ hj hjl h6 ha hE hT ht hb hp hJ h8 hO (F := 9) (W := 315 + a) c110 (by rw [hl]; rfl) (by decide) (by decide) (by rw [hl]; rfl) (by rw [show (315 : Int32) = nI 315 from rfl, ← nI_add]) (Or.inr (Or.inr ⟨hl, rfl, rfl⟩))
    rw [if_neg (show ¬ lkI T E p = 110 from fun q => c110 (l110.mp q))]
    by_cases c116 : cAt T E p = 116
    · rw [if_pos (show lkI T E p = 116 from l116.mpr c116)]
      exact J_tst hρ hj hjl h4 h6 ha hal hE hT ht hb hp hJ h8 hO (K := 0) c116 (by rw [hl]; rfl) (by decide) (by decide) hl (by omega) rfl rfl
    rw [if_neg (show ¬ lkI T E p = 116 from fun q => c116 (l116.mp q)), mP_7, ob]
    refine bad ?_
    unfold wI
    rw [hl, if_neg (by decide), if_neg c104, if_neg c110, if_neg c116, if_neg c100]
  · rw [if_pos hl]
    have ha5 : 5 ≤ a := of_decide_eq_true (hal.symm.trans hl)
    unfold f_X12_lawHere
    rw [hM_C, if_pos rfl, M_here h6 hE hp ht, bd2_some, hM_C, if_pos rfl, if_pos rfl, if_pos rfl, i4, ob, if_pos rfl, os_id, os_id, os_id, os_id]
    by_cases c97 : cAt T E p = 97
    · rw [if_pos (show lkI T E p = 97 from l97.mpr c97)]
      exact J_say hρ hj hjl h4 h6 ha hal hE hT ht hb hp hJ h8 hO (K := 2) c97 (by rw [hl]; rfl) (by decide) (by decide) hl (by omega) (by omega) rfl rfl
    rw [if_neg (show ¬ lkI T E p = 97 from fun q => c97 (l97.mp q))]
    by_cases c98 : cAt T E p = 98
    · rw [if_pos (show lkI T E p = 98 from l98.mpr c98)]
      exact J_say hρ hj hjl h4 h6 ha hal hE hT ht hb hp hJ h8 hO (K := 3) c98 (by rw [hl]; rfl) (by decide) (by decide) hl (by omega) (by omega) rfl rfl
    rw [if_neg (show ¬ lkI T E p = 98 from fun q => c98 (l98.mp q))]
    by_cases c110 : cAt T E p = 110
    · rw [if_pos (show lkI T E p = 110 from l110.mpr c110)]
      have e : (320 + nI a) - 5 = nI (315 + a) := by
        have : ∀ a, a < 10 → (320 + nI a) - 5 = nI (315 + a) := by decide +kernel
        exact this a ha
      exact J_num hρ hj hjl h6 ha hE hT ht hb hp hJ h8 hO (F := 10) (W := 315 + a) c110 (by rw [hl]; rfl) (by decide) (by decide) (by rw [hl]; rfl) e (Or.inl ⟨hl, rfl, rfl⟩)
    rw [if_neg (show ¬ lkI T E p = 110 from fun q => c110 (l110.mp q))]
    by_cases c111 : cAt T E p = 111
    · rw [if_pos (show lkI T E p = 111 from l111.mpr c111)]
      exact J_say hρ hj hjl h4 h6 ha hal hE hT ht hb hp hJ h8 hO (K := 4) c111 (by rw [hl]; rfl) (by decide) (by decide) hl (by omega) (by omega) rfl rfl
    rw [if_neg (show ¬ lkI T E p = 111 from fun q => c111 (l111.mp q)), mP_7, ob]
    refine bad ?_
    unfold wI
    rw [hl, if_pos rfl, if_neg c97, if_neg c98, if_neg c111, if_neg c110]
end JST
