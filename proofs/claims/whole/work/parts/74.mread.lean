/-! THE REFERENCE READS: tape, tokens -/
def lkI (T : Nat → Nat) (E p : Nat) : Int32 := if p < E then nI (T p) else -1
def sc (c : MC) (p : Nat) (w : Bool) (d : Nat) : MC := (fun i => if i = 5 then nI p else if i = 7 then bI w else if i = 8 then nI d else c.1 i, c.2)
theorem sc_5 (c : MC) (p : Nat) (w : Bool) (d p' : Nat) : cI (sc c p w d) 5 (nI p') = sc c p' w d := by
  refine Prod.ext (funext fun i => ?_) rfl
  show upd (fun i => if i = 5 then nI p else if i = 7 then bI w else if i = 8 then nI d else c.1 i) 5 (nI p') i = if i = 5 then nI p' else if i = 7 then bI w else if i = 8 then nI d else c.1 i
  by_cases h : i = 5
  · subst h; rw [pk_us, if_pos rfl]
  · rw [pk_un h, if_neg h, if_neg h]
theorem sc_7 (c : MC) (p : Nat) (w w' : Bool) (d : Nat) : cI (sc c p w d) 7 (bI w') = sc c p w' d := by
  refine Prod.ext (funext fun i => ?_) rfl
  show upd (fun i => if i = 5 then nI p else if i = 7 then bI w else if i = 8 then nI d else c.1 i) 7 (bI w') i = if i = 5 then nI p else if i = 7 then bI w' else if i = 8 then nI d else c.1 i
  by_cases h : i = 7
  · subst h; rw [pk_us]; rfl
  · rw [pk_un h, if_neg h, if_neg h]
theorem sc_8 (c : MC) (p : Nat) (w : Bool) (d d' : Nat) : cI (sc c p w d) 8 (nI d') = sc c p w d' := by
  refine Prod.ext (funext fun i => ?_) rfl
  show upd (fun i => if i = 5 then nI p else if i = 7 then bI w else if i = 8 then nI d else c.1 i) 8 (nI d') i = if i = 5 then nI p else if i = 7 then bI w else if i = 8 then nI d' else c.1 i
  by_cases h : i = 8
  · subst h; rw [pk_us]; rfl
  · rw [pk_un h, if_neg h, if_neg h]
def tpS (T : Nat → Nat) (E : Nat) (s : Nat → Int32) : Prop := ∀ i, i < E → s (10 + i) = nI (T i)
/-- steps are written -/
def emL (a : Nat) : List Int32 → Nat → (Nat → Int32) → (Nat → Int32)
  | [], _, s => s
  | v :: r, L, s => emL a r (L + 1) (upd (upd s (335 + 140 * a + L) v) (325 + a) (nI (L + 1)))
theorem emL_app (a : Nat) : ∀ (l l' : List Int32) (L : Nat) (s : Nat → Int32), emL a (l ++ l') L s = emL a l' (L + l.length) (emL a l L s) := by
  intro l
  induction l with
  | nil => intro l' L s; rfl
  | cons v l ih =>
    intro l' L s
    show emL a (l ++ l') (L + 1) _ = emL a l' (L + (l.length + 1)) (emL a l (L + 1) _)
    rw [ih, show L + 1 + l.length = L + (l.length + 1) by omega]
theorem emL_o (a : Nat) : ∀ (l : List Int32) (L : Nat) (s : Nat → Int32) (i : Nat), i ≠ 325 + a → (i < 335 + 140 * a + L ∨ 335 + 140 * a + L + l.length ≤ i) → emL a l L s i = s i := by
  intro l
  induction l with
  | nil => intro L s i _ _; rfl
  | cons v l ih =>
    intro L s i h1 h2
    simp only [List.length_cons] at h2
    show emL a l (L + 1) _ i = _
    rw [ih (L + 1) _ i h1 (by omega), pk_un h1, pk_un (by omega)]
theorem emL_c (a : Nat) (ha : a < 10) : ∀ (l : List Int32) (L : Nat) (s : Nat → Int32), s (325 + a) = nI L → emL a l L s (325 + a) = nI (L + l.length) := by
  intro l
  induction l with
  | nil => intro L s h; exact h
  | cons v l ih =>
    intro L s h
    show emL a l (L + 1) _ (325 + a) = _
    rw [ih (L + 1) _ pk_us]
    congr 1
    simp only [List.length_cons]
    omega
theorem emL_At (a : Nat) (ha : a < 10) : ∀ (l : List Int32) (L : Nat) (s : Nat → Int32), L + l.length ≤ 140 → At (emL a l L s) (335 + 140 * a + L) l := by
  intro l
  induction l with
  | nil => intro L s _; trivial
  | cons v l ih =>
    intro L s h
    simp only [List.length_cons] at h
    refine ⟨?_, ?_⟩
    · show emL a l (L + 1) _ (335 + 140 * a + L) = v
      rw [emL_o a l (L + 1) _ _ (by omega) (by omega), pk_un (by omega), pk_us]
    · have := ih (L + 1) (upd (upd s (335 + 140 * a + L) v) (325 + a) (nI (L + 1))) (by omega)
      rw [show 335 + 140 * a + (L + 1) = 335 + 140 * a + L + 1 by omega] at this
      exact this
theorem emL_tp {T : Nat → Nat} {E a L : Nat} (hE : E ≤ 120) (l : List Int32) {s : Nat → Int32} (h : tpS T E s) : tpS T E (emL a l L s) := fun i hi => by
  rw [emL_o a l L s _ (by omega) (by omega)]
  exact h i hi
section MREAD
variable {m : Nat} {o : MO} {c : MC} {C : HSt} {T : Nat → Nat} {E a : Nat} {ρ : Nat → Nat}
theorem lk_eq {p ch : Nat} (hT : ∀ i, i < E → T i < 256) (hc : ch < 256) : (lkI T E p = nI ch) ↔ cAt T E p = ch := by
  unfold lkI cAt
  by_cases h : p < E
  · rw [if_pos h, if_pos h]
    have := hT p h
    exact nI_eq (by omega) (by omega)
  · rw [if_neg h, if_neg h]
    constructor
    · intro q
      exact absurd q.symm (nI_m1 (by omega))
    · intro q; omega
theorem lk_dig {p : Nat} (hT : ∀ i, i < E → T i < 256) : (48 ≤ lkI T E p ∧ lkI T E p ≤ 57) ↔ (48 ≤ cAt T E p ∧ cAt T E p ≤ 57) := by
  unfold lkI cAt
  by_cases h : p < E
  · rw [if_pos h, if_pos h]
    have := hT p h
    exact and_congr (nI_leI (a := 48) (by omega) (by omega)) (nI_leI (b := 57) (by omega) (by omega))
  · rw [if_neg h, if_neg h]
    constructor
    · intro q; exact absurd q.1 (by decide)
    · intro q; omega
theorem lk_c {p : Nat} (h : cAt T E p < 256) : lkI T E p = nI (cAt T E p) := by
  have h1 : p < E := cAt_lt (T := T) rfl h
  unfold lkI cAt
  rw [if_pos h1, if_pos h1]
variable {s : Nat → Int32} {p d L : Nat} {w : Bool}
theorem M_here (h6 : c.1 6 = nI E) (hE : E ≤ 120) (hp : p ≤ E) (ht : tpS T E s) : f_X12_here (hM m (oS o s) (sc c p w d) C) m = some (lkI T E p, hM m (oS o s) (sc c p w d) C) := by
  unfold f_X12_here lkI
  have e5 : (sc c p w d).1 5 = nI p := rfl
  have e6 : (sc c p w d).1 6 = nI E := h6
  rw [mI_5, ob, mI_6, ob, e5, e6]
  by_cases h : p < E
  · rw [if_neg (nI_ge h (by omega)), if_pos h, mR_1, ob, ob, mA_s m (oS o s) _ C (i := 10 + nI p) (k := 10 + p) (nI_add 10 p) (by omega), ob]
    exact congrArg (fun v => some (v, _)) (ht p h)
  · rw [if_pos (nI_le (by omega) (by omega)), if_neg h]
theorem M_emits (h4 : c.1 4 = nI a) (ha : a < 10) (hs : s (325 + a) = nI L) (hL : L < 140) (v : Int32) : f_X12_emits (hM m (oS o s) (sc c p false d) C) m v = some (hM m (oS o (emL a [v] L s)) (sc c p false d) C) := by
  unfold f_X12_emits
  have e7 : (sc c p false d).1 7 = 0 := rfl
  have e4 : (sc c p false d).1 4 = nI a := h4
  have e1 : (335 : Int32) + 140 * nI a + nI L = nI (335 + 140 * a + L) := by
    rw [show (335 : Int32) = nI 335 from rfl, show (140 : Int32) = nI 140 from rfl, pk_mul, nI_add, nI_add]
  have es : (oS o s).1 (325 + a) = nI L := hs
  rw [mI_7, ob, e7, if_pos rfl, mR_1, ob, mI_4, ob, e4, ob, ob, mA_s m (oS o s) _ C (i := 325 + nI a) (k := 325 + a) (nI_add 325 a) (by omega), es, ob, e1, mS_s m (oS o s) _ C (k := 335 + 140 * a + L) rfl (by omega), ob, mR_1, ob, mI_4, ob, e4, mA_s m _ _ C (i := 325 + nI a) (k := 325 + a) (nI_add 325 a) (by omega), ob, mS_s m _ _ C (i := 325 + nI a) (k := 325 + a) (nI_add 325 a) (by omega), ob]
  have e2 : (oS (oS o s) (upd (oS o s).1 (335 + 140 * a + L) v)).1 (325 + a) + 1 = nI (L + 1) := by
    show upd s (335 + 140 * a + L) v (325 + a) + 1 = _
    rw [pk_un (by omega), hs, nI_1]
  rw [e2]
  rfl
theorem M_emitsW (v : Int32) : f_X12_emits (hM m (oS o s) (sc c p true d) C) m v = some (hM m (oS o s) (sc c p true d) C) := by
  unfold f_X12_emits
  have e7 : (sc c p true d).1 7 = 1 := rfl
  rw [mI_7, ob, e7, if_neg (by decide)]
theorem M_mustJ (y : Bool) : f_X12_must_J21 m (bI y) (hM m (oS o s) (sc c p w d) C) = some (hM m (oS o s) (sc c (if y then p else p + 1) y d) C) := by
  unfold f_X12_must_J21
  rw [if_pos (bI_01 y), mP_7, ob, sc_7, mI_5, ob, mI_7, ob, show (sc c p y d).1 5 = nI p from rfl, show (sc c p y d).1 7 = bI y from rfl]
  cases y
  · rw [if_pos (show bI false = 0 from rfl), nI_1, mP_5, ob, sc_5]; rfl
  · rw [if_neg (show ¬ bI true = 0 by decide), show nI p + 0 = nI p from nI_add p 0, mP_5, ob, sc_5]; rfl
theorem M_mustW (v : Int32) : f_X12_must (hM m (oS o s) (sc c p true d) C) m v = some (hM m (oS o s) (sc c p true d) C) := by
  unfold f_X12_must
  rw [mI_7, ob, show (sc c p true d).1 7 = 1 from rfl, if_neg (by decide)]
  exact M_mustJ true
theorem M_must (h6 : c.1 6 = nI E) (hE : E ≤ 120) (hp : p ≤ E) (ht : tpS T E s) (hT : ∀ i, i < E → T i < 256) {ch : Nat} (hc : ch < 256) : f_X12_must (hM m (oS o s) (sc c p false d) C) m (nI ch) = some (hM m (oS o s) (sc c (if cAt T E p = ch then p + 1 else p) (!decide (cAt T E p = ch)) d) C) := by
  unfold f_X12_must
  rw [mI_7, ob, show (sc c p false d).1 7 = 0 from rfl, if_pos rfl, hM_C, if_pos rfl, M_here h6 hE hp ht, bd2_some]
  by_cases h : cAt T E p = ch
  · rw [if_pos ((lk_eq hT hc).mpr h), if_pos h, decide_eq_true h]
    exact M_mustJ false
  · rw [if_neg (fun q => h ((lk_eq hT hc).mp q)), if_neg h, decide_eq_false h]
    exact M_mustJ true
theorem M_spells (hρ : rhoOk ρ) (h6 : c.1 6 = nI E) (hE : E ≤ 120) (ht : tpS T E s) (hT : ∀ i, i < E → T i < 256) {i : Nat} (hi : i < 15) (hp : p ≤ E) : f_X12_spells ρ (hM m (oS o s) (sc c p false d) C) m (ρ i) = some (hM m (oS o s) (sc c (pW T E i (lenN i) 0 p).2 (!(pW T E i (lenN i) 0 p).1) d) C) := by
  have hl := len_tab i hi
  unfold f_X12_spells
  have W : ∀ (e j f p : Nat), j + e = lenN i → e < f → f_X12_spells_L2 ρ m (ρ i) f_X12_spells_K25 f (nI j) (hM m (oS o s) (sc c p true d) C) = some (hM m (oS o s) (sc c p true d) C) := by
    intro e
    induction e with
    | zero =>
      intro j f p hj hf
      obtain ⟨f, rfl⟩ : ∃ g, f = g + 1 := ⟨f - 1, by omega⟩
      rw [f_X12_spells_L2]
      unfold f_X12_spells_B2
      rw [if_pos (sXs_ρ hρ hi), J_len hρ _ hi, bd2_some, if_pos (nI_le (by omega) (by omega))]
      rfl
    | succ e ih =>
      intro j f p hj hf
      obtain ⟨f, rfl⟩ : ∃ g, f = g + 1 := ⟨f - 1, by omega⟩
      rw [f_X12_spells_L2]
      unfold f_X12_spells_B2
      rw [if_pos (sXs_ρ hρ hi), J_len hρ _ hi, bd2_some, if_neg (nI_ge (by omega) (by omega)), if_pos (sXs_ρ hρ hi), J_char hρ _ hi (by omega), bd2_some, hM_C, if_pos rfl, M_mustW, ob, nI_1]
      exact ih (j + 1) f p (by omega) (by omega)
  have V : ∀ (e j f p : Nat), j + e = lenN i → e < f → p ≤ E → f_X12_spells_L2 ρ m (ρ i) f_X12_spells_K25 f (nI j) (hM m (oS o s) (sc c p false d) C) = some (hM m (oS o s) (sc c (pW T E i e j p).2 (!(pW T E i e j p).1) d) C) := by
    intro e
    induction e with
    | zero =>
      intro j f p hj hf hp
      obtain ⟨f, rfl⟩ : ∃ g, f = g + 1 := ⟨f - 1, by omega⟩
      rw [f_X12_spells_L2]
      unfold f_X12_spells_B2
      rw [if_pos (sXs_ρ hρ hi), J_len hρ _ hi, bd2_some, if_pos (nI_le (by omega) (by omega))]
      rfl
    | succ e ih =>
      intro j f p hj hf hp
      obtain ⟨f, rfl⟩ : ∃ g, f = g + 1 := ⟨f - 1, by omega⟩
      have hc := (chr_tab i hi j (by omega)).2
      rw [f_X12_spells_L2]
      unfold f_X12_spells_B2
      rw [if_pos (sXs_ρ hρ hi), J_len hρ _ hi, bd2_some, if_neg (nI_ge (by omega) (by omega)), if_pos (sXs_ρ hρ hi), J_char hρ _ hi (by omega), bd2_some, hM_C, if_pos rfl, M_must h6 hE hp ht hT (by omega), ob, nI_1, pW]
      by_cases h : cAt T E p = chrN i j
      · rw [if_pos h, if_pos h, decide_eq_true h]
        exact ih (j + 1) f (p + 1) (by omega) (by omega) (cAt_lt h (by omega))
      · rw [if_neg h, if_neg h, decide_eq_false h]
        exact W e (j + 1) f p (by omega) (by omega)
  exact V (lenN i) 0 FU p (by omega) (by show _ < 100000; omega) hp
theorem M_among (hρ : rhoOk ρ) (h6 : c.1 6 = nI E) (hE : E ≤ 120) (ht : tpS T E s) (hT : ∀ i, i < E → T i < 256) {i : Nat} (hi : i < 15) (hp : p ≤ E) : f_X12_among ρ (hM m (oS o s) (sc c p w d) C) m (ρ i) = some (ixI (idxN i (cAt T E p) (lenN i) 0), hM m (oS o s) (sc c (if (idxN i (cAt T E p) (lenN i) 0).isSome = true then p + 1 else p) w d) C) := by
  have hl := len_tab i hi
  unfold f_X12_among
  have V : ∀ (e j f : Nat), j + e = lenN i → e < f → f_X12_among_L2 ρ m (ρ i) f_X12_among_K40 f (nI j) (hM m (oS o s) (sc c p w d) C) = some (ixI (idxN i (cAt T E p) e j), hM m (oS o s) (sc c (if (idxN i (cAt T E p) e j).isSome = true then p + 1 else p) w d) C) := by
    intro e
    induction e with
    | zero =>
      intro j f hj hf
      obtain ⟨f, rfl⟩ : ∃ g, f = g + 1 := ⟨f - 1, by omega⟩
      rw [f_X12_among_L2]
      unfold f_X12_among_B2
      rw [if_pos (sXs_ρ hρ hi), J_len hρ _ hi, bd2_some, if_pos (nI_le (by omega) (by omega))]
      rfl
    | succ e ih =>
      intro j f hj hf
      obtain ⟨f, rfl⟩ : ∃ g, f = g + 1 := ⟨f - 1, by omega⟩
      have hc := (chr_tab i hi j (by omega)).2
      rw [f_X12_among_L2]
      unfold f_X12_among_B2
      rw [if_pos (sXs_ρ hρ hi), J_len hρ _ hi, bd2_some, if_neg (nI_ge (by omega) (by omega)), hM_C, if_pos rfl, M_here h6 hE hp ht, bd2_some, if_pos (sXs_ρ hρ hi), J_char hρ _ hi (by omega), bd2_some, nI_1, ih (j + 1) f (by omega) (by omega), mI_5, ob, show (sc c p w d).1 5 = nI p from rfl, nI_1, mP_5, ob, sc_5, idxN]
      by_cases h : cAt T E p = chrN i j
      · rw [if_pos ((lk_eq hT (by omega)).mpr h), if_pos h.symm]
        rfl
      · have hne : ¬ chrN i j = cAt T E p := fun q => h q.symm
        rw [if_neg (fun q => h ((lk_eq hT (by omega)).mp q)), if_neg hne]
  exact V (lenN i) 0 FU (by omega) (by show _ < 100000; omega)
theorem fig_B (h6 : c.1 6 = nI E) (hE : E ≤ 120) (hp : p ≤ E) (ht : tpS T E s) (hT : ∀ i, i < E → T i < 256) {k x : Nat} (hx : x < 1000) (hk : k < 2) (f : Nat) : f_X12_figures_L34 m f_X12_figures_K97 (f + 1) (nI x) (nI k) (hM m (oS o s) (sc c p false d) C) = if (48 ≤ cAt T E p ∧ cAt T E p ≤ 57) ∧ (k = 0 ∨ 0 < x) then f_X12_figures_L34 m f_X12_figures_K97 f (nI (10 * x + (cAt T E p - 48))) (nI (k + 1)) (hM m (oS o s) (sc c (p + 1) false d) C) else some (nI x, hM m (oS o s) (sc c p false d) C) := by
  rw [f_X12_figures_L34]
  unfold f_X12_figures_B34
  rw [if_neg (show ¬ (2 : Int32) ≤ nI k from nI_ge (b := 2) hk (by omega)), mI_7, ob, show (sc c p false d).1 7 = 0 from rfl, if_pos rfl, hM_C, if_pos rfl, M_here h6 hE hp ht, bd2_some, X12_in, bd2_some, lh3]
  by_cases h : 48 ≤ cAt T E p ∧ cAt T E p ≤ 57
  · rw [if_pos ((lk_dig hT).mpr h)]
    have J : f_X12_figures_J68 m (f_X12_figures_L34 m f_X12_figures_K97 f) (nI x) (nI k) (hM m (oS o s) (sc c p false d) C) = f_X12_figures_L34 m f_X12_figures_K97 f (nI (10 * x + (cAt T E p - 48))) (nI (k + 1)) (hM m (oS o s) (sc c (p + 1) false d) C) := by
      unfold f_X12_figures_J68
      rw [hM_C, if_pos rfl, M_here h6 hE hp ht, bd2_some, mI_5, ob, show (sc c p false d).1 5 = nI p from rfl, nI_1, mP_5, ob, sc_5, lk_c (by omega), show (10 : Int32) = nI 10 from rfl, pk_mul, nI_add, show (48 : Int32) = nI 48 from rfl, pk_sub (by omega), nI_1, show 10 * x + cAt T E p - 48 = 10 * x + (cAt T E p - 48) by omega]
    by_cases h0 : k = 0
    · rw [if_pos (show nI k = 0 by rw [h0]; rfl), J, if_pos ⟨h, Or.inl h0⟩]
    · rw [if_neg (nI_ne0 (by omega) (by omega))]
      by_cases hx0 : 0 < x
      · rw [if_neg (nI_nle hx0 (by omega)), J, if_pos ⟨h, Or.inr hx0⟩]
      · rw [if_pos (show nI x ≤ 0 by rw [show x = 0 by omega]; decide), if_neg (fun q => q.2.elim h0 hx0)]
        rfl
  · rw [if_neg (fun q => h ((lk_dig hT).mp q)), if_neg (fun q => h q.1)]
    rfl
theorem M_figures (h6 : c.1 6 = nI E) (hE : E ≤ 120) (hp : p ≤ E) (ht : tpS T E s) (hT : ∀ i, i < E → T i < 256) : f_X12_figures (hM m (oS o s) (sc c p false d) C) m = match pNum T E p with
    | none => some (0, hM m (oS o s) (sc c p true d) C)
    | some z => some (nI z.1, hM m (oS o s) (sc c z.2 false d) C) := by
  unfold f_X12_figures
  rw [mI_7, ob, show (sc c p false d).1 7 = 0 from rfl, if_pos rfl, hM_C, if_pos rfl, M_here h6 hE hp ht, bd2_some, X12_in, bd2_some, lh3]
  by_cases h : 48 ≤ cAt T E p ∧ cAt T E p ≤ 57
  · have h1 : p < E := cAt_lt (T := T) rfl (by omega)
    rw [if_pos ((lk_dig hT).mpr h)]
    unfold f_X12_figures_J27
    rw [if_pos (Or.inl rfl), show (0 : Int32) = bI false from rfl, mP_7, ob, sc_7]
    show f_X12_figures_L34 m f_X12_figures_K97 (99997 + 1 + 1 + 1) (nI 0) (nI 0) (hM m (oS o s) (sc c p false d) C) = _
    rw [fig_B h6 hE hp ht hT (by omega) (by omega), if_pos ⟨h, Or.inl rfl⟩, show 10 * 0 + (cAt T E p - 48) = cAt T E p - 48 by omega, fig_B h6 hE h1 ht hT (by omega) (by omega)]
    unfold pNum
    rw [if_pos h]
    by_cases h2 : cAt T E p ≠ 48 ∧ 48 ≤ cAt T E (p + 1) ∧ cAt T E (p + 1) ≤ 57
    · rw [if_pos ⟨h2.2, Or.inr (by omega)⟩, if_pos h2, f_X12_figures_L34]
      unfold f_X12_figures_B34
      rw [if_pos (show (2 : Int32) ≤ nI (0 + 1 + 1) from nI_le (a := 2) (by omega) (by omega)), show 10 * (cAt T E p - 48) + (cAt T E (p + 1) - 48) = (cAt T E p - 48) * 10 + (cAt T E (p + 1) - 48) by omega]
      rfl
    · rw [if_neg h2, if_neg (fun q => h2 ⟨fun z => by have := q.2; omega, q.1⟩)]
  · rw [if_neg (fun q => h ((lk_dig hT).mp q))]
    unfold f_X12_figures_J27 pNum
    rw [if_pos (Or.inr rfl), show (1 : Int32) = bI true from rfl, mP_7, ob, sc_7, if_neg h]
    show f_X12_figures_L34 m f_X12_figures_K97 (99999 + 1) 0 0 (hM m (oS o s) (sc c p true d) C) = _
    rw [f_X12_figures_L34]
    unfold f_X12_figures_B34
    rw [if_neg (by decide), mI_7, ob, show (sc c p true d).1 7 = 1 from rfl, if_neg (by decide)]
    rfl
theorem M_figuresW : f_X12_figures (hM m (oS o s) (sc c p true d) C) m = some (0, hM m (oS o s) (sc c p true d) C) := by
  unfold f_X12_figures
  rw [mI_7, ob, show (sc c p true d).1 7 = 1 from rfl, if_neg (by decide)]
  unfold f_X12_figures_J27
  rw [if_pos (Or.inr rfl), show (1 : Int32) = bI true from rfl, mP_7, ob, sc_7]
  show f_X12_figures_L34 m f_X12_figures_K97 (99999 + 1) 0 0 (hM m (oS o s) (sc c p true d) C) = _
  rw [f_X12_figures_L34]
  unfold f_X12_figures_B34
  rw [if_neg (by decide), mI_7, ob, show (sc c p true d).1 7 = 1 from rfl, if_neg (by decide)]
  rfl
end MREAD
