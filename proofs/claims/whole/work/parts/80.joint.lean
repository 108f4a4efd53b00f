/-! BOTH READ: side by side, a clause -/
theorem flat_app : ∀ l l' : List Cl, flat (l ++ l') = flat l ++ flat l' := by
  intro l
  induction l with
  | nil => intro l'; rfl
  | cons c l ih =>
    intro l'
    show flC c ++ flat (l ++ l') = (flC c ++ flat l) ++ flat l'
    rw [ih, List.append_assoc]
theorem totT_app : ∀ l l' : List Cl, totT (l ++ l') = totT l + totT l' := by
  intro l
  induction l with
  | nil => intro l'; exact (Nat.zero_add _).symm
  | cons c l ih =>
    intro l'
    show c.2.2.length + totT (l ++ l') = c.2.2.length + totT l + totT l'
    rw [ih, Nat.add_assoc]
theorem ClR_same {law : Bool} {y y' : XT} (h : y'.2 = y.2) : ∀ (l : List Cl) (i q : Nat), ClR law y i q l → ClR law y' i q l := by
  intro l
  induction l with
  | nil => intro i q _; trivial
  | cons c l ih =>
    intro i q hc
    obtain ⟨h1, h2, h3, h4, h5⟩ := hc
    unfold ClR
    rw [h]
    exact ⟨h1, h2, h3, h4, ih _ _ h5⟩
theorem ClR_ext {law : Bool} {y y' : XT} {c : Cl} : ∀ (l : List Cl) (i q : Nat), ClR law y i q l → (∀ u, u < i + l.length → y'.2.2.1 u = y.2.2.1 u ∧ y'.2.2.2.1 u = y.2.2.2.1 u ∧ y'.2.2.2.2 u = y.2.2.2.2 u) → (∀ u, u < q + totT l → y'.2.1 u = y.2.1 u) → (y'.2.2.1 (i + l.length) = nI (wdN c.1) ∧ y'.2.2.2.1 (i + l.length) = nI c.2.1 ∧ At y'.2.1 (q + totT l) (c.2.2.map (encC law)) ∧ y'.2.2.2.2 (i + l.length) = nI (q + totT l + c.2.2.length)) → ClR law y' i q (l ++ [c]) := by
  intro l
  induction l with
  | nil =>
    intro i q _ _ _ h
    exact ⟨h.1, h.2.1, h.2.2.1, h.2.2.2, trivial⟩
  | cons d l ih =>
    intro i q hc h1 h2 h3
    obtain ⟨k1, k2, k3, k4, k5⟩ := hc
    obtain ⟨u1, u2, u3⟩ := h1 i (by simp only [List.length_cons]; omega)
    have ht : totT (d :: l) = d.2.2.length + totT l := rfl
    rw [ht] at h2 h3
    have hl : i + (d :: l).length = i + 1 + l.length := by simp only [List.length_cons]; omega
    rw [hl] at h1 h3
    refine ⟨by rw [u1]; exact k1, by rw [u2]; exact k2, At_cong _ _ (fun z z1 z2 => h2 z (by rw [List.length_map] at z2; omega)) k3, by rw [u3]; exact k4, ih (i + 1) (q + d.2.2.length) k5 h1 (fun z hz => h2 z (by omega)) ⟨h3.1, h3.2.1, ?_, ?_⟩⟩
    · rw [show q + d.2.2.length + totT l = q + (d.2.2.length + totT l) by omega]; exact h3.2.2.1
    · rw [show q + d.2.2.length + totT l = q + (d.2.2.length + totT l) by omega]; exact h3.2.2.2
def JH (law : Bool) (a : Nat) (s : Nat → Int32) (y : XT) : Prop := if law = true then (s (315 + a) = y.1 10 ∧ ∃ v, v < 100 ∧ y.1 10 = nI v) else ((s (310 + a) = y.1 8 ∧ ∃ v, v < 100 ∧ y.1 8 = nI v) ∧ (s (315 + a) = y.1 9 ∧ ∃ v, v < 100 ∧ y.1 9 = nI v))
def JT (law : Bool) (a : Nat) (s : Nat → Int32) (y : XT) (cls : List Cl) (q : Nat) : Prop :=
  (At s (335 + 140 * a) (flat cls) ∧ s (325 + a) = nI (flat cls).length ∧ (flat cls).length ≤ q) ∧ (y.1 6 = nI (totT cls) ∧ y.1 7 = nI cls.length ∧ ClR law y 0 0 cls ∧ totT cls ≤ q) ∧ (∀ c ∈ cls, clOk c ∧ clL law c) ∧ JH law a s y
def OUT (law : Bool) (a : Nat) (s0 s : Nat → Int32) : Prop := ∀ i, i ≠ 325 + a → ¬ (335 + 140 * a ≤ i ∧ i < 475 + 140 * a) → (law = true ∨ i ≠ 310 + a) → i ≠ 315 + a → s i = s0 i
theorem OUT_em {law : Bool} {a : Nat} {s0 s : Nat → Int32} (h : OUT law a s0 s) {l : List Int32} {L : Nat} (hL : L + l.length ≤ 140) : OUT law a s0 (emL a l L s) := fun i h1 h2 h3 h4 => by
  rw [emL_o a l L s i h1 (by omega)]
  exact h i h1 h2 h3 h4
theorem OUT_hd {law : Bool} {a W : Nat} {s0 s : Nat → Int32} (h : OUT law a s0 s) (hW : (law = false ∧ W = 310 + a) ∨ W = 315 + a) (v : Int32) : OUT law a s0 (upd s W v) := fun i h1 h2 h3 h4 => by
  have : i ≠ W := by
    rcases hW with ⟨q1, q2⟩ | q
    · rcases h3 with h3 | h3
      · rw [q1] at h3; cases h3
      · omega
    · omega
  rw [pk_un this]
  exact h i h1 h2 h3 h4
/-- a clause more -/
theorem JT_add {law : Bool} {a q q2 pos : Nat} (ha : a < 10) {s : Nat → Int32} {y : XT} {cls : List Cl} (h : JT law a s y cls q) (h8 : cls.length < 8) {K num : Nat} {toks : List Tk} (hK : K < 5) (hKl : if law then 2 ≤ K else K < 2) (hn : num < 100) (hq : q < q2) (ht : toks.length + q2 ≤ pos) (hpos : pos ≤ 120) (hne : toks ≠ []) (hd : dep toks 0 = some 1) (hl : ∀ k ∈ toks, tkL law k) {ch : Nat} (hch : ch = wdN K) :
    JT law a (emL a (toks.map encS ++ [endS (100 * K + num)]) (flat cls).length s) (putL cls.length (toks.map (encC law)) (totT cls) (st1 y cls.length (nI ch) (nI num))) (cls ++ [(K, num, toks)]) pos := by
  obtain ⟨⟨a1, a2, a3⟩, ⟨b1, b2, b3, b4⟩, c1, d1⟩ := h
  have hfl : flat (cls ++ [(K, num, toks)]) = flat cls ++ (toks.map encS ++ [endS (100 * K + num)]) := by
    rw [flat_app]
    show flat cls ++ (flC (K, num, toks) ++ flat []) = _
    show flat cls ++ ((toks.map encS ++ [endS (100 * K + num)]) ++ []) = _
    rw [List.append_nil]
  have hln : (toks.map encS ++ [endS (100 * K + num)]).length = toks.length + 1 := by
    rw [List.length_append, List.length_map]
    rfl
  have htt : totT (cls ++ [(K, num, toks)]) = totT cls + toks.length := by
    rw [totT_app]
    rfl
  generalize hX : toks.map encS ++ [endS (100 * K + num)] = X at *
  have s6 : (st1 y cls.length (nI ch) (nI num)).1 6 = nI (totT cls) := by
    show upd y.1 7 (nI (cls.length + 1)) 6 = _
    rw [pk_un (by omega)]
    exact b1
  obtain ⟨p1, p2, p3, p4, p5, p6, p7, p8⟩ := putL_ok cls.length (toks.map (encC law)) (totT cls) (st1 y cls.length (nI ch) (nI num)) s6
  have hne2 : toks.map (encC law) ≠ [] := fun z => hne (List.map_eq_nil_iff.mp z)
  have p8 := p8 hne2
  rw [List.length_map] at p1 p8
  generalize putL cls.length (toks.map (encC law)) (totT cls) (st1 y cls.length (nI ch) (nI num)) = y' at *
  have o7 : ∀ i, i ≠ 6 → i ≠ 7 → y'.1 i = y.1 i := fun i h1 h2 => (p2 i h1).trans (pk_un h2)
  refine ⟨⟨?_, ?_, ?_⟩, ⟨?_, ?_, ?_, ?_⟩, ?_, ?_⟩
  · rw [hfl]
    refine (At_append _ _ _ _).mpr ⟨At_cong _ _ (fun i h1 h2 => emL_o a X _ s i (by omega) (by omega)) a1, emL_At a ha X _ s (by omega)⟩
  · rw [hfl, List.length_append]
    exact emL_c a ha X _ s a2
  · rw [hfl, List.length_append]
    omega
  · rw [htt]; exact p1
  · rw [List.length_append]
    refine (p2 7 (by omega)).trans ?_
    show upd y.1 7 (nI (cls.length + 1)) 7 = _
    rw [pk_us]
    rfl
  · refine ClR_ext cls 0 0 b3 (fun u hu => ⟨?_, ?_, ?_⟩) (fun u hu => p5 u (by omega)) ⟨?_, ?_, ?_, ?_⟩
    · rw [p3]
      exact pk_un (by omega)
    · rw [p4]
      exact pk_un (by omega)
    · exact p7 u (by omega)
    · rw [p3, Nat.zero_add, ← hch]
      exact pk_us
    · rw [p4, Nat.zero_add]
      exact pk_us
    · rw [Nat.zero_add]; exact p6
    · rw [Nat.zero_add, Nat.zero_add]; exact p8
  · rw [htt]; omega
  · intro c hc
    rcases List.mem_append.mp hc with h1 | h1
    · exact c1 c h1
    · have : c = (K, num, toks) := by simpa using h1
      subst this
      exact ⟨⟨hK, hn, hd⟩, hKl, hl⟩
  · have e1 : emL a X (flat cls).length s (315 + a) = s (315 + a) := emL_o a X _ s _ (by omega) (by omega)
    have e2 : emL a X (flat cls).length s (310 + a) = s (310 + a) := emL_o a X _ s _ (by omega) (by omega)
    unfold JH at d1 ⊢
    rw [e1, e2, o7 10 (by omega) (by omega), o7 8 (by omega) (by omega), o7 9 (by omega) (by omega)]
    exact d1
/-- a number told -/
theorem JT_tell {law : Bool} {a q pos : Nat} (ha : a < 10) {s : Nat → Int32} {y : XT} {cls : List Cl} (h : JT law a s y cls q) {num F W : Nat} (hn : num < 100) (hq : q ≤ pos) (hF : (law = true ∧ F = 10 ∧ W = 315 + a) ∨ (law = false ∧ F = 8 ∧ W = 310 + a) ∨ (law = false ∧ F = 9 ∧ W = 315 + a)) : JT law a (upd s W (nI num)) (tl1 y F (nI num)) cls pos := by
  obtain ⟨⟨a1, a2, a3⟩, ⟨b1, b2, b3, b4⟩, c1, d1⟩ := h
  have hW : W ≤ 324 := by omega
  have hFF : 8 ≤ F := by omega
  refine ⟨⟨At_cong _ _ (fun i h1 h2 => pk_un (by omega)) a1, ?_, by omega⟩, ⟨?_, ?_, ClR_same (y := y) (y' := tl1 y F (nI num)) rfl _ _ _ b3, by omega⟩, c1, ?_⟩
  · rw [pk_un (by omega)]; exact a2
  · show upd y.1 F (nI num) 6 = _
    rw [pk_un (by omega)]; exact b1
  · show upd y.1 F (nI num) 7 = _
    rw [pk_un (by omega)]; exact b2
  · unfold JH at d1 ⊢
    have yi : ∀ i, (tl1 y F (nI num)).1 i = upd y.1 F (nI num) i := fun i => rfl
    rw [yi, yi, yi]
    rcases hF with ⟨rfl, rfl, rfl⟩ | ⟨rfl, rfl, rfl⟩ | ⟨rfl, rfl, rfl⟩
    · rw [if_pos rfl, pk_us, pk_us]
      exact ⟨rfl, num, hn, rfl⟩
    · rw [if_neg (by decide)] at d1 ⊢
      rw [pk_us, pk_us, pk_un (show 315 + a ≠ 310 + a by omega), pk_un (show (9 : Nat) ≠ 8 by omega)]
      exact ⟨⟨rfl, num, hn, rfl⟩, d1.2⟩
    · rw [if_neg (by decide)] at d1 ⊢
      rw [pk_us, pk_us, pk_un (show 310 + a ≠ 315 + a by omega), pk_un (show (8 : Nat) ≠ 9 by omega)]
      exact ⟨d1.1, rfl, num, hn, rfl⟩
