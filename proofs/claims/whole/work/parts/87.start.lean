/-! THE START: what both constructors lay down -/
/-- cells laid at the next free address of S -/
def hL (S : HSt) (l : List HC) : HSt := (fun a => if S.2 ≤ a ∧ a < S.2 + l.length then l[a - S.2]? else S.1 a, S.2 + l.length)
theorem hL_2 (S : HSt) (l : List HC) : (hL S l).2 = S.2 + l.length := rfl
theorem hL_at {S : HSt} {l : List HC} {i : Nat} (h : i < l.length) : (hL S l).1 (S.2 + i) = l[i]? := by
  show (if S.2 ≤ S.2 + i ∧ S.2 + i < S.2 + l.length then l[S.2 + i - S.2]? else S.1 (S.2 + i)) = _
  rw [if_pos (by omega), Nat.add_sub_cancel_left]
theorem hNew_hL (S : HSt) (e : HC) : hNew S e = hL S [e] := by
  refine Prod.ext (funext fun a => ?_) rfl
  show (if a = S.2 then some e else S.1 a) = if S.2 ≤ a ∧ a < S.2 + 1 then [e][a - S.2]? else S.1 a
  by_cases h : a = S.2
  · rw [if_pos h, if_pos (by omega), h, Nat.sub_self]
    rfl
  · rw [if_neg h, if_neg (by omega)]
theorem hL_hL (S : HSt) (l l' : List HC) : hL (hL S l) l' = hL S (l ++ l') := by
  refine Prod.ext (funext fun a => ?_) (by show S.2 + l.length + l'.length = S.2 + (l ++ l').length; rw [List.length_append]; omega)
  show (if S.2 + l.length ≤ a ∧ a < S.2 + l.length + l'.length then l'[a - (S.2 + l.length)]? else if S.2 ≤ a ∧ a < S.2 + l.length then l[a - S.2]? else S.1 a) = if S.2 ≤ a ∧ a < S.2 + (l ++ l').length then (l ++ l')[a - S.2]? else S.1 a
  rw [List.length_append]
  by_cases h : S.2 + l.length ≤ a ∧ a < S.2 + l.length + l'.length
  · rw [if_pos h, if_pos (by omega), List.getElem?_append_right (by omega)]
    congr 1
    omega
  · rw [if_neg h]
    by_cases h2 : S.2 ≤ a ∧ a < S.2 + l.length
    · rw [if_pos h2, if_pos (by omega), List.getElem?_append_left (by omega)]
    · rw [if_neg h2, if_neg (by omega)]
theorem hL_up {S : HSt} {l : List HC} {i : Nat} (h : i < l.length) (e : HC) : hUp (hL S l) (S.2 + i) e = hL S (l.set i e) := by
  refine Prod.ext (funext fun a => ?_) (by show S.2 + l.length = S.2 + (l.set i e).length; rw [List.length_set])
  show (if a = S.2 + i then some e else if S.2 ≤ a ∧ a < S.2 + l.length then l[a - S.2]? else S.1 a) = if S.2 ≤ a ∧ a < S.2 + (l.set i e).length then (l.set i e)[a - S.2]? else S.1 a
  rw [List.length_set]
  by_cases h2 : a = S.2 + i
  · rw [if_pos h2, if_pos (by omega), h2, Nat.add_sub_cancel_left, List.getElem?_set_self h]
  · rw [if_neg h2]
    by_cases h3 : S.2 ≤ a ∧ a < S.2 + l.length
    · rw [if_pos h3, if_pos h3, List.getElem?_set_ne (by omega)]
    · rw [if_neg h3, if_neg h3]
theorem hL_p0 (S : HSt) (ci : Nat) (vs : List Value) (l : List HC) (k : Nat) (v : Value) (hk : k < vs.length) : pV (hL S (.inr (ci, vs) :: l)) S.2 ci k v = some (hL S (.inr (ci, vs.set k v) :: l)) := by
  have e := hL_at (S := S) (l := .inr (ci, vs) :: l) (i := 0) (Nat.zero_lt_succ _)
  rw [Nat.add_zero] at e
  have e : (hL S (.inr (ci, vs) :: l)).1 S.2 = some (.inr (ci, vs)) := e
  unfold pV
  rw [e]
  show (if ci = ci ∧ k < vs.length then some (hUp (hL S (.inr (ci, vs) :: l)) S.2 (.inr (ci, vs.set k v))) else none) = _
  rw [if_pos ⟨rfl, hk⟩]
  have u := hL_up (S := S) (l := .inr (ci, vs) :: l) (i := 0) (Nat.zero_lt_succ _) (.inr (ci, vs.set k v))
  rw [Nat.add_zero] at u
  rw [u]
  rfl
theorem hL_g0 (S : HSt) (ci : Nat) (vs : List Value) (l : List HC) (k r : Nat) (hk : vs[k]? = some (.ref r)) : gR (hL S (.inr (ci, vs) :: l)) S.2 ci k = some r := by
  have e := hL_at (S := S) (l := .inr (ci, vs) :: l) (i := 0) (Nat.zero_lt_succ _)
  rw [Nat.add_zero] at e
  have e : (hL S (.inr (ci, vs) :: l)).1 S.2 = some (.inr (ci, vs)) := e
  unfold gR
  rw [e]
  simp only []
  rw [if_pos trivial, hk]
theorem hL_c {S : HSt} {l : List HC} {i ci : Nat} {vs : List Value} (h : l[i]? = some (.inr (ci, vs))) : gC (hL S l) (S.2 + i) = some ci := by
  have hi : i < l.length := (List.getElem?_eq_some_iff.mp h).1
  unfold gC
  rw [hL_at hi, h]
theorem hL_sQ {S : HSt} {l : List HC} {i j : Nat} {f : Nat → Option Nat} (h : l[i]? = some (.inl (5, 5, .inr (.inr (.inr (.inr f)))))) {x : Int32} (hx : x = nI j) (hj : j < 5) (v : Nat) : sQ (hL S l) (S.2 + i) 5 x v = some (hL S (l.set i (.inl (5, 5, .inr (.inr (.inr (.inr (va_up f j (some v))))))))) := by
  have hi : i < l.length := (List.getElem?_eq_some_iff.mp h).1
  subst hx
  unfold sQ
  rw [hL_at hi, h]
  simp only []
  rw [if_pos ⟨trivial, by rw [nI_clamp (by omega)]; exact fun q => q.elim (nI_pos (by omega)) (by omega)⟩, hL_up hi, nI_clamp (by omega)]
theorem hL_sI {S : HSt} {l : List HC} {i j N : Nat} {f : Nat → Int32} (h : l[i]? = some (.inl (0, N, .inl f))) {x : Int32} (hx : x = nI j) (hj : j < N) (hN : N < 10000) (v : Int32) : sI (hL S l) (S.2 + i) 0 x v = some (hL S (l.set i (.inl (0, N, .inl (upd f j v))))) := by
  have hi : i < l.length := (List.getElem?_eq_some_iff.mp h).1
  subst hx
  unfold sI
  rw [hL_at hi, h]
  simp only []
  rw [if_pos ⟨trivial, by rw [nI_clamp (by omega)]; exact fun q => q.elim (nI_pos (by omega)) (by omega)⟩, hL_up hi, nI_clamp (by omega)]
def p0 : XP := (fun _ => 0, 0, 0)
def o0 : XO := (fun _ => 0, 0, 1)
def r0 : XR := (fun _ => 0, 0)
def t0 : XT := (fun _ => 0, fun _ => 0, fun _ => 0, fun _ => 0, fun _ => 0)
theorem X6_new (S : HSt) : f_X6_init (hNew S (.inr (6, [.null, .int 0, .int 0]))) S.2 = some (hL S [.inr (6, PF S.2 p0), .inl (1, 120, .inl (fun _ => 0))]) := by
  unfold f_X6_init
  rw [hqn_eq, hNew_hL, hNew_hL, hL_hL]
  show ((pV (hL S [.inr (6, [.null, .int 0, .int 0]), .inl (1, 120, .inl (fun _ => 0))]) S.2 6 0 (.ref (S.2 + 1))).bind _) = _
  rw [hL_p0 S 6 _ _ 0 _ (by decide), ob, hL_p0 S 6 _ _ 1 _ (by simp), ob, hL_p0 S 6 _ _ 2 _ (by simp), ob]
  rfl
theorem X4_new (S : HSt) : f_X4_init (hNew S (.inr (4, [.null, .int 0, .long 0]))) S.2 = some (hL S [.inr (4, OF S.2 o0), .inl (3, 10, .inr (.inl (fun _ => 0)))]) := by
  unfold f_X4_init
  rw [hqn_eq, hNew_hL, hNew_hL, hL_hL]
  show ((pV (hL S [.inr (4, [.null, .int 0, .long 0]), .inl (3, 10, .inr (.inl (fun _ => 0)))]) S.2 4 0 (.ref (S.2 + 1))).bind _) = _
  rw [hL_p0 S 4 _ _ 0 _ (by decide), ob, hL_p0 S 4 _ _ 1 _ (by simp), ob, hL_p0 S 4 _ _ 2 _ (by simp), ob]
  rfl
theorem X8_new (S : HSt) : f_X8_init (hNew S (.inr (8, [.null, .int 0]))) S.2 = some (hL S [.inr (8, RF S.2 r0), .inl (0, 20, .inl (fun _ => 0))]) := by
  unfold f_X8_init
  rw [hqn_eq, hNew_hL, hNew_hL, hL_hL]
  show ((pV (hL S [.inr (8, [.null, .int 0]), .inl (0, 20, .inl (fun _ => 0))]) S.2 8 0 (.ref (S.2 + 1))).bind _) = _
  rw [hL_p0 S 8 _ _ 0 _ (by decide), ob, hL_p0 S 8 _ _ 1 _ (by simp), ob]
  rfl
def tC (ρ : Nat → Nat) (q : Nat) (j : Nat) : List HC := [.inr (7, TF q (tLet ρ j) (tFl j) t0), .inl (0, 120, .inl (fun _ => 0)), .inl (0, 8, .inl (fun _ => 0)), .inl (0, 8, .inl (fun _ => 0)), .inl (0, 8, .inl (fun _ => 0))]
theorem X7_new (ρ : Nat → Nat) (S : HSt) (j : Nat) : f_X7_init ρ (hNew S (.inr (7, [.int 0, .null, .null, .null, .null, .null, .int 0, .int 0, .int 0, .int 0, .int 0]))) S.2 (tFl j) = some (hL S (tC ρ S.2 j)) := by
  unfold f_X7_init
  rw [hqn_eq, hNew_hL, hNew_hL, hL_hL]
  show ((pV (hL S [.inr (7, [.int 0, .null, .null, .null, .null, .null, .int 0, .int 0, .int 0, .int 0, .int 0]), .inl (0, 120, .inl (fun _ => 0))]) S.2 7 2 (.ref (S.2 + 1))).bind _) = _
  rw [hL_p0 S 7 _ _ 2 _ (by simp), ob, hqn_eq, hNew_hL, hL_hL]
  show ((pV (hL S (.inr (7, [.int 0, .null, .ref (S.2 + 1), .null, .null, .null, .int 0, .int 0, .int 0, .int 0, .int 0]) :: [.inl (0, 120, .inl (fun _ => 0)), .inl (0, 8, .inl (fun _ => 0))])) S.2 7 3 (.ref (S.2 + 2))).bind _) = _
  rw [hL_p0 S 7 _ _ 3 _ (by simp), ob, hqn_eq, hNew_hL, hL_hL]
  show ((pV (hL S (.inr (7, [.int 0, .null, .ref (S.2 + 1), .ref (S.2 + 2), .null, .null, .int 0, .int 0, .int 0, .int 0, .int 0]) :: [.inl (0, 120, .inl (fun _ => 0)), .inl (0, 8, .inl (fun _ => 0)), .inl (0, 8, .inl (fun _ => 0))])) S.2 7 4 (.ref (S.2 + 3))).bind _) = _
  rw [hL_p0 S 7 _ _ 4 _ (by simp), ob, hqn_eq, hNew_hL, hL_hL]
  show ((pV (hL S (.inr (7, [.int 0, .null, .ref (S.2 + 1), .ref (S.2 + 2), .ref (S.2 + 3), .null, .int 0, .int 0, .int 0, .int 0, .int 0]) :: [.inl (0, 120, .inl (fun _ => 0)), .inl (0, 8, .inl (fun _ => 0)), .inl (0, 8, .inl (fun _ => 0)), .inl (0, 8, .inl (fun _ => 0))])) S.2 7 5 (.ref (S.2 + 4))).bind _) = _
  rw [hL_p0 S 7 _ _ 5 _ (by simp), ob]
  unfold tC tLet tFl
  by_cases h : j % 2 = 0
  · rw [if_pos h, if_pos h, if_pos (Or.inl rfl), hL_p0 S 7 _ _ 0 _ (by simp), ob, if_pos rfl, hL_p0 S 7 _ _ 1 _ (by simp), ob]
    rfl
  · rw [if_neg h, if_neg h, if_pos (Or.inr rfl), hL_p0 S 7 _ _ 0 _ (by simp), ob, if_neg (by decide), hL_p0 S 7 _ _ 1 _ (by simp), ob]
    rfl
def s0 : Nat → Int32 := upd (fun _ => 0) 0 10
def mo0 : MO := (s0, fun _ => 0, 0, 0, fun _ => 0)
def mc0 : MC := (fun _ => 0, 0, fun _ => 0, fun _ => 0, fun _ => 0, fun _ => 0)
theorem hM_hL (S : HSt) (l : List HC) (h8 : l.length = 8) (h : ∀ i, i < 8 → l[i]? = (hM S.2 mo0 mc0 (S.1, S.2 + 8)).1 (S.2 + i)) : hL S l = hM S.2 mo0 mc0 (S.1, S.2 + 8) := by
  refine Prod.ext (funext fun a => ?_) (by show S.2 + l.length = _; rw [h8]; rfl)
  by_cases ha : S.2 ≤ a ∧ a < S.2 + 8
  · obtain ⟨i, rfl⟩ : ∃ i, a = S.2 + i := ⟨a - S.2, by omega⟩
    rw [hL_at (by omega), h i (by omega)]
  · show (if S.2 ≤ a ∧ a < S.2 + l.length then l[a - S.2]? else S.1 a) = if S.2 ≤ a ∧ a < S.2 + 8 then mCell S.2 mo0 mc0 a else S.1 a
    rw [h8, if_neg ha, if_neg ha]
theorem X12_new (S : HSt) : f_X12_init (hNew S (.inr (12, [.int 0, .null, .null, .int 0, .int 0, .int 0, .int 0, .int 0, .int 0, .null, .null, .null, .int 0, .null, .long 0, .null, .int 0, .int 0, .int 0, .int 0]))) S.2 = some (hM S.2 mo0 mc0 (S.1, S.2 + 8)) := by
  have e : f_X12_init (hNew S (.inr (12, [.int 0, .null, .null, .int 0, .int 0, .int 0, .int 0, .int 0, .int 0, .null, .null, .null, .int 0, .null, .long 0, .null, .int 0, .int 0, .int 0, .int 0]))) S.2 = some (hL S [.inr (12, mF S.2 mo0 mc0), .inl (0, 1735, .inl s0), .inl (0, 1735, .inl (fun _ => 0)), .inl (2, 64, .inl (fun _ => 0)), .inl (0, 5, .inl (fun _ => 0)), .inl (2, 5, .inl (fun _ => 0)), .inl (3, 11, .inr (.inl (fun _ => 0))), .inl (0, 20, .inl (fun _ => 0))]) := by
    unfold f_X12_init
    rw [hNew_hL, hqn_eq, hNew_hL, hL_hL]
    simp only [hL_2, List.cons_append, List.nil_append, List.length_cons, List.length_nil, List.set_cons_zero, List.set_cons_succ, Nat.reduceAdd, Nat.zero_add]
    rw [hL_p0 S 12 _ _ 1 _ (by simp), ob, hqn_eq, hNew_hL, hL_hL]
    simp only [hL_2, List.cons_append, List.nil_append, List.length_cons, List.length_nil, List.set_cons_zero, List.set_cons_succ, Nat.reduceAdd, Nat.zero_add]
    rw [hL_p0 S 12 _ _ 2 _ (by simp), ob, hqn_eq, hNew_hL, hL_hL]
    simp only [hL_2, List.cons_append, List.nil_append, List.length_cons, List.length_nil, List.set_cons_zero, List.set_cons_succ, Nat.reduceAdd, Nat.zero_add]
    rw [hL_p0 S 12 _ _ 9 _ (by simp), ob, hqn_eq, hNew_hL, hL_hL]
    simp only [hL_2, List.cons_append, List.nil_append, List.length_cons, List.length_nil, List.set_cons_zero, List.set_cons_succ, Nat.reduceAdd, Nat.zero_add]
    rw [hL_p0 S 12 _ _ 10 _ (by simp), ob, hqn_eq, hNew_hL, hL_hL]
    simp only [hL_2, List.cons_append, List.nil_append, List.length_cons, List.length_nil, List.set_cons_zero, List.set_cons_succ, Nat.reduceAdd, Nat.zero_add]
    rw [hL_p0 S 12 _ _ 11 _ (by simp), ob, hqn_eq, hNew_hL, hL_hL]
    simp only [hL_2, List.cons_append, List.nil_append, List.length_cons, List.length_nil, List.set_cons_zero, List.set_cons_succ, Nat.reduceAdd, Nat.zero_add]
    rw [hL_p0 S 12 _ _ 13 _ (by simp), ob, hqn_eq, hNew_hL, hL_hL]
    simp only [hL_2, List.cons_append, List.nil_append, List.length_cons, List.length_nil, List.set_cons_zero, List.set_cons_succ, Nat.reduceAdd, Nat.zero_add]
    rw [hL_p0 S 12 _ _ 15 _ (by simp), ob]
    simp only [hL_2, List.cons_append, List.nil_append, List.length_cons, List.length_nil, List.set_cons_zero, List.set_cons_succ, Nat.reduceAdd, Nat.zero_add]
    rw [hL_g0 S 12 _ _ 1 (S.2 + 1) rfl, ob, hL_sI (S := S) (x := 0) (i := 1) (j := 0) (N := 1735) (f := fun _ => 0) rfl rfl (by decide) (by decide), ob]
    rfl
  rw [e]
  refine congrArg some (hM_hL S _ rfl fun i hi => ?_)
  match i, hi with
  | 0, _ => exact (hM_0 S.2 mo0 mc0 (S.1, S.2 + 8)).symm
  | 1, _ => exact (hM_1 S.2 mo0 mc0 (S.1, S.2 + 8)).symm
  | 2, _ => exact (hM_2 S.2 mo0 mc0 (S.1, S.2 + 8)).symm
  | 3, _ => exact (hM_3 S.2 mo0 mc0 (S.1, S.2 + 8)).symm
  | 4, _ => exact (hM_4 S.2 mo0 mc0 (S.1, S.2 + 8)).symm
  | 5, _ => exact (hM_5 S.2 mo0 mc0 (S.1, S.2 + 8)).symm
  | 6, _ => exact (hM_6 S.2 mo0 mc0 (S.1, S.2 + 8)).symm
  | 7, _ => exact (hM_7 S.2 mo0 mc0 (S.1, S.2 + 8)).symm
  | j + 8, h => exact absurd h (by omega)
