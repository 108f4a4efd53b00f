/-! THE START: the class's object -/
def k0 : KK := (fun i => if i = 0 ∨ i = 12 then 10 else 0, fun _ => none, p0, o0, o0, r0, fun _ => 0, p0, fun _ => t0)
def rowC (f : Nat → Option Nat) : HC := .inl (5, 5, .inr (.inr (.inr (.inr f))))
set_option maxRecDepth 100000 in
theorem X11_new (ρ : Nat → Nat) (S : HSt) : ∃ l : List HC, f_X11_init ρ (hNew S (.inr (11, [.int 0, .null, .int 0, .null, .null, .int 0, .null, .int 0, .null, .null, .null, .int 0, .int 0, .int 0, .int 0, .int 0, .null, .null]))) S.2 = some (hL S l) ∧ l.length = 65 ∧ ∀ i, i < 65 → l[i]? = (hK S.2 ρ k0 (S.1, S.2 + 65)).1 (S.2 + i) := by
  have b0 : (0 : Int32) = tFl 0 := rfl
  have b1 : (1 : Int32) = tFl 1 := rfl
  refine ⟨[.inr (11, KF S.2 k0), .inl (4, 30, .inr (.inr (.inr (.inr (fun _ => none))))), .inr (6, PF (S.2 + 2) p0), .inl (1, 120, .inl (fun _ => 0)), .inl (5, 5, .inr (.inr (.inr (.inr (va_up (va_up (va_up (va_up (va_up (fun _ => none) 0 (some (S.2 + 15))) 1 (some (S.2 + 25))) 2 (some (S.2 + 35))) 3 (some (S.2 + 45))) 4 (some (S.2 + 55))))))), .inl (5, 5, .inr (.inr (.inr (.inr (va_up (va_up (va_up (va_up (va_up (fun _ => none) 0 (some (S.2 + 20))) 1 (some (S.2 + 30))) 2 (some (S.2 + 40))) 3 (some (S.2 + 50))) 4 (some (S.2 + 60))))))), .inr (4, OF (S.2 + 6) o0), .inl (3, 10, .inr (.inl (fun _ => 0))), .inr (4, OF (S.2 + 8) o0), .inl (3, 10, .inr (.inl (fun _ => 0))), .inr (8, RF (S.2 + 10) r0), .inl (0, 20, .inl (fun _ => 0)), .inl (0, 30, .inl (fun _ => 0)), .inr (6, PF (S.2 + 13) p0), .inl (1, 120, .inl (fun _ => 0)), .inr (7, TF (S.2 + 15) (tLet ρ 0) (tFl 0) t0), .inl (0, 120, .inl (fun _ => 0)), .inl (0, 8, .inl (fun _ => 0)), .inl (0, 8, .inl (fun _ => 0)), .inl (0, 8, .inl (fun _ => 0)), .inr (7, TF (S.2 + 20) (tLet ρ 1) (tFl 1) t0), .inl (0, 120, .inl (fun _ => 0)), .inl (0, 8, .inl (fun _ => 0)), .inl (0, 8, .inl (fun _ => 0)), .inl (0, 8, .inl (fun _ => 0)), .inr (7, TF (S.2 + 25) (tLet ρ 2) (tFl 2) t0), .inl (0, 120, .inl (fun _ => 0)), .inl (0, 8, .inl (fun _ => 0)), .inl (0, 8, .inl (fun _ => 0)), .inl (0, 8, .inl (fun _ => 0)), .inr (7, TF (S.2 + 30) (tLet ρ 3) (tFl 3) t0), .inl (0, 120, .inl (fun _ => 0)), .inl (0, 8, .inl (fun _ => 0)), .inl (0, 8, .inl (fun _ => 0)), .inl (0, 8, .inl (fun _ => 0)), .inr (7, TF (S.2 + 35) (tLet ρ 4) (tFl 4) t0), .inl (0, 120, .inl (fun _ => 0)), .inl (0, 8, .inl (fun _ => 0)), .inl (0, 8, .inl (fun _ => 0)), .inl (0, 8, .inl (fun _ => 0)), .inr (7, TF (S.2 + 40) (tLet ρ 5) (tFl 5) t0), .inl (0, 120, .inl (fun _ => 0)), .inl (0, 8, .inl (fun _ => 0)), .inl (0, 8, .inl (fun _ => 0)), .inl (0, 8, .inl (fun _ => 0)), .inr (7, TF (S.2 + 45) (tLet ρ 6) (tFl 6) t0), .inl (0, 120, .inl (fun _ => 0)), .inl (0, 8, .inl (fun _ => 0)), .inl (0, 8, .inl (fun _ => 0)), .inl (0, 8, .inl (fun _ => 0)), .inr (7, TF (S.2 + 50) (tLet ρ 7) (tFl 7) t0), .inl (0, 120, .inl (fun _ => 0)), .inl (0, 8, .inl (fun _ => 0)), .inl (0, 8, .inl (fun _ => 0)), .inl (0, 8, .inl (fun _ => 0)), .inr (7, TF (S.2 + 55) (tLet ρ 8) (tFl 8) t0), .inl (0, 120, .inl (fun _ => 0)), .inl (0, 8, .inl (fun _ => 0)), .inl (0, 8, .inl (fun _ => 0)), .inl (0, 8, .inl (fun _ => 0)), .inr (7, TF (S.2 + 60) (tLet ρ 9) (tFl 9) t0), .inl (0, 120, .inl (fun _ => 0)), .inl (0, 8, .inl (fun _ => 0)), .inl (0, 8, .inl (fun _ => 0)), .inl (0, 8, .inl (fun _ => 0))], ?_, rfl, ?_⟩
  · unfold f_X11_init
    rw [hNew_hL]
    rw [hL_p0 S 11 _ _ 0 _ (by simp), ob, hqn_eq, hNew_hL, hL_hL]
    simp only [tC, hL_2, List.cons_append, List.nil_append, List.length_cons, List.length_nil, List.set_cons_zero, List.set_cons_succ, Nat.reduceAdd, Nat.zero_add]
    rw [hL_p0 S 11 _ _ 1 _ (by simp), ob, hL_p0 S 11 _ _ 2 _ (by simp), ob, hqn_eq, X6_new, ob, hL_hL]
    simp only [tC, hL_2, List.cons_append, List.nil_append, List.length_cons, List.length_nil, List.set_cons_zero, List.set_cons_succ, Nat.reduceAdd, Nat.zero_add]
    rw [hL_p0 S 11 _ _ 3 _ (by simp), ob, hqn_eq, hNew_hL, hL_hL]
    simp only [tC, hL_2, List.cons_append, List.nil_append, List.length_cons, List.length_nil, List.set_cons_zero, List.set_cons_succ, Nat.reduceAdd, Nat.zero_add]
    rw [hL_p0 S 11 _ _ 4 _ (by simp), ob, hL_p0 S 11 _ _ 5 _ (by simp), ob, hqn_eq, hNew_hL, hL_hL]
    simp only [tC, hL_2, List.cons_append, List.nil_append, List.length_cons, List.length_nil, List.set_cons_zero, List.set_cons_succ, Nat.reduceAdd, Nat.zero_add]
    rw [hL_p0 S 11 _ _ 6 _ (by simp), ob, hL_p0 S 11 _ _ 7 _ (by simp), ob, hqn_eq, X4_new, ob, hL_hL]
    simp only [tC, hL_2, List.cons_append, List.nil_append, List.length_cons, List.length_nil, List.set_cons_zero, List.set_cons_succ, Nat.reduceAdd, Nat.zero_add]
    rw [hL_p0 S 11 _ _ 8 _ (by simp), ob, hqn_eq, X4_new, ob, hL_hL]
    simp only [tC, hL_2, List.cons_append, List.nil_append, List.length_cons, List.length_nil, List.set_cons_zero, List.set_cons_succ, Nat.reduceAdd, Nat.zero_add]
    rw [hL_p0 S 11 _ _ 9 _ (by simp), ob, hqn_eq, X8_new, ob, hL_hL]
    simp only [tC, hL_2, List.cons_append, List.nil_append, List.length_cons, List.length_nil, List.set_cons_zero, List.set_cons_succ, Nat.reduceAdd, Nat.zero_add]
    rw [hL_p0 S 11 _ _ 10 _ (by simp), ob, hL_p0 S 11 _ _ 11 _ (by simp), ob, hL_p0 S 11 _ _ 12 _ (by simp), ob, hL_p0 S 11 _ _ 13 _ (by simp), ob, hL_p0 S 11 _ _ 14 _ (by simp), ob, hL_p0 S 11 _ _ 15 _ (by simp), ob, hqn_eq, hNew_hL, hL_hL]
    simp only [tC, hL_2, List.cons_append, List.nil_append, List.length_cons, List.length_nil, List.set_cons_zero, List.set_cons_succ, Nat.reduceAdd, Nat.zero_add]
    rw [hL_p0 S 11 _ _ 16 _ (by simp), ob, hqn_eq, X6_new, ob, hL_hL]
    simp only [tC, hL_2, List.cons_append, List.nil_append, List.length_cons, List.length_nil, List.set_cons_zero, List.set_cons_succ, Nat.reduceAdd, Nat.zero_add]
    rw [hL_p0 S 11 _ _ 17 _ (by simp), ob]
    rw [hL_g0 S 11 _ _ 4 (S.2 + 4) rfl, ob, hqn_eq, show ∀ A : HSt, f_X7_init ρ (hNew A (.inr (7, [.int 0, .null, .null, .null, .null, .null, .int 0, .int 0, .int 0, .int 0, .int 0]))) A.2 0 = some (hL A (tC ρ A.2 0)) from fun A => X7_new ρ A 0, ob, hL_hL]
    simp only [tC, hL_2, List.cons_append, List.nil_append, List.length_cons, List.length_nil, List.set_cons_zero, List.set_cons_succ, Nat.reduceAdd, Nat.zero_add]
    rw [hL_c (S := S) (i := 15) (ci := 7) (vs := TF (S.2 + 15) (tLet ρ 0) (tFl 0) t0) rfl, if_pos rfl, hL_sQ (S := S) (i := 4) (x := 0) (j := 0) (f := _) rfl rfl (by decide), ob]
    simp only [List.set_cons_zero, List.set_cons_succ]
    rw [hL_g0 S 11 _ _ 6 (S.2 + 5) rfl, ob, hqn_eq, show ∀ A : HSt, f_X7_init ρ (hNew A (.inr (7, [.int 0, .null, .null, .null, .null, .null, .int 0, .int 0, .int 0, .int 0, .int 0]))) A.2 1 = some (hL A (tC ρ A.2 1)) from fun A => X7_new ρ A 1, ob, hL_hL]
    simp only [tC, hL_2, List.cons_append, List.nil_append, List.length_cons, List.length_nil, List.set_cons_zero, List.set_cons_succ, Nat.reduceAdd, Nat.zero_add]
    rw [hL_c (S := S) (i := 20) (ci := 7) (vs := TF (S.2 + 20) (tLet ρ 1) (tFl 1) t0) rfl, if_pos rfl, hL_sQ (S := S) (i := 5) (x := 0) (j := 0) (f := _) rfl rfl (by decide), ob]
    simp only [List.set_cons_zero, List.set_cons_succ]
    rw [hL_g0 S 11 _ _ 4 (S.2 + 4) rfl, ob, hqn_eq, show ∀ A : HSt, f_X7_init ρ (hNew A (.inr (7, [.int 0, .null, .null, .null, .null, .null, .int 0, .int 0, .int 0, .int 0, .int 0]))) A.2 0 = some (hL A (tC ρ A.2 2)) from fun A => X7_new ρ A 2, ob, hL_hL]
    simp only [tC, hL_2, List.cons_append, List.nil_append, List.length_cons, List.length_nil, List.set_cons_zero, List.set_cons_succ, Nat.reduceAdd, Nat.zero_add]
    rw [hL_c (S := S) (i := 25) (ci := 7) (vs := TF (S.2 + 25) (tLet ρ 2) (tFl 2) t0) rfl, if_pos rfl, hL_sQ (S := S) (i := 4) (x := 1) (j := 1) (f := _) rfl rfl (by decide), ob]
    simp only [List.set_cons_zero, List.set_cons_succ]
    rw [hL_g0 S 11 _ _ 6 (S.2 + 5) rfl, ob, hqn_eq, show ∀ A : HSt, f_X7_init ρ (hNew A (.inr (7, [.int 0, .null, .null, .null, .null, .null, .int 0, .int 0, .int 0, .int 0, .int 0]))) A.2 1 = some (hL A (tC ρ A.2 3)) from fun A => X7_new ρ A 3, ob, hL_hL]
    simp only [tC, hL_2, List.cons_append, List.nil_append, List.length_cons, List.length_nil, List.set_cons_zero, List.set_cons_succ, Nat.reduceAdd, Nat.zero_add]
    rw [hL_c (S := S) (i := 30) (ci := 7) (vs := TF (S.2 + 30) (tLet ρ 3) (tFl 3) t0) rfl, if_pos rfl, hL_sQ (S := S) (i := 5) (x := 1) (j := 1) (f := _) rfl rfl (by decide), ob]
    simp only [List.set_cons_zero, List.set_cons_succ]
    rw [hL_g0 S 11 _ _ 4 (S.2 + 4) rfl, ob, hqn_eq, show ∀ A : HSt, f_X7_init ρ (hNew A (.inr (7, [.int 0, .null, .null, .null, .null, .null, .int 0, .int 0, .int 0, .int 0, .int 0]))) A.2 0 = some (hL A (tC ρ A.2 4)) from fun A => X7_new ρ A 4, ob, hL_hL]
    simp only [tC, hL_2, List.cons_append, List.nil_append, List.length_cons, List.length_nil, List.set_cons_zero, List.set_cons_succ, Nat.reduceAdd, Nat.zero_add]
    rw [hL_c (S := S) (i := 35) (ci := 7) (vs := TF (S.2 + 35) (tLet ρ 4) (tFl 4) t0) rfl, if_pos rfl, hL_sQ (S := S) (i := 4) (x := 2) (j := 2) (f := _) rfl rfl (by decide), ob]
    simp only [List.set_cons_zero, List.set_cons_succ]
    rw [hL_g0 S 11 _ _ 6 (S.2 + 5) rfl, ob, hqn_eq, show ∀ A : HSt, f_X7_init ρ (hNew A (.inr (7, [.int 0, .null, .null, .null, .null, .null, .int 0, .int 0, .int 0, .int 0, .int 0]))) A.2 1 = some (hL A (tC ρ A.2 5)) from fun A => X7_new ρ A 5, ob, hL_hL]
    simp only [tC, hL_2, List.cons_append, List.nil_append, List.length_cons, List.length_nil, List.set_cons_zero, List.set_cons_succ, Nat.reduceAdd, Nat.zero_add]
    rw [hL_c (S := S) (i := 40) (ci := 7) (vs := TF (S.2 + 40) (tLet ρ 5) (tFl 5) t0) rfl, if_pos rfl, hL_sQ (S := S) (i := 5) (x := 2) (j := 2) (f := _) rfl rfl (by decide), ob]
    simp only [List.set_cons_zero, List.set_cons_succ]
    rw [hL_g0 S 11 _ _ 4 (S.2 + 4) rfl, ob, hqn_eq, show ∀ A : HSt, f_X7_init ρ (hNew A (.inr (7, [.int 0, .null, .null, .null, .null, .null, .int 0, .int 0, .int 0, .int 0, .int 0]))) A.2 0 = some (hL A (tC ρ A.2 6)) from fun A => X7_new ρ A 6, ob, hL_hL]
    simp only [tC, hL_2, List.cons_append, List.nil_append, List.length_cons, List.length_nil, List.set_cons_zero, List.set_cons_succ, Nat.reduceAdd, Nat.zero_add]
    rw [hL_c (S := S) (i := 45) (ci := 7) (vs := TF (S.2 + 45) (tLet ρ 6) (tFl 6) t0) rfl, if_pos rfl, hL_sQ (S := S) (i := 4) (x := 3) (j := 3) (f := _) rfl rfl (by decide), ob]
    simp only [List.set_cons_zero, List.set_cons_succ]
    rw [hL_g0 S 11 _ _ 6 (S.2 + 5) rfl, ob, hqn_eq, show ∀ A : HSt, f_X7_init ρ (hNew A (.inr (7, [.int 0, .null, .null, .null, .null, .null, .int 0, .int 0, .int 0, .int 0, .int 0]))) A.2 1 = some (hL A (tC ρ A.2 7)) from fun A => X7_new ρ A 7, ob, hL_hL]
    simp only [tC, hL_2, List.cons_append, List.nil_append, List.length_cons, List.length_nil, List.set_cons_zero, List.set_cons_succ, Nat.reduceAdd, Nat.zero_add]
    rw [hL_c (S := S) (i := 50) (ci := 7) (vs := TF (S.2 + 50) (tLet ρ 7) (tFl 7) t0) rfl, if_pos rfl, hL_sQ (S := S) (i := 5) (x := 3) (j := 3) (f := _) rfl rfl (by decide), ob]
    simp only [List.set_cons_zero, List.set_cons_succ]
    rw [hL_g0 S 11 _ _ 4 (S.2 + 4) rfl, ob, hqn_eq, show ∀ A : HSt, f_X7_init ρ (hNew A (.inr (7, [.int 0, .null, .null, .null, .null, .null, .int 0, .int 0, .int 0, .int 0, .int 0]))) A.2 0 = some (hL A (tC ρ A.2 8)) from fun A => X7_new ρ A 8, ob, hL_hL]
    simp only [tC, hL_2, List.cons_append, List.nil_append, List.length_cons, List.length_nil, List.set_cons_zero, List.set_cons_succ, Nat.reduceAdd, Nat.zero_add]
    rw [hL_c (S := S) (i := 55) (ci := 7) (vs := TF (S.2 + 55) (tLet ρ 8) (tFl 8) t0) rfl, if_pos rfl, hL_sQ (S := S) (i := 4) (x := 4) (j := 4) (f := _) rfl rfl (by decide), ob]
    simp only [List.set_cons_zero, List.set_cons_succ]
    rw [hL_g0 S 11 _ _ 6 (S.2 + 5) rfl, ob, hqn_eq, show ∀ A : HSt, f_X7_init ρ (hNew A (.inr (7, [.int 0, .null, .null, .null, .null, .null, .int 0, .int 0, .int 0, .int 0, .int 0]))) A.2 1 = some (hL A (tC ρ A.2 9)) from fun A => X7_new ρ A 9, ob, hL_hL]
    simp only [tC, hL_2, List.cons_append, List.nil_append, List.length_cons, List.length_nil, List.set_cons_zero, List.set_cons_succ, Nat.reduceAdd, Nat.zero_add]
    rw [hL_c (S := S) (i := 60) (ci := 7) (vs := TF (S.2 + 60) (tLet ρ 9) (tFl 9) t0) rfl, if_pos rfl, hL_sQ (S := S) (i := 5) (x := 4) (j := 4) (f := _) rfl rfl (by decide), ob]
    simp only [List.set_cons_zero, List.set_cons_succ]
    rfl
  · intro i hi
    match i, hi with
    | 0, _ => exact (hK_0 S.2 ρ k0 (S.1, S.2 + 65)).symm
    | 1, _ => exact (hK_1 S.2 ρ k0 (S.1, S.2 + 65)).symm
    | 2, _ => rw [hK_tp0 S.2 ρ k0 (S.1, S.2 + 65)]; exact (hP_0 (S.2 + 2) p0 _).symm
    | 3, _ => rw [hK_tp0 S.2 ρ k0 (S.1, S.2 + 65)]; exact (hP_1 (S.2 + 2) p0 _).symm
    | 4, _ =>
      rw [hK_4 S.2 ρ k0 (S.1, S.2 + 65)]
      exact congrArg (fun f => some (rowC f)) (show (va_up (va_up (va_up (va_up (va_up (fun _ => none) 0 (some (S.2 + 15))) 1 (some (S.2 + 25))) 2 (some (S.2 + 35))) 3 (some (S.2 + 45))) 4 (some (S.2 + 55))) = fun p => if p < 5 then some (txA S.2 (2 * p)) else none from funext fun p => by
        match p with
        | 0 => rfl
        | 1 => rfl
        | 2 => rfl
        | 3 => rfl
        | 4 => rfl
        | q + 5 =>
          rw [if_neg (show ¬ q + 5 < 5 by omega)]
          unfold va_up
          rw [if_neg (by omega), if_neg (by omega), if_neg (by omega), if_neg (by omega), if_neg (by omega)])
    | 5, _ =>
      rw [hK_5 S.2 ρ k0 (S.1, S.2 + 65)]
      exact congrArg (fun f => some (rowC f)) (show (va_up (va_up (va_up (va_up (va_up (fun _ => none) 0 (some (S.2 + 20))) 1 (some (S.2 + 30))) 2 (some (S.2 + 40))) 3 (some (S.2 + 50))) 4 (some (S.2 + 60))) = fun p => if p < 5 then some (txA S.2 (2 * p + 1)) else none from funext fun p => by
        match p with
        | 0 => rfl
        | 1 => rfl
        | 2 => rfl
        | 3 => rfl
        | 4 => rfl
        | q + 5 =>
          rw [if_neg (show ¬ q + 5 < 5 by omega)]
          unfold va_up
          rw [if_neg (by omega), if_neg (by omega), if_neg (by omega), if_neg (by omega), if_neg (by omega)])
    | 6, _ => rw [hK_od0 S.2 ρ k0 (S.1, S.2 + 65)]; exact (hO_0 (S.2 + 6) o0 _).symm
    | 7, _ => rw [hK_od0 S.2 ρ k0 (S.1, S.2 + 65)]; exact (hO_1 (S.2 + 6) o0 _).symm
    | 8, _ => rw [hK_fe0 S.2 ρ k0 (S.1, S.2 + 65)]; exact (hO_0 (S.2 + 8) o0 _).symm
    | 9, _ => rw [hK_fe0 S.2 ρ k0 (S.1, S.2 + 65)]; exact (hO_1 (S.2 + 8) o0 _).symm
    | 10, _ => rw [hK_tc0 S.2 ρ k0 (S.1, S.2 + 65)]; exact (hR_0 (S.2 + 10) r0 _).symm
    | 11, _ => rw [hK_tc0 S.2 ρ k0 (S.1, S.2 + 65)]; exact (hR_1 (S.2 + 10) r0 _).symm
    | 12, _ => exact (hK_12 S.2 ρ k0 (S.1, S.2 + 65)).symm
    | 13, _ => rw [hK_it0 S.2 ρ k0 (S.1, S.2 + 65)]; exact (hP_0 (S.2 + 13) p0 _).symm
    | 14, _ => rw [hK_it0 S.2 ρ k0 (S.1, S.2 + 65)]; exact (hP_1 (S.2 + 13) p0 _).symm
    | 15, _ => rw [hK_tx0 S.2 ρ k0 (S.1, S.2 + 65) (j := 0) (by decide)]; exact (hT_0 (txA S.2 0) (tLet ρ 0) (tFl 0) t0 _).symm
    | 16, _ => rw [hK_tx0 S.2 ρ k0 (S.1, S.2 + 65) (j := 0) (by decide)]; exact (hT_1 (txA S.2 0) (tLet ρ 0) (tFl 0) t0 _).symm
    | 17, _ => rw [hK_tx0 S.2 ρ k0 (S.1, S.2 + 65) (j := 0) (by decide)]; exact (hT_2 (txA S.2 0) (tLet ρ 0) (tFl 0) t0 _).symm
    | 18, _ => rw [hK_tx0 S.2 ρ k0 (S.1, S.2 + 65) (j := 0) (by decide)]; exact (hT_3 (txA S.2 0) (tLet ρ 0) (tFl 0) t0 _).symm
    | 19, _ => rw [hK_tx0 S.2 ρ k0 (S.1, S.2 + 65) (j := 0) (by decide)]; exact (hT_4 (txA S.2 0) (tLet ρ 0) (tFl 0) t0 _).symm
    | 20, _ => rw [hK_tx0 S.2 ρ k0 (S.1, S.2 + 65) (j := 1) (by decide)]; exact (hT_0 (txA S.2 1) (tLet ρ 1) (tFl 1) t0 _).symm
    | 21, _ => rw [hK_tx0 S.2 ρ k0 (S.1, S.2 + 65) (j := 1) (by decide)]; exact (hT_1 (txA S.2 1) (tLet ρ 1) (tFl 1) t0 _).symm
    | 22, _ => rw [hK_tx0 S.2 ρ k0 (S.1, S.2 + 65) (j := 1) (by decide)]; exact (hT_2 (txA S.2 1) (tLet ρ 1) (tFl 1) t0 _).symm
    | 23, _ => rw [hK_tx0 S.2 ρ k0 (S.1, S.2 + 65) (j := 1) (by decide)]; exact (hT_3 (txA S.2 1) (tLet ρ 1) (tFl 1) t0 _).symm
    | 24, _ => rw [hK_tx0 S.2 ρ k0 (S.1, S.2 + 65) (j := 1) (by decide)]; exact (hT_4 (txA S.2 1) (tLet ρ 1) (tFl 1) t0 _).symm
    | 25, _ => rw [hK_tx0 S.2 ρ k0 (S.1, S.2 + 65) (j := 2) (by decide)]; exact (hT_0 (txA S.2 2) (tLet ρ 2) (tFl 2) t0 _).symm
    | 26, _ => rw [hK_tx0 S.2 ρ k0 (S.1, S.2 + 65) (j := 2) (by decide)]; exact (hT_1 (txA S.2 2) (tLet ρ 2) (tFl 2) t0 _).symm
    | 27, _ => rw [hK_tx0 S.2 ρ k0 (S.1, S.2 + 65) (j := 2) (by decide)]; exact (hT_2 (txA S.2 2) (tLet ρ 2) (tFl 2) t0 _).symm
    | 28, _ => rw [hK_tx0 S.2 ρ k0 (S.1, S.2 + 65) (j := 2) (by decide)]; exact (hT_3 (txA S.2 2) (tLet ρ 2) (tFl 2) t0 _).symm
    | 29, _ => rw [hK_tx0 S.2 ρ k0 (S.1, S.2 + 65) (j := 2) (by decide)]; exact (hT_4 (txA S.2 2) (tLet ρ 2) (tFl 2) t0 _).symm
    | 30, _ => rw [hK_tx0 S.2 ρ k0 (S.1, S.2 + 65) (j := 3) (by decide)]; exact (hT_0 (txA S.2 3) (tLet ρ 3) (tFl 3) t0 _).symm
    | 31, _ => rw [hK_tx0 S.2 ρ k0 (S.1, S.2 + 65) (j := 3) (by decide)]; exact (hT_1 (txA S.2 3) (tLet ρ 3) (tFl 3) t0 _).symm
    | 32, _ => rw [hK_tx0 S.2 ρ k0 (S.1, S.2 + 65) (j := 3) (by decide)]; exact (hT_2 (txA S.2 3) (tLet ρ 3) (tFl 3) t0 _).symm
    | 33, _ => rw [hK_tx0 S.2 ρ k0 (S.1, S.2 + 65) (j := 3) (by decide)]; exact (hT_3 (txA S.2 3) (tLet ρ 3) (tFl 3) t0 _).symm
    | 34, _ => rw [hK_tx0 S.2 ρ k0 (S.1, S.2 + 65) (j := 3) (by decide)]; exact (hT_4 (txA S.2 3) (tLet ρ 3) (tFl 3) t0 _).symm
    | 35, _ => rw [hK_tx0 S.2 ρ k0 (S.1, S.2 + 65) (j := 4) (by decide)]; exact (hT_0 (txA S.2 4) (tLet ρ 4) (tFl 4) t0 _).symm
    | 36, _ => rw [hK_tx0 S.2 ρ k0 (S.1, S.2 + 65) (j := 4) (by decide)]; exact (hT_1 (txA S.2 4) (tLet ρ 4) (tFl 4) t0 _).symm
    | 37, _ => rw [hK_tx0 S.2 ρ k0 (S.1, S.2 + 65) (j := 4) (by decide)]; exact (hT_2 (txA S.2 4) (tLet ρ 4) (tFl 4) t0 _).symm
    | 38, _ => rw [hK_tx0 S.2 ρ k0 (S.1, S.2 + 65) (j := 4) (by decide)]; exact (hT_3 (txA S.2 4) (tLet ρ 4) (tFl 4) t0 _).symm
    | 39, _ => rw [hK_tx0 S.2 ρ k0 (S.1, S.2 + 65) (j := 4) (by decide)]; exact (hT_4 (txA S.2 4) (tLet ρ 4) (tFl 4) t0 _).symm
    | 40, _ => rw [hK_tx0 S.2 ρ k0 (S.1, S.2 + 65) (j := 5) (by decide)]; exact (hT_0 (txA S.2 5) (tLet ρ 5) (tFl 5) t0 _).symm
    | 41, _ => rw [hK_tx0 S.2 ρ k0 (S.1, S.2 + 65) (j := 5) (by decide)]; exact (hT_1 (txA S.2 5) (tLet ρ 5) (tFl 5) t0 _).symm
    | 42, _ => rw [hK_tx0 S.2 ρ k0 (S.1, S.2 + 65) (j := 5) (by decide)]; exact (hT_2 (txA S.2 5) (tLet ρ 5) (tFl 5) t0 _).symm
    | 43, _ => rw [hK_tx0 S.2 ρ k0 (S.1, S.2 + 65) (j := 5) (by decide)]; exact (hT_3 (txA S.2 5) (tLet ρ 5) (tFl 5) t0 _).symm
    | 44, _ => rw [hK_tx0 S.2 ρ k0 (S.1, S.2 + 65) (j := 5) (by decide)]; exact (hT_4 (txA S.2 5) (tLet ρ 5) (tFl 5) t0 _).symm
    | 45, _ => rw [hK_tx0 S.2 ρ k0 (S.1, S.2 + 65) (j := 6) (by decide)]; exact (hT_0 (txA S.2 6) (tLet ρ 6) (tFl 6) t0 _).symm
    | 46, _ => rw [hK_tx0 S.2 ρ k0 (S.1, S.2 + 65) (j := 6) (by decide)]; exact (hT_1 (txA S.2 6) (tLet ρ 6) (tFl 6) t0 _).symm
    | 47, _ => rw [hK_tx0 S.2 ρ k0 (S.1, S.2 + 65) (j := 6) (by decide)]; exact (hT_2 (txA S.2 6) (tLet ρ 6) (tFl 6) t0 _).symm
    | 48, _ => rw [hK_tx0 S.2 ρ k0 (S.1, S.2 + 65) (j := 6) (by decide)]; exact (hT_3 (txA S.2 6) (tLet ρ 6) (tFl 6) t0 _).symm
    | 49, _ => rw [hK_tx0 S.2 ρ k0 (S.1, S.2 + 65) (j := 6) (by decide)]; exact (hT_4 (txA S.2 6) (tLet ρ 6) (tFl 6) t0 _).symm
    | 50, _ => rw [hK_tx0 S.2 ρ k0 (S.1, S.2 + 65) (j := 7) (by decide)]; exact (hT_0 (txA S.2 7) (tLet ρ 7) (tFl 7) t0 _).symm
    | 51, _ => rw [hK_tx0 S.2 ρ k0 (S.1, S.2 + 65) (j := 7) (by decide)]; exact (hT_1 (txA S.2 7) (tLet ρ 7) (tFl 7) t0 _).symm
    | 52, _ => rw [hK_tx0 S.2 ρ k0 (S.1, S.2 + 65) (j := 7) (by decide)]; exact (hT_2 (txA S.2 7) (tLet ρ 7) (tFl 7) t0 _).symm
    | 53, _ => rw [hK_tx0 S.2 ρ k0 (S.1, S.2 + 65) (j := 7) (by decide)]; exact (hT_3 (txA S.2 7) (tLet ρ 7) (tFl 7) t0 _).symm
    | 54, _ => rw [hK_tx0 S.2 ρ k0 (S.1, S.2 + 65) (j := 7) (by decide)]; exact (hT_4 (txA S.2 7) (tLet ρ 7) (tFl 7) t0 _).symm
    | 55, _ => rw [hK_tx0 S.2 ρ k0 (S.1, S.2 + 65) (j := 8) (by decide)]; exact (hT_0 (txA S.2 8) (tLet ρ 8) (tFl 8) t0 _).symm
    | 56, _ => rw [hK_tx0 S.2 ρ k0 (S.1, S.2 + 65) (j := 8) (by decide)]; exact (hT_1 (txA S.2 8) (tLet ρ 8) (tFl 8) t0 _).symm
    | 57, _ => rw [hK_tx0 S.2 ρ k0 (S.1, S.2 + 65) (j := 8) (by decide)]; exact (hT_2 (txA S.2 8) (tLet ρ 8) (tFl 8) t0 _).symm
    | 58, _ => rw [hK_tx0 S.2 ρ k0 (S.1, S.2 + 65) (j := 8) (by decide)]; exact (hT_3 (txA S.2 8) (tLet ρ 8) (tFl 8) t0 _).symm
    | 59, _ => rw [hK_tx0 S.2 ρ k0 (S.1, S.2 + 65) (j := 8) (by decide)]; exact (hT_4 (txA S.2 8) (tLet ρ 8) (tFl 8) t0 _).symm
    | 60, _ => rw [hK_tx0 S.2 ρ k0 (S.1, S.2 + 65) (j := 9) (by decide)]; exact (hT_0 (txA S.2 9) (tLet ρ 9) (tFl 9) t0 _).symm
    | 61, _ => rw [hK_tx0 S.2 ρ k0 (S.1, S.2 + 65) (j := 9) (by decide)]; exact (hT_1 (txA S.2 9) (tLet ρ 9) (tFl 9) t0 _).symm
    | 62, _ => rw [hK_tx0 S.2 ρ k0 (S.1, S.2 + 65) (j := 9) (by decide)]; exact (hT_2 (txA S.2 9) (tLet ρ 9) (tFl 9) t0 _).symm
    | 63, _ => rw [hK_tx0 S.2 ρ k0 (S.1, S.2 + 65) (j := 9) (by decide)]; exact (hT_3 (txA S.2 9) (tLet ρ 9) (tFl 9) t0 _).symm
    | 64, _ => rw [hK_tx0 S.2 ρ k0 (S.1, S.2 + 65) (j := 9) (by decide)]; exact (hT_4 (txA S.2 9) (tLet ρ 9) (tFl 9) t0 _).symm
    | j + 65, h => exact absurd h (by omega)
