/-! THE CLASS: what a text means -/
def chN (law : Bool) (w : Nat) : Nat := if law then ([109, 100, 107, 112, 108] : List Nat).getD w 0 else ([109, 100, 107, 120, 116, 115, 110] : List Nat).getD w 0
def encC (law : Bool) : Tk → Int32
  | .inl (w, h, v) => nI (chN law w * 512 + h * 128 + v)
  | .inr none => -3
  | .inr (some false) => -1
  | .inr (some true) => -2
/-- the words' first letters: take drop at by off -/
def wdN (k : Nat) : Nat := ([116, 100, 97, 98, 111] : List Nat).getD k 0
def ClR (law : Bool) (x : XT) : Nat → Nat → List Cl → Prop
  | _, _, [] => True
  | i, q, c :: r => x.2.2.1 i = nI (wdN c.1) ∧ x.2.2.2.1 i = nI c.2.1 ∧ At x.2.1 q (c.2.2.map (encC law)) ∧ x.2.2.2.2 i = nI (q + c.2.2.length) ∧ ClR law x (i + 1) (q + c.2.2.length) r
def tkL (law : Bool) (k : Tk) : Prop := match k with
  | .inl (w, _, _) => w < (if law then 5 else 7)
  | .inr _ => True
def clL (law : Bool) (c : Cl) : Prop := (if law then 2 ≤ c.1 else c.1 < 2) ∧ ∀ k ∈ c.2.2, tkL law k
def totT : List Cl → Nat
  | [] => 0
  | c :: r => c.2.2.length + totT r
def TxC (law : Bool) (x : XT) (l : List Cl) : Prop := x.1 7 = nI l.length ∧ l.length ≤ 8 ∧ ClR law x 0 0 l ∧ totT l ≤ 120 ∧ ∀ c ∈ l, clOk c ∧ clL law c
theorem kin_if {α : Type} {c : Nat} (h : hKin c = true) (x y : α) : (if c = 0 then x else if c = 1 then x else if c = 2 then x else if c = 3 then x else if c = 5 then x else if c = 9 then x else if c = 10 then x else y) = x := by
  unfold hKin at h
  repeat' split
  all_goals first | rfl | (exfalso; simp_all)
theorem chN_lt : ∀ (law : Bool) (w : Nat), w < 7 → chN law w < 121 := by decide +kernel
section TEXT
variable {S : HSt} {a t p : Nat} {s : Nat → Int32}
theorem gIT_of (h : S.1 a = some (.inr (kcN (tKind s t), tyF p s t))) {j : Nat} {v : Int32} (hf : (tyF p s t)[j]? = some (.int v)) : gIT S a j = some v := by
  unfold gIT
  rw [h]
  simp only [kcN_kin, if_true, hf]
theorem X9_valueOf (h : S.1 a = some (.inr (kcN (tKind s t), tyF p s t))) (law : Bool) {w : Nat} (hw : w < (if law then 5 else 7)) {bf : Int32} (hb : law = true → bf = nI (befN s t t)) : fv_X9_valueOf S a (nI (chN law w)) bf = some (nI (valT s (if law then 5 else 0) t w), S) := by
  unfold fv_X9_valueOf
  rw [show gC S a = some (kcN (tKind s t)) by simp [gC, h], oC_some, kin_if (kcN_kin _)]
  have g1 := gIT_of h (j := 1) rfl
  have g2 := gIT_of h (j := 2) rfl
  have g3 := gIT_of h (j := 3) rfl
  have g4 := gIT_of h (j := 4) rfl
  have g5 := gIT_of h (j := 5) rfl
  have g6 := gIT_of h (j := 6) rfl
  have g7 := gIT_of h (j := 7) rfl
  have g8 := gIT_of h (j := 8) rfl
  unfold f_X9_valueOf
  rw [g1, g2, g3, g4, g5, g6, g7, g8]
  simp only [ob]
  cases law
  · rcases (show w = 0 ∨ w = 1 ∨ w = 2 ∨ w = 3 ∨ w = 4 ∨ w = 5 ∨ w = 6 by simp at hw; omega) with rfl | rfl | rfl | rfl | rfl | rfl | rfl <;> rfl
  · have hb := hb rfl
    subst hb
    rcases (show w = 0 ∨ w = 1 ∨ w = 2 ∨ w = 3 ∨ w = 4 by simp at hw; omega) with rfl | rfl | rfl | rfl | rfl <;> rfl
theorem X7_testHolds (hs : sOk s) (ht : t < sN s 1) (h : S.1 a = some (.inr (kcN (tKind s t), tyF p s t))) (law : Bool) {w hh v : Nat} (hw : w < (if law then 5 else 7)) (h3 : hh < 3) (hv : v < 100) {bf : Int32} (hb : law = true → bf = nI (befN s t t)) : f_X7_testHolds S (nI (chN law w * 512 + hh * 128 + v)) a bf = some (bI (tst (valT s (if law then 5 else 0) t) w hh v), S) := by
  have hc := chN_lt law w (by cases law <;> simp at hw <;> omega)
  have hvl := valT_lt hs (if law then 5 else 0) ht w
  unfold f_X7_testHolds
  rw [pk_shrN (by omega) (9 &&& 31) 9 (by decide), show (chN law w * 512 + hh * 128 + v) / 2 ^ 9 = chN law w by omega, X9_valueOf h law hw hb, bd2_some, pk_shrN (by omega) (7 &&& 31) 7 (by decide), pk_andN (by omega) (m := 3) 2 (by decide), show (chN law w * 512 + hh * 128 + v) / 2 ^ 7 % 2 ^ 2 = hh by omega, pk_andN (by omega) (m := 127) 7 (by decide), show (chN law w * 512 + hh * 128 + v) % 2 ^ 7 = v by omega]
  generalize valT s (if law then 5 else 0) t = vl at *
  rcases (show hh = 0 ∨ hh = 1 ∨ hh = 2 by omega) with rfl | rfl | rfl
  · rw [tst0, if_pos (show nI 0 = 0 by decide)]
    by_cases h1 : v ≤ vl w
    · rw [if_pos (nI_le h1 (by omega)), decide_eq_false (by omega)]; rfl
    · rw [if_neg (nI_ge (by omega) (by omega)), decide_eq_true (by omega)]; rfl
  · rw [tst1, if_neg (show ¬ nI 1 = 0 by decide), if_pos (show nI 1 = 1 by decide)]
    by_cases h1 : vl w = v
    · rw [if_pos (by rw [h1]), decide_eq_true h1]; rfl
    · rw [if_neg (fun q => h1 ((nI_eq (by omega) (by omega)).mp q)), decide_eq_false h1]; rfl
  · rw [tst2, if_neg (show ¬ nI 2 = 0 by decide), if_neg (show ¬ nI 2 = 1 by decide)]
    by_cases h1 : vl w ≤ v
    · rw [if_pos (nI_le h1 (by omega)), decide_eq_false (by omega)]; rfl
    · rw [if_neg (nI_ge (by omega) (by omega)), decide_eq_true (by omega)]; rfl
end TEXT
/-- the stack stands in bits, its top the lowest -/
def StW (w : Int32) (st : List Bool) : Prop := ∀ (j : Nat) (b : Bool), st[j]? = some b → bt w j = b
theorem b_m2 : ∀ i, i < 32 → bt (-2) i = decide (i ≠ 0) := by decide +kernel
theorem i1_31 : (1 &&& 31 : Int32) = nI 1 &&& 31 := rfl
theorem StW_len {w : Int32} {st : List Bool} {j : Nat} {b : Bool} (h : st[j]? = some b) : j < st.length := (List.getElem?_eq_some_iff.mp h).1
theorem StW_push {w : Int32} {st : List Bool} (h : StW w st) (hl : st.length ≤ 20) (b : Bool) : StW ((w <<< (1 &&& 31)) ||| bI b) (b :: st) := by
  intro j x hj
  rw [i1_31]
  rcases j with _ | j
  · simp only [List.getElem?_cons_zero, Option.some.injEq] at hj
    subst hj
    rw [b_or, b_shl 1 (by omega) w (by omega)]
    cases b
    · simp [bI, b_0]
    · simp [bI, b_1 0 (by omega)]
  · simp only [List.getElem?_cons_succ] at hj
    have hl2 := StW_len (w := w) hj
    rw [b_or, b_shl 1 (by omega) w (by omega), Nat.add_sub_cancel, h j x hj]
    cases b
    · simp [bI, b_0]
    · simp [bI, b_1 (j + 1) (by omega)]
theorem StW_not {w : Int32} {b : Bool} {st : List Bool} (h : StW w (b :: st)) (hl : st.length ≤ 20) : StW (w ^^^ 1) ((!b) :: st) := by
  intro j x hj
  rcases j with _ | j
  · simp only [List.getElem?_cons_zero, Option.some.injEq] at hj
    subst hj
    rw [b_xor, h 0 b rfl, b_1 0 (by omega)]
    cases b <;> rfl
  · simp only [List.getElem?_cons_succ] at hj
    have hl2 := StW_len (w := w) hj
    rw [b_xor, h (j + 1) x (by simpa using hj), b_1 (j + 1) (by omega)]
    simp
theorem b_low {w : Int32} {i : Nat} (hi : i < 32) : bt (w &&& 1) i = (decide (i = 0) && bt w 0) := by
  rw [b_and, b_1 i hi]
  by_cases h : i = 0
  · subst h; simp
  · simp [h]
theorem StW_and {w : Int32} {a b : Bool} {st : List Bool} (h : StW w (a :: b :: st)) (hl : st.length ≤ 20) : StW ((w >>> (1 &&& 31)) &&& ((w &&& 1) ||| (-2))) ((b && a) :: st) := by
  intro j x hj
  rw [i1_31]
  rcases j with _ | j
  · simp only [List.getElem?_cons_zero, Option.some.injEq] at hj
    subst hj
    rw [b_and, b_or, b_sshr 1 (by omega) w (by omega), b_low (by omega), b_m2 0 (by omega), if_pos (by omega), h 0 a rfl, h 1 b rfl]
    simp
  · simp only [List.getElem?_cons_succ] at hj
    have hl2 := StW_len (w := w) hj
    rw [b_and, b_or, b_sshr 1 (by omega) w (by omega), b_m2 (j + 1) (by omega), if_pos (by omega), show 1 + (j + 1) = j + 2 by omega, h (j + 2) x (by simpa using hj)]
    simp
theorem StW_or {w : Int32} {a b : Bool} {st : List Bool} (h : StW w (a :: b :: st)) (hl : st.length ≤ 20) : StW ((w >>> (1 &&& 31)) ||| (w &&& 1)) ((b || a) :: st) := by
  intro j x hj
  rw [i1_31]
  rcases j with _ | j
  · simp only [List.getElem?_cons_zero, Option.some.injEq] at hj
    subst hj
    rw [b_or, b_sshr 1 (by omega) w (by omega), b_low (by omega), if_pos (by omega), h 0 a rfl, h 1 b rfl]
    simp
  · simp only [List.getElem?_cons_succ] at hj
    have hl2 := StW_len (w := w) hj
    rw [b_or, b_sshr 1 (by omega) w (by omega), b_low (by omega), if_pos (by omega), show 1 + (j + 1) = j + 2 by omega, h (j + 2) x (by simpa using hj)]
    simp
theorem dep1_le {k : Tk} {n d : Nat} (hd : dep1 k n = some d) (hn : n ≤ 20) : d ≤ 20 := by
  rcases k with ⟨w, h, v⟩ | _ | _ | _
  · simp only [dep1] at hd
    split at hd
    · cases hd; omega
    · cases hd
  · rcases n with _ | n <;> cases hd; omega
  · rcases n with _ | _ | n <;> cases hd; omega
  · rcases n with _ | _ | n <;> cases hd; omega
section HOLDS
variable {q0 rl : Nat} {fl : Int32} {x : XT} {B : HSt} {a t p : Nat} {s : Nat → Int32}
theorem hold_succ (a0 : Nat) (a1 : Int32) (a2 : Nat) (a3 : Int32) (K : Int32 → HSt → Option (Int32 × HSt)) (n : Nat) (w i : Int32) (S : HSt) : f_X7_holds_L36 a0 a1 a2 a3 K (n + 1) w i S = f_X7_holds_B36 a0 a1 a2 a3 K (f_X7_holds_L36 a0 a1 a2 a3 K n) w i S := rfl
theorem hold_toks (hs : sOk s) (ht : t < sN s 1) (h : (hT q0 rl fl x B).1 a = some (.inr (kcN (tKind s t), tyF p s t))) (law : Bool) {bf : Int32} (hb : law = true → bf = nI (befN s t t)) {i E : Nat} (hi : i < 8) (hE : x.2.2.2.2 i = nI E) (hE2 : E ≤ 120) (K : Int32 → HSt → Option (Int32 × HSt)) : ∀ (l : List Tk) (st : List Bool) (w : Int32) (q d f : Nat), At x.2.1 q (l.map (encC law)) → q + l.length ≤ E → StW w st → st.length ≤ 20 → dep l st.length = some d → (∀ k ∈ l, tkL law k) →
    ∃ st' w', run (valT s (if law then 5 else 0) t) l st = some st' ∧ StW w' st' ∧ f_X7_holds_L36 q0 (nI i) a bf K (f + l.length) w (nI q) (hT q0 rl fl x B) = f_X7_holds_L36 q0 (nI i) a bf K f w' (nI (q + l.length)) (hT q0 rl fl x B) := by
  intro l
  induction l with
  | nil =>
    intro st w q d f _ _ hst _ _ _
    exact ⟨st, w, rfl, hst, rfl⟩
  | cons k l ih =>
    intro st w q d f hA hq hst hl hd hk
    simp only [List.length_cons] at hq
    obtain ⟨d1, hd1, hd2⟩ := Option.bind_eq_some_iff.mp hd
    have hd20 := dep1_le hd1 hl
    have hk0 : x.2.1 q = encC law k := hA.1
    have head : f_X7_holds_L36 q0 (nI i) a bf K (f + (k :: l).length) w (nI q) (hT q0 rl fl x B) = (if encC law k = (-3) then (f_X7_holds_L36 q0 (nI i) a bf K (f + l.length) (w ^^^ 1) (nI (q + 1)) (hT q0 rl fl x B)) else (if encC law k = (-1) then (f_X7_holds_L36 q0 (nI i) a bf K (f + l.length) ((w >>> (1 &&& 31)) &&& ((w &&& 1) ||| (-2))) (nI (q + 1)) (hT q0 rl fl x B)) else (if encC law k = (-2) then (f_X7_holds_L36 q0 (nI i) a bf K (f + l.length) ((w >>> (1 &&& 31)) ||| (w &&& 1)) (nI (q + 1)) (hT q0 rl fl x B)) else (bd2 (f_X7_testHolds (hT q0 rl fl x B) (encC law k) a bf) fun v35 S34 => if v35 = 0 then (f_X7_holds_L36 q0 (nI i) a bf K (f + l.length) ((w <<< (1 &&& 31)) ||| 0) (nI (q + 1)) S34) else (f_X7_holds_L36 q0 (nI i) a bf K (f + l.length) ((w <<< (1 &&& 31)) ||| 1) (nI (q + 1)) S34))))) := by
      rw [show f + (k :: l).length = f + l.length + 1 by simp only [List.length_cons]; omega, hold_succ]
      unfold f_X7_holds_B36
      rw [if_neg (nI_pos (by omega)), TR_5, ob, TA_4 q0 rl fl x B (k := i) rfl hi, hE, ob, if_neg (nI_ge (by omega) (by omega)), TR_2, ob, TN_1, ob, if_neg (show ¬ (120 : Int32) ≤ nI q from nI_ge (b := 120) (by omega) (by omega)), ob, TA_1 q0 rl fl x B (k := q) rfl (by omega), hk0, ob, hqn_eq, nI_1]
    have fin : ∀ (st1 : List Bool) (w1 : Int32), run1 (valT s (if law then 5 else 0) t) k st = some st1 → st1.length = d1 → StW w1 st1 → f_X7_holds_L36 q0 (nI i) a bf K (f + (k :: l).length) w (nI q) (hT q0 rl fl x B) = f_X7_holds_L36 q0 (nI i) a bf K (f + l.length) w1 (nI (q + 1)) (hT q0 rl fl x B) → ∃ st' w', run (valT s (if law then 5 else 0) t) (k :: l) st = some st' ∧ StW w' st' ∧ f_X7_holds_L36 q0 (nI i) a bf K (f + (k :: l).length) w (nI q) (hT q0 rl fl x B) = f_X7_holds_L36 q0 (nI i) a bf K f w' (nI (q + (k :: l).length)) (hT q0 rl fl x B) := by
      intro st1 w1 r1 r2 r3 r4
      subst r2
      obtain ⟨st', w', z1, z2, z3⟩ := ih st1 w1 (q + 1) d f hA.2 (by omega) r3 hd20 hd2 (fun y hy => hk y (List.mem_cons_of_mem _ hy))
      refine ⟨st', w', ?_, z2, ?_⟩
      · unfold run
        rw [r1]
        exact z1
      · rw [r4, z3, show q + 1 + l.length = q + (k :: l).length by simp only [List.length_cons]; omega]
    have hkk := hk k List.mem_cons_self
    rcases k with ⟨w0, hh, v⟩ | _ | _ | _
    · simp only [dep1] at hd1
      split at hd1
      · rename_i hc
        obtain ⟨c1, c2, c3, c4⟩ := hc
        cases hd1
        have hw7 : w0 < 7 := by
          have : w0 < (if law then 5 else 7) := hkk
          cases law <;> simp at this <;> omega
        have hc0 := chN_lt law w0 hw7
        have en : encC law (.inl (w0, hh, v)) = nI (chN law w0 * 512 + hh * 128 + v) := rfl
        refine fin (tst (valT s (if law then 5 else 0) t) w0 hh v :: st) ((w <<< (1 &&& 31)) ||| bI (tst (valT s (if law then 5 else 0) t) w0 hh v)) rfl rfl (StW_push hst hl _) ?_
        have nn : ∀ m : Int32, m < 0 → ¬ nI (chN law w0 * 512 + hh * 128 + v) = m := fun m hm q => nI_pos (n := chN law w0 * 512 + hh * 128 + v) (by omega) (by rw [q]; exact hm)
        rw [head, en, if_neg (nn _ (by decide)), if_neg (nn _ (by decide)), if_neg (nn _ (by decide)), X7_testHolds hs ht h law hkk c3 c4 hb, bd2_some, bI_if]
        cases tst (valT s (if law then 5 else 0) t) w0 hh v <;> rfl
      · cases hd1
    · rcases st with _ | ⟨b, st⟩
      · cases hd1
      · cases hd1
        refine fin ((!b) :: st) _ rfl rfl (StW_not hst (by simp at hl; omega)) ?_
        rw [head]
        exact if_pos rfl
    · rcases st with _ | ⟨b, _ | ⟨b2, st⟩⟩
      · cases hd1
      · cases hd1
      · cases hd1
        refine fin ((b2 && b) :: st) _ rfl rfl (StW_and hst (by simp at hl; omega)) ?_
        rw [head]
        exact (if_neg (show ¬ (-1 : Int32) = -3 by decide)).trans (if_pos rfl)
    · rcases st with _ | ⟨b, _ | ⟨b2, st⟩⟩
      · cases hd1
      · cases hd1
      · cases hd1
        refine fin ((b2 || b) :: st) _ rfl rfl (StW_or hst (by simp at hl; omega)) ?_
        rw [head]
        exact (if_neg (show ¬ (-2 : Int32) = -3 by decide)).trans ((if_neg (show ¬ (-2 : Int32) = -1 by decide)).trans (if_pos rfl))
/-- does a clause's E hold -/
theorem X7_holds (hs : sOk s) (ht : t < sN s 1) (h : (hT q0 rl fl x B).1 a = some (.inr (kcN (tKind s t), tyF p s t))) (law : Bool) {bf : Int32} (hb : law = true → bf = nI (befN s t t)) {i q : Nat} (hi : i < 8) {c : Cl} (hq : (i = 0 ∧ q = 0) ∨ (0 < i ∧ x.2.2.2.2 (i - 1) = nI q)) (hA : At x.2.1 q (c.2.2.map (encC law))) (hE : x.2.2.2.2 i = nI (q + c.2.2.length)) (hE2 : q + c.2.2.length ≤ 120) (hc : clOk c) (hL : clL law c) : f_X7_holds (hT q0 rl fl x B) q0 (nI i) a bf = some (bI (evC (valT s (if law then 5 else 0) t) c), hT q0 rl fl x B) := by
  have J : f_X7_holds_J34 q0 (nI i) a bf (nI q) (hT q0 rl fl x B) = some (bI (evC (valT s (if law then 5 else 0) t) c), hT q0 rl fl x B) := by
    unfold f_X7_holds_J34
    obtain ⟨st', w', z1, z2, z3⟩ := hold_toks (B := B) hs ht h law hb hi hE hE2 f_X7_holds_K161 c.2.2 [] 0 q 1 (FU - c.2.2.length) hA (Nat.le_refl _) (fun j b hj => by simp at hj) (by simp) hc.2.2 hL.2
    rw [evC_run _ c hc.2.2] at z1
    cases z1
    rw [show FU - c.2.2.length + c.2.2.length = FU by show 100000 - _ + _ = 100000; omega] at z3
    rw [z3]
    obtain ⟨f, hf⟩ : ∃ g, FU - c.2.2.length = g + 1 := ⟨100000 - c.2.2.length - 1, by show 100000 - _ = _; omega⟩
    rw [hf, hold_succ]
    unfold f_X7_holds_B36
    rw [if_neg (nI_pos (by omega)), TR_5, ob, TA_4 q0 rl fl x B (k := i) rfl hi, hE, ob, if_pos (nI_le (Nat.le_refl _) (by omega))]
    unfold f_X7_holds_K161
    have e := z2 0 _ rfl
    generalize evC (valT s (if law then 5 else 0) t) c = v at *
    have e2 : ((w' &&& 1) = 1) ↔ v = true := by
      rw [← e]
      constructor
      · intro q
        have : bt (w' &&& 1) 0 = true := by rw [q]; exact b_1 0 (by omega)
        rw [b_low (by omega)] at this
        simpa using this
      · intro q
        apply b_ext
        intro j hj
        rw [b_low hj, b_1 j hj, q]
        simp
    cases v
    · rw [if_neg (fun q => by have := e2.mp q; cases this)]; rfl
    · rw [if_pos (e2.mpr rfl)]; rfl
  unfold f_X7_holds
  rw [if_neg (nI_pos (by omega)), TR_5, ob, TN_4, ob, if_pos (show nI i < (8 : Int32) from nI_lt (b := 8) hi (by omega))]
  rcases hq with ⟨rfl, rfl⟩ | ⟨h0, hq⟩
  · rw [if_pos (show nI 0 = 0 from rfl)]
    exact J
  · rw [if_neg (nI_ne0 h0 (by omega)), ob]
    have e : nI i - 1 = nI (i - 1) := pk_sub (b := 1) (by omega)
    rw [e, TA_4 q0 rl fl x B (k := i - 1) rfl (by omega), hq, ob]
    exact J
end HOLDS
