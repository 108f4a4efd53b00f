/-! THE CLASS: a text counts a try, a law says a place -/
def cntF (vl : Nat → Nat) (any tk : Bool) (r : List Cl) : Bool := (tk || anyC vl 0 r || !(any || decide (0 < cntC 0 r))) && !anyC vl 1 r
theorem anyC_cons (vl : Nat → Nat) (k : Nat) (c : Cl) (r : List Cl) : anyC vl k (c :: r) = ((decide (c.1 = k) && evC vl c) || anyC vl k r) := rfl
theorem cntC_cons (k : Nat) (c : Cl) (r : List Cl) : cntC k (c :: r) = cntC k r + if c.1 = k then 1 else 0 := rfl
theorem valT_lo (s : Nat → Int32) {a : Nat} (h : a < 5) (t : Nat) : valT s a t = valT s 0 t := funext fun w => by
  unfold valT
  rw [if_neg (show ¬ 5 ≤ a by omega), if_neg (show ¬ 5 ≤ a by omega)]
  rfl
theorem valT_hi (s : Nat → Int32) (l : Nat) (t : Nat) : valT s (5 + l) t = valT s 5 t := funext fun w => by
  unfold valT
  rw [if_pos (show 5 ≤ 5 + l by omega), if_pos (show 5 ≤ 5 + l by omega)]
  rfl
section TEXT2
variable {q0 rl : Nat} {fl : Int32} {x : XT} {B : HSt} {a t p : Nat} {s : Nat → Int32}
theorem cts_succ (a0 a1 : Nat) (K : Int32 → Int32 → HSt → Option (Int32 × HSt)) (f : Nat) (u v i : Int32) (S : HSt) : f_X7_counts_L7 a0 a1 K (f + 1) u v i S = f_X7_counts_B7 a0 a1 K (f_X7_counts_L7 a0 a1 K f) u v i S := rfl
theorem cts_loop (hs : sOk s) (ht : t < sN s 1) (h : (hT q0 rl fl x B).1 a = some (.inr (kcN (tKind s t), tyF p s t))) {N : Nat} (hN : x.1 7 = nI N) (hN8 : N ≤ 8) : ∀ (r : List Cl) (i q : Nat) (any tk : Bool) (f : Nat), ClR false x i q r → i + r.length = N → q + totT r ≤ 120 → ((i = 0 ∧ q = 0) ∨ (0 < i ∧ x.2.2.2.2 (i - 1) = nI q)) → (∀ c ∈ r, clOk c ∧ clL false c) → r.length < f → f_X7_counts_L7 q0 a f_X7_counts_K91 f (bI any) (bI tk) (nI i) (hT q0 rl fl x B) = some (bI (cntF (valT s 0 t) any tk r), hT q0 rl fl x B) := by
  intro r
  induction r with
  | nil =>
    intro i q any tk f _ hi _ _ _ hf
    obtain ⟨f, rfl⟩ : ∃ g, f = g + 1 := ⟨f - 1, by omega⟩
    simp only [List.length_nil] at hi
    rw [cts_succ]
    unfold f_X7_counts_B7
    rw [TI_7, ob, hN, if_pos (nI_le (by omega) (by omega))]
    unfold f_X7_counts_K91 cntF
    cases any <;> cases tk <;> rfl
  | cons c r ih =>
    intro i q any tk f hC hi hq hst hok hf
    obtain ⟨f, rfl⟩ : ∃ g, f = g + 1 := ⟨f - 1, by omega⟩
    simp only [List.length_cons] at hi hf
    simp only [totT] at hq
    obtain ⟨c1, c2, c3, c4, c5⟩ := hC
    obtain ⟨k1, k2⟩ := hok c List.mem_cons_self
    have hh := X7_holds (q0 := q0) (rl := rl) (fl := fl) (B := B) hs ht h false (bf := 100) (fun z => by cases z) (show i < 8 by omega) hst c3 c4 (by omega) k1 k2
    rw [show (if false = true then 5 else 0) = 0 from rfl] at hh
    rw [cts_succ]
    unfold f_X7_counts_B7
    rw [TI_7, ob, hN, if_neg (nI_ge (by omega) (by omega)), TR_3, ob, TN_2, ob, if_neg (show ¬ (8 : Int32) ≤ nI i from nI_ge (b := 8) (by omega) (by omega)), hT_C, if_pos rfl, hh, bd2_some, TR_3, ob, TA_2 q0 rl fl x B (k := i) rfl (by omega), c1, ob]
    unfold f_X7_counts_J56
    rw [TR_3, ob, TA_2 q0 rl fl x B (k := i) rfl (by omega), c1, ob, nI_1]
    have nx : ∀ (any2 tk2 : Bool), f_X7_counts_L7 q0 a f_X7_counts_K91 f (bI any2) (bI tk2) (nI (i + 1)) (hT q0 rl fl x B) = some (bI (cntF (valT s 0 t) any2 tk2 r), hT q0 rl fl x B) := fun any2 tk2 => ih (i + 1) (q + c.2.2.length) any2 tk2 f c5 (by omega) (by omega) (Or.inr ⟨by omega, by rw [Nat.add_sub_cancel]; exact c4⟩) (fun y hy => hok y (List.mem_cons_of_mem _ hy)) (by omega)
    have n11 := nx true true
    have n10 := nx true false
    rw [show bI true = 1 from rfl] at n11 n10
    rw [show bI false = 0 from rfl] at n10
    have hk2 : c.1 < 2 := k2.1
    rcases (show c.1 = 0 ∨ c.1 = 1 by omega) with e | e
    · have ew : nI (wdN c.1) = 116 := by rw [e]; rfl
      rw [if_pos ew, if_pos ew, n10, n11, bI_if, bI_if]
      unfold cntF
      rw [anyC_cons, anyC_cons, cntC_cons, e]
      cases hv : evC (valT s 0 t) c <;> cases tk <;> simp
    · have ew : ¬ nI (wdN c.1) = 116 := by rw [e]; decide
      rw [if_neg ew, if_neg ew, nx, bI_if]
      unfold cntF
      rw [anyC_cons, anyC_cons, cntC_cons, e]
      cases hv : evC (valT s 0 t) c <;> simp [bI]
theorem X7_counts (hs : sOk s) (ht : t < sN s 1) (h : (hT q0 rl fl x B).1 a = some (.inr (kcN (tKind s t), tyF p s t))) {l : List Cl} (hx : TxC false x l) {y : Nat} (hy : y < 5) : f_X7_counts (hT q0 rl fl x B) q0 a = some (bI (cntB s l y t), hT q0 rl fl x B) := by
  obtain ⟨x1, x2, x3, x4, x5⟩ := hx
  have := cts_loop (B := B) hs ht h x1 x2 l 0 0 false false FU x3 (by omega) (by omega) (Or.inl ⟨rfl, rfl⟩) x5 (by show l.length < 100000; omega)
  unfold f_X7_counts
  refine this.trans (congrArg some (Prod.ext (congrArg bI ?_) rfl))
  unfold cntF cntB
  rw [valT_lo s hy]
  by_cases h0 : cntC 0 l = 0
  · simp [h0]
  · have h1 : 0 < cntC 0 l := Nat.pos_of_ne_zero h0
    have h2 : (cntC 0 l == 0) = false := by simp [h0]
    rw [h2, decide_eq_true h1]
    simp
theorem law_succ (a0 a1 : Nat) (a2 a3 : Int32) (K : HSt → Option (Int32 × HSt)) (f : Nat) (i : Int32) (S : HSt) : f_X7_lawful_L3 a0 a1 a2 a3 K (f + 1) i S = f_X7_lawful_B3 a0 a1 a2 a3 K (f_X7_lawful_L3 a0 a1 a2 a3 K f) i S := rfl
theorem clamp_up {P z : Nat} (hP : 2 ≤ P) (hP2 : P ≤ 100) (hz : z < 1000) : (if 0 < (if nI z < nI P - 1 then nI z else nI P - 1) then (if nI z < nI P - 1 then nI z else nI P - 1) else 0) = nI (min z (P - 1)) := by
  have e1 : nI P - 1 = nI (P - 1) := pk_sub (b := 1) (by omega)
  rw [e1]
  have e2 : (if nI z < nI (P - 1) then nI z else nI (P - 1)) = nI (min z (P - 1)) := by
    by_cases h : z < P - 1
    · rw [if_pos (nI_lt h (by omega)), show min z (P - 1) = z by omega]
    · rw [if_neg (nI_nlt (by omega) (by omega)), show min z (P - 1) = P - 1 by omega]
  rw [e2]
  by_cases h : 0 < min z (P - 1)
  · rw [if_pos (show (0 : Int32) < nI (min z (P - 1)) from nI_lt (a := 0) h (by omega))]
  · rw [show min z (P - 1) = 0 by omega]
    rfl
theorem clamp_dn {P z y : Nat} (hP : 2 ≤ P) (hP2 : P ≤ 100) (hz : z < 1000) (hy : y < 1000) (h : z < y) : (if 0 < (if nI z - nI y < nI P - 1 then nI z - nI y else nI P - 1) then (if nI z - nI y < nI P - 1 then nI z - nI y else nI P - 1) else 0) = nI 0 := by
  have e1 : nI P - 1 = nI (P - 1) := pk_sub (b := 1) (by omega)
  have e0 := pk_sneg (show y < 2 ^ 30 by omega) h
  have e3 : (0 : Int32) < nI (P - 1) := nI_lt (a := 0) (by omega) (by omega)
  have e2 : nI z - nI y < nI (P - 1) := by
    rw [Int32.lt_iff_toInt_lt] at *
    omega
  rw [e1, if_pos e2, if_neg (fun q => by rw [Int32.lt_iff_toInt_lt] at *; omega)]
  rfl
theorem law_loop (hs : sOk s) (ht : t < sN s 1) (h : (hT q0 rl fl x B).1 a = some (.inr (kcN (tKind s t), tyF p s t))) {N : Nat} (hN : x.1 7 = nI N) (hN8 : N ≤ 8) : ∀ (r : List Cl) (i q : Nat) (f : Nat), ClR true x i q r → i + r.length = N → q + totT r ≤ 120 → ((i = 0 ∧ q = 0) ∨ (0 < i ∧ x.2.2.2.2 (i - 1) = nI q)) → (∀ c ∈ r, clOk c ∧ clL true c) → r.length < f → f_X7_lawful_L3 q0 a (nI (befN s t t)) (nI (sN s 0)) f_X7_lawful_K126 f (nI i) (hT q0 rl fl x B) = some ((match fsO (valT s 5 t) r with | none => -5 | some z => nI (placeN (sN s 0) (tPipe s t) z)), hT q0 rl fl x B) := by
  have hp := hs.2.1
  obtain ⟨-, -, -, -, -, -, g1, g2, g3, g4, g5, g6⟩ := hs.2.2.2.2.2.2 t ht
  intro r
  induction r with
  | nil =>
    intro i q f _ hi _ _ _ hf
    obtain ⟨f, rfl⟩ : ∃ g, f = g + 1 := ⟨f - 1, by omega⟩
    simp only [List.length_nil] at hi
    rw [law_succ]
    unfold f_X7_lawful_B3
    rw [TI_7, ob, hN, if_pos (nI_le (by omega) (by omega))]
    rfl
  | cons c r ih =>
    intro i q f hC hi hq hst hok hf
    obtain ⟨f, rfl⟩ : ∃ g, f = g + 1 := ⟨f - 1, by omega⟩
    simp only [List.length_cons] at hi hf
    simp only [totT] at hq
    obtain ⟨c1, c2, c3, c4, c5⟩ := hC
    obtain ⟨k1, k2⟩ := hok c List.mem_cons_self
    have hh := X7_holds (q0 := q0) (rl := rl) (fl := fl) (B := B) hs ht h true (bf := nI (befN s t t)) (fun _ => rfl) (show i < 8 by omega) hst c3 c4 (by omega) k1 k2
    rw [show (if true = true then 5 else 0) = 5 from rfl] at hh
    have nx := ih (i + 1) (q + c.2.2.length) f c5 (by omega) (by omega) (Or.inr ⟨by omega, by rw [Nat.add_sub_cancel]; exact c4⟩) (fun y hy => hok y (List.mem_cons_of_mem _ hy)) (by omega)
    have g5' := gIT_of h (j := 5) rfl
    have hn2 : c.2.1 < 100 := k1.2.1
    rw [law_succ]
    unfold f_X7_lawful_B3
    rw [TI_7, ob, hN, if_neg (nI_ge (by omega) (by omega)), TR_3, ob, TN_2, ob, if_neg (show ¬ (8 : Int32) ≤ nI i from nI_ge (b := 8) (by omega) (by omega)), TR_4, ob, TN_3, ob, if_neg (show ¬ (8 : Int32) ≤ nI i from nI_ge (b := 8) (by omega) (by omega)), hT_C, if_pos rfl, hh, bd2_some, bI_if, nI_1, nx, TR_4, ob, TA_3 q0 rl fl x B (k := i) rfl (by omega), c2, ob, TR_3, ob, TA_2 q0 rl fl x B (k := i) rfl (by omega), c1, ob, g5', ob, ob, TA_3 q0 rl fl x B (k := i) rfl (by omega), c2, ob]
    have J : ∀ y : Int32, f_X7_lawful_J81 q0 a (nI (sN s 0)) (nI i) y (hT q0 rl fl x B) = if nI (wdN c.1) = 111 then some (if 0 < (if nI (tPipe s t) - nI c.2.1 < nI (sN s 0) - 1 then nI (tPipe s t) - nI c.2.1 else nI (sN s 0) - 1) then (if nI (tPipe s t) - nI c.2.1 < nI (sN s 0) - 1 then nI (tPipe s t) - nI c.2.1 else nI (sN s 0) - 1) else 0, hT q0 rl fl x B) else some (if 0 < (if y < nI (sN s 0) - 1 then y else nI (sN s 0) - 1) then (if y < nI (sN s 0) - 1 then y else nI (sN s 0) - 1) else 0, hT q0 rl fl x B) := fun y => by
      unfold f_X7_lawful_J81
      rw [TR_3, ob, TA_2 q0 rl fl x B (k := i) rfl (by omega), c1, ob, g5', ob, TR_4, ob, TA_3 q0 rl fl x B (k := i) rfl (by omega), c2, ob]
      rfl
    rw [J, J]
    cases hv : evC (valT s 5 t) c
    · rw [if_neg (by decide)]
      simp [fsO, hv]
    · rw [if_pos rfl]
      have hkk : 2 ≤ c.1 := k2.1
      have hk5 : c.1 < 5 := k1.1
      simp only [fsO, hv, if_true]
      unfold placeN
      rcases (show c.1 = 2 ∨ c.1 = 3 ∨ c.1 = 4 by omega) with e | e | e
      · rw [if_neg (show ¬ nI (wdN c.1) = 98 by rw [e]; decide), if_neg (show ¬ nI (wdN c.1) = 111 by rw [e]; decide), clamp_up hp.1 hp.2 (by omega)]
        simp [e]
      · rw [if_pos (show nI (wdN c.1) = 98 by rw [e]; rfl), if_neg (show ¬ nI (wdN c.1) = 111 by rw [e]; decide), nI_add, clamp_up hp.1 hp.2 (by omega)]
        simp [e]
      · rw [if_neg (show ¬ nI (wdN c.1) = 98 by rw [e]; decide), if_pos (show nI (wdN c.1) = 111 by rw [e]; rfl)]
        by_cases hx : c.2.1 ≤ tPipe s t
        · rw [nI_subN hx, clamp_up hp.1 hp.2 (by omega)]
          simp [e]
        · rw [clamp_dn hp.1 hp.2 (by omega) (by omega) (by omega)]
          simp [e, show tPipe s t - c.2.1 = 0 by omega]
theorem X7_lawful (hs : sOk s) (ht : t < sN s 1) (h : (hT q0 rl fl x B).1 a = some (.inr (kcN (tKind s t), tyF p s t))) {cl : List Cl} (hx : TxC true x cl) (l : Nat) : f_X7_lawful (hT q0 rl fl x B) q0 a (nI (befN s t t)) (nI (sN s 0)) = some (sayI s cl l t, hT q0 rl fl x B) := by
  obtain ⟨x1, x2, x3, x4, x5⟩ := hx
  have := law_loop (B := B) hs ht h x1 x2 cl 0 0 FU x3 (by omega) (by omega) (Or.inl ⟨rfl, rfl⟩) x5 (by show cl.length < 100000; omega)
  unfold f_X7_lawful
  refine this.trans (congrArg some (Prod.ext ?_ rfl))
  unfold sayI sayO
  rw [valT_hi]
  cases fsO (valT s 5 t) cl <;> rfl
end TEXT2
