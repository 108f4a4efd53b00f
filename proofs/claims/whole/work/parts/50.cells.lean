/-! THE CLASS'S CELLS, laid over any heap -/
def hOv (q n : Nat) (e : Nat → Option HC) (B : HSt) : HSt := (fun a => if q ≤ a ∧ a < q + n then e a else B.1 a, B.2)
theorem hOv_at {q n : Nat} {e : Nat → Option HC} {B : HSt} {a : Nat} (h1 : q ≤ a) (h2 : a < q + n) : (hOv q n e B).1 a = e a := if_pos ⟨h1, h2⟩
theorem hOv_out {q n : Nat} {e : Nat → Option HC} {B : HSt} {a : Nat} (h : a < q ∨ q + n ≤ a) : (hOv q n e B).1 a = B.1 a := if_neg (by omega)
theorem hOv_put {q n : Nat} {e e' : Nat → Option HC} {B : HSt} {a : Nat} {x : HC} (ha : q ≤ a ∧ a < q + n) (he : e' a = some x) (ho : ∀ b, q ≤ b → b < q + n → b ≠ a → e' b = e b) : hUp (hOv q n e B) a x = hOv q n e' B := by
  refine Prod.ext (funext fun b => ?_) rfl
  show (if b = a then some x else if q ≤ b ∧ b < q + n then e b else B.1 b) = if q ≤ b ∧ b < q + n then e' b else B.1 b
  by_cases hb : b = a
  · subst hb
    rw [if_pos rfl, if_pos ha, he]
  · rw [if_neg hb]
    by_cases hr : q ≤ b ∧ b < q + n
    · rw [if_pos hr, if_pos hr, ho b hr.1 hr.2 hb]
    · rw [if_neg hr, if_neg hr]
theorem hOv_in {q n q' n' : Nat} {e e' e2 : Nat → Option HC} {B : HSt} (h1 : q' ≤ q) (h2 : q + n ≤ q' + n') (h3 : ∀ a, q ≤ a → a < q + n → e2 a = e a) (h4 : ∀ a, q' ≤ a → a < q' + n' → ¬ (q ≤ a ∧ a < q + n) → e2 a = e' a) : hOv q n e (hOv q' n' e' B) = hOv q' n' e2 B := by
  refine Prod.ext (funext fun b => ?_) rfl
  show (if q ≤ b ∧ b < q + n then e b else if q' ≤ b ∧ b < q' + n' then e' b else B.1 b) = if q' ≤ b ∧ b < q' + n' then e2 b else B.1 b
  by_cases hr : q ≤ b ∧ b < q + n
  · rw [if_pos hr, if_pos (by omega), h3 b hr.1 hr.2]
  · rw [if_neg hr]
    by_cases hs : q' ≤ b ∧ b < q' + n'
    · rw [if_pos hs, if_pos hs, h4 b hs.1 hs.2 hr]
    · rw [if_neg hs, if_neg hs]
theorem hOv_comm {q n q' n' : Nat} {e e' : Nat → Option HC} {B : HSt} (h : q + n ≤ q' ∨ q' + n' ≤ q) : hOv q n e (hOv q' n' e' B) = hOv q' n' e' (hOv q n e B) := by
  refine Prod.ext (funext fun b => ?_) rfl
  show (if q ≤ b ∧ b < q + n then e b else if q' ≤ b ∧ b < q' + n' then e' b else B.1 b) = if q' ≤ b ∧ b < q' + n' then e' b else if q ≤ b ∧ b < q + n then e b else B.1 b
  by_cases hr : q ≤ b ∧ b < q + n
  · rw [if_pos hr, if_neg (show ¬ (q' ≤ b ∧ b < q' + n') by omega), if_pos hr]
  · rw [if_neg hr, if_neg hr]
theorem hOv_up {q n : Nat} {e : Nat → Option HC} {B : HSt} {a : Nat} {x : HC} (h : a < q ∨ q + n ≤ a) : hUp (hOv q n e B) a x = hOv q n e (hUp B a x) := by
  refine Prod.ext (funext fun b => ?_) rfl
  show (if b = a then some x else if q ≤ b ∧ b < q + n then e b else B.1 b) = if q ≤ b ∧ b < q + n then e b else if b = a then some x else B.1 b
  by_cases hb : b = a
  · subst hb
    rw [if_pos rfl, if_neg (by omega), if_pos rfl]
  · rw [if_neg hb, if_neg hb]

/-- a text: ints by their fields, code, word, number, end -/
abbrev XT : Type := (Nat → Int32) × (Nat → Int32) × (Nat → Int32) × (Nat → Int32) × (Nat → Int32)
def TF (q : Nat) (rl : Nat) (fl : Int32) (x : XT) : List Value := [.int fl, .ref rl, .ref (q + 1), .ref (q + 2), .ref (q + 3), .ref (q + 4), .int (x.1 6), .int (x.1 7), .int (x.1 8), .int (x.1 9), .int (x.1 10)]
def TCell (q : Nat) (rl : Nat) (fl : Int32) (x : XT) (a : Nat) : Option HC := if a = q then some (.inr (7, TF q rl fl x)) else if a = q + 1 then some (.inl (0, 120, .inl (x.2.1))) else if a = q + 2 then some (.inl (0, 8, .inl (x.2.2.1))) else if a = q + 3 then some (.inl (0, 8, .inl (x.2.2.2.1))) else if a = q + 4 then some (.inl (0, 8, .inl (x.2.2.2.2))) else none
def hT (q : Nat) (rl : Nat) (fl : Int32) (x : XT) (B : HSt) : HSt := hOv q 5 (TCell q rl fl x) B
theorem hT_0 (q : Nat) (rl : Nat) (fl : Int32) (x : XT) (B : HSt) : (hT q rl fl x B).1 q = some (.inr (7, TF q rl fl x)) := by simp [hT, hOv, TCell]
theorem hT_1 (q : Nat) (rl : Nat) (fl : Int32) (x : XT) (B : HSt) : (hT q rl fl x B).1 (q + 1) = some (.inl (0, 120, .inl (x.2.1))) := by simp [hT, hOv, TCell]
theorem hT_2 (q : Nat) (rl : Nat) (fl : Int32) (x : XT) (B : HSt) : (hT q rl fl x B).1 (q + 2) = some (.inl (0, 8, .inl (x.2.2.1))) := by simp [hT, hOv, TCell]
theorem hT_3 (q : Nat) (rl : Nat) (fl : Int32) (x : XT) (B : HSt) : (hT q rl fl x B).1 (q + 3) = some (.inl (0, 8, .inl (x.2.2.2.1))) := by simp [hT, hOv, TCell]
theorem hT_4 (q : Nat) (rl : Nat) (fl : Int32) (x : XT) (B : HSt) : (hT q rl fl x B).1 (q + 4) = some (.inl (0, 8, .inl (x.2.2.2.2))) := by simp [hT, hOv, TCell]
theorem hT_C (q : Nat) (rl : Nat) (fl : Int32) (x : XT) (B : HSt) : gC (hT q rl fl x B) q = some 7 := by simp [gC, hT_0]
theorem hT_out (q : Nat) (rl : Nat) (fl : Int32) (x : XT) (B : HSt) {a : Nat} (h : a < q ∨ q + 5 ≤ a) : (hT q rl fl x B).1 a = B.1 a := hOv_out h
theorem TI_0 (q : Nat) (rl : Nat) (fl : Int32) (x : XT) (B : HSt) : gI (hT q rl fl x B) q 7 0 = some fl := by simp [gI, hT_0, TF]
theorem TR_1 (q : Nat) (rl : Nat) (fl : Int32) (x : XT) (B : HSt) : gR (hT q rl fl x B) q 7 1 = some rl := by simp [gR, hT_0, TF]
theorem TR_2 (q : Nat) (rl : Nat) (fl : Int32) (x : XT) (B : HSt) : gR (hT q rl fl x B) q 7 2 = some (q + 1) := by simp [gR, hT_0, TF]
theorem TR_3 (q : Nat) (rl : Nat) (fl : Int32) (x : XT) (B : HSt) : gR (hT q rl fl x B) q 7 3 = some (q + 2) := by simp [gR, hT_0, TF]
theorem TR_4 (q : Nat) (rl : Nat) (fl : Int32) (x : XT) (B : HSt) : gR (hT q rl fl x B) q 7 4 = some (q + 3) := by simp [gR, hT_0, TF]
theorem TR_5 (q : Nat) (rl : Nat) (fl : Int32) (x : XT) (B : HSt) : gR (hT q rl fl x B) q 7 5 = some (q + 4) := by simp [gR, hT_0, TF]
theorem TI_6 (q : Nat) (rl : Nat) (fl : Int32) (x : XT) (B : HSt) : gI (hT q rl fl x B) q 7 6 = some (x.1 6) := by simp [gI, hT_0, TF]
theorem TP_6 (q : Nat) (rl : Nat) (fl : Int32) (x : XT) (B : HSt) (v : Int32) : pV (hT q rl fl x B) q 7 6 (.int v) = some (hT q rl fl ((upd x.1 6 v, x.2)) B) := by
  simp only [pV, hT_0, true_and]
  rw [if_pos (by simp [TF])]
  refine congrArg some (hOv_put ⟨Nat.le_refl _, by omega⟩ ?_ ?_)
  · simp [TCell, TF, upd]
  · intro b h1 h2 h3
    simp [TCell, h3]
theorem TI_7 (q : Nat) (rl : Nat) (fl : Int32) (x : XT) (B : HSt) : gI (hT q rl fl x B) q 7 7 = some (x.1 7) := by simp [gI, hT_0, TF]
theorem TP_7 (q : Nat) (rl : Nat) (fl : Int32) (x : XT) (B : HSt) (v : Int32) : pV (hT q rl fl x B) q 7 7 (.int v) = some (hT q rl fl ((upd x.1 7 v, x.2)) B) := by
  simp only [pV, hT_0, true_and]
  rw [if_pos (by simp [TF])]
  refine congrArg some (hOv_put ⟨Nat.le_refl _, by omega⟩ ?_ ?_)
  · simp [TCell, TF, upd]
  · intro b h1 h2 h3
    simp [TCell, h3]
theorem TI_8 (q : Nat) (rl : Nat) (fl : Int32) (x : XT) (B : HSt) : gI (hT q rl fl x B) q 7 8 = some (x.1 8) := by simp [gI, hT_0, TF]
theorem TP_8 (q : Nat) (rl : Nat) (fl : Int32) (x : XT) (B : HSt) (v : Int32) : pV (hT q rl fl x B) q 7 8 (.int v) = some (hT q rl fl ((upd x.1 8 v, x.2)) B) := by
  simp only [pV, hT_0, true_and]
  rw [if_pos (by simp [TF])]
  refine congrArg some (hOv_put ⟨Nat.le_refl _, by omega⟩ ?_ ?_)
  · simp [TCell, TF, upd]
  · intro b h1 h2 h3
    simp [TCell, h3]
theorem TI_9 (q : Nat) (rl : Nat) (fl : Int32) (x : XT) (B : HSt) : gI (hT q rl fl x B) q 7 9 = some (x.1 9) := by simp [gI, hT_0, TF]
theorem TP_9 (q : Nat) (rl : Nat) (fl : Int32) (x : XT) (B : HSt) (v : Int32) : pV (hT q rl fl x B) q 7 9 (.int v) = some (hT q rl fl ((upd x.1 9 v, x.2)) B) := by
  simp only [pV, hT_0, true_and]
  rw [if_pos (by simp [TF])]
  refine congrArg some (hOv_put ⟨Nat.le_refl _, by omega⟩ ?_ ?_)
  · simp [TCell, TF, upd]
  · intro b h1 h2 h3
    simp [TCell, h3]
theorem TI_10 (q : Nat) (rl : Nat) (fl : Int32) (x : XT) (B : HSt) : gI (hT q rl fl x B) q 7 10 = some (x.1 10) := by simp [gI, hT_0, TF]
theorem TP_10 (q : Nat) (rl : Nat) (fl : Int32) (x : XT) (B : HSt) (v : Int32) : pV (hT q rl fl x B) q 7 10 (.int v) = some (hT q rl fl ((upd x.1 10 v, x.2)) B) := by
  simp only [pV, hT_0, true_and]
  rw [if_pos (by simp [TF])]
  refine congrArg some (hOv_put ⟨Nat.le_refl _, by omega⟩ ?_ ?_)
  · simp [TCell, TF, upd]
  · intro b h1 h2 h3
    simp [TCell, h3]
theorem TN_1 (q : Nat) (rl : Nat) (fl : Int32) (x : XT) (B : HSt) : aN (hT q rl fl x B) (q + 1) = some 120 := by simp only [aN, hT_1]; rfl
theorem TA_1 (q : Nat) (rl : Nat) (fl : Int32) (x : XT) (B : HSt) {i : Int32} {k : Nat} (hi : i = nI k) (hk : k < 120) : aI (hT q rl fl x B) (q + 1) 0 i = some ((x.2.1) k) := by
  subst hi
  simp only [aI, hT_1, true_and]
  rw [if_pos (nI_in hk (by omega)), nI_clamp (by omega)]
theorem TS_1 (q : Nat) (rl : Nat) (fl : Int32) (x : XT) (B : HSt) {i : Int32} {k : Nat} (hi : i = nI k) (hk : k < 120) (v : Int32) : sI (hT q rl fl x B) (q + 1) 0 i v = some (hT q rl fl ((x.1, (upd (x.2.1) k v), x.2.2)) B) := by
  subst hi
  simp only [sI, hT_1, true_and]
  rw [if_pos (nI_in hk (by omega)), nI_clamp (by omega)]
  refine congrArg some (hOv_put ⟨by omega, by omega⟩ ?_ ?_)
  · simp [TCell]
  · intro b h1 h2 h3
    have h3 : ¬ b = q + 1 := h3
    simp only [TCell]
    by_cases h4 : b = q
    · simp [h4, TF]
    · simp [h4, h3]
theorem TN_2 (q : Nat) (rl : Nat) (fl : Int32) (x : XT) (B : HSt) : aN (hT q rl fl x B) (q + 2) = some 8 := by simp only [aN, hT_2]; rfl
theorem TA_2 (q : Nat) (rl : Nat) (fl : Int32) (x : XT) (B : HSt) {i : Int32} {k : Nat} (hi : i = nI k) (hk : k < 8) : aI (hT q rl fl x B) (q + 2) 0 i = some ((x.2.2.1) k) := by
  subst hi
  simp only [aI, hT_2, true_and]
  rw [if_pos (nI_in hk (by omega)), nI_clamp (by omega)]
theorem TS_2 (q : Nat) (rl : Nat) (fl : Int32) (x : XT) (B : HSt) {i : Int32} {k : Nat} (hi : i = nI k) (hk : k < 8) (v : Int32) : sI (hT q rl fl x B) (q + 2) 0 i v = some (hT q rl fl ((x.1, x.2.1, (upd (x.2.2.1) k v), x.2.2.2)) B) := by
  subst hi
  simp only [sI, hT_2, true_and]
  rw [if_pos (nI_in hk (by omega)), nI_clamp (by omega)]
  refine congrArg some (hOv_put ⟨by omega, by omega⟩ ?_ ?_)
  · simp [TCell]
  · intro b h1 h2 h3
    have h3 : ¬ b = q + 2 := h3
    simp only [TCell]
    by_cases h4 : b = q
    · simp [h4, TF]
    · simp [h4, h3]
theorem TN_3 (q : Nat) (rl : Nat) (fl : Int32) (x : XT) (B : HSt) : aN (hT q rl fl x B) (q + 3) = some 8 := by simp only [aN, hT_3]; rfl
theorem TA_3 (q : Nat) (rl : Nat) (fl : Int32) (x : XT) (B : HSt) {i : Int32} {k : Nat} (hi : i = nI k) (hk : k < 8) : aI (hT q rl fl x B) (q + 3) 0 i = some ((x.2.2.2.1) k) := by
  subst hi
  simp only [aI, hT_3, true_and]
  rw [if_pos (nI_in hk (by omega)), nI_clamp (by omega)]
theorem TS_3 (q : Nat) (rl : Nat) (fl : Int32) (x : XT) (B : HSt) {i : Int32} {k : Nat} (hi : i = nI k) (hk : k < 8) (v : Int32) : sI (hT q rl fl x B) (q + 3) 0 i v = some (hT q rl fl ((x.1, x.2.1, x.2.2.1, (upd (x.2.2.2.1) k v), x.2.2.2.2)) B) := by
  subst hi
  simp only [sI, hT_3, true_and]
  rw [if_pos (nI_in hk (by omega)), nI_clamp (by omega)]
  refine congrArg some (hOv_put ⟨by omega, by omega⟩ ?_ ?_)
  · simp [TCell]
  · intro b h1 h2 h3
    have h3 : ¬ b = q + 3 := h3
    simp only [TCell]
    by_cases h4 : b = q
    · simp [h4, TF]
    · simp [h4, h3]
theorem TN_4 (q : Nat) (rl : Nat) (fl : Int32) (x : XT) (B : HSt) : aN (hT q rl fl x B) (q + 4) = some 8 := by simp only [aN, hT_4]; rfl
theorem TA_4 (q : Nat) (rl : Nat) (fl : Int32) (x : XT) (B : HSt) {i : Int32} {k : Nat} (hi : i = nI k) (hk : k < 8) : aI (hT q rl fl x B) (q + 4) 0 i = some ((x.2.2.2.2) k) := by
  subst hi
  simp only [aI, hT_4, true_and]
  rw [if_pos (nI_in hk (by omega)), nI_clamp (by omega)]
theorem TS_4 (q : Nat) (rl : Nat) (fl : Int32) (x : XT) (B : HSt) {i : Int32} {k : Nat} (hi : i = nI k) (hk : k < 8) (v : Int32) : sI (hT q rl fl x B) (q + 4) 0 i v = some (hT q rl fl ((x.1, x.2.1, x.2.2.1, x.2.2.2.1, (upd (x.2.2.2.2) k v))) B) := by
  subst hi
  simp only [sI, hT_4, true_and]
  rw [if_pos (nI_in hk (by omega)), nI_clamp (by omega)]
  refine congrArg some (hOv_put ⟨by omega, by omega⟩ ?_ ?_)
  · simp [TCell]
  · intro b h1 h2 h3
    have h3 : ¬ b = q + 4 := h3
    simp only [TCell]
    by_cases h4 : b = q
    · simp [h4, TF]
    · simp [h4, h3]
/-- a tape: bytes, size, at -/
abbrev XP : Type := (Nat → Int32) × Int32 × Int32
def PF (q : Nat) (x : XP) : List Value := [.ref (q + 1), .int (x.2.1), .int (x.2.2)]
def PCell (q : Nat) (x : XP) (a : Nat) : Option HC := if a = q then some (.inr (6, PF q x)) else if a = q + 1 then some (.inl (1, 120, .inl (x.1))) else none
def hP (q : Nat) (x : XP) (B : HSt) : HSt := hOv q 2 (PCell q x) B
theorem hP_0 (q : Nat) (x : XP) (B : HSt) : (hP q x B).1 q = some (.inr (6, PF q x)) := by simp [hP, hOv, PCell]
theorem hP_1 (q : Nat) (x : XP) (B : HSt) : (hP q x B).1 (q + 1) = some (.inl (1, 120, .inl (x.1))) := by simp [hP, hOv, PCell]
theorem hP_C (q : Nat) (x : XP) (B : HSt) : gC (hP q x B) q = some 6 := by simp [gC, hP_0]
theorem hP_out (q : Nat) (x : XP) (B : HSt) {a : Nat} (h : a < q ∨ q + 2 ≤ a) : (hP q x B).1 a = B.1 a := hOv_out h
theorem PR_0 (q : Nat) (x : XP) (B : HSt) : gR (hP q x B) q 6 0 = some (q + 1) := by simp [gR, hP_0, PF]
theorem PI_1 (q : Nat) (x : XP) (B : HSt) : gI (hP q x B) q 6 1 = some (x.2.1) := by simp [gI, hP_0, PF]
theorem PP_1 (q : Nat) (x : XP) (B : HSt) (v : Int32) : pV (hP q x B) q 6 1 (.int v) = some (hP q ((x.1, v, x.2.2)) B) := by
  simp only [pV, hP_0, true_and]
  rw [if_pos (by simp [PF])]
  refine congrArg some (hOv_put ⟨Nat.le_refl _, by omega⟩ ?_ ?_)
  · simp [PCell, PF]
  · intro b h1 h2 h3
    simp [PCell, h3]
theorem PI_2 (q : Nat) (x : XP) (B : HSt) : gI (hP q x B) q 6 2 = some (x.2.2) := by simp [gI, hP_0, PF]
theorem PP_2 (q : Nat) (x : XP) (B : HSt) (v : Int32) : pV (hP q x B) q 6 2 (.int v) = some (hP q ((x.1, x.2.1, v)) B) := by
  simp only [pV, hP_0, true_and]
  rw [if_pos (by simp [PF])]
  refine congrArg some (hOv_put ⟨Nat.le_refl _, by omega⟩ ?_ ?_)
  · simp [PCell, PF]
  · intro b h1 h2 h3
    simp [PCell, h3]
theorem PN_1 (q : Nat) (x : XP) (B : HSt) : aN (hP q x B) (q + 1) = some 120 := by simp only [aN, hP_1]; rfl
theorem PA_1 (q : Nat) (x : XP) (B : HSt) {i : Int32} {k : Nat} (hi : i = nI k) (hk : k < 120) : aI (hP q x B) (q + 1) 1 i = some ((x.1) k) := by
  subst hi
  simp only [aI, hP_1, true_and]
  rw [if_pos (nI_in hk (by omega)), nI_clamp (by omega)]
theorem PS_1 (q : Nat) (x : XP) (B : HSt) {i : Int32} {k : Nat} (hi : i = nI k) (hk : k < 120) (v : Int32) : sI (hP q x B) (q + 1) 1 i v = some (hP q (((upd (x.1) k v), x.2)) B) := by
  subst hi
  simp only [sI, hP_1, true_and]
  rw [if_pos (nI_in hk (by omega)), nI_clamp (by omega)]
  refine congrArg some (hOv_put ⟨by omega, by omega⟩ ?_ ?_)
  · simp [PCell]
  · intro b h1 h2 h3
    have h3 : ¬ b = q + 1 := h3
    simp only [PCell]
    by_cases h4 : b = q
    · simp [h4, PF]
    · simp [h4, h3]
/-- odds: ways, size, all -/
abbrev XO : Type := (Nat → Int64) × Int32 × Int64
def OF (q : Nat) (x : XO) : List Value := [.ref (q + 1), .int (x.2.1), .long (x.2.2)]
def OCell (q : Nat) (x : XO) (a : Nat) : Option HC := if a = q then some (.inr (4, OF q x)) else if a = q + 1 then some (.inl (3, 10, .inr (.inl (x.1)))) else none
def hO (q : Nat) (x : XO) (B : HSt) : HSt := hOv q 2 (OCell q x) B
theorem hO_0 (q : Nat) (x : XO) (B : HSt) : (hO q x B).1 q = some (.inr (4, OF q x)) := by simp [hO, hOv, OCell]
theorem hO_1 (q : Nat) (x : XO) (B : HSt) : (hO q x B).1 (q + 1) = some (.inl (3, 10, .inr (.inl (x.1)))) := by simp [hO, hOv, OCell]
theorem hO_C (q : Nat) (x : XO) (B : HSt) : gC (hO q x B) q = some 4 := by simp [gC, hO_0]
theorem hO_out (q : Nat) (x : XO) (B : HSt) {a : Nat} (h : a < q ∨ q + 2 ≤ a) : (hO q x B).1 a = B.1 a := hOv_out h
theorem OR_0 (q : Nat) (x : XO) (B : HSt) : gR (hO q x B) q 4 0 = some (q + 1) := by simp [gR, hO_0, OF]
theorem OI_1 (q : Nat) (x : XO) (B : HSt) : gI (hO q x B) q 4 1 = some (x.2.1) := by simp [gI, hO_0, OF]
theorem OP_1 (q : Nat) (x : XO) (B : HSt) (v : Int32) : pV (hO q x B) q 4 1 (.int v) = some (hO q ((x.1, v, x.2.2)) B) := by
  simp only [pV, hO_0, true_and]
  rw [if_pos (by simp [OF])]
  refine congrArg some (hOv_put ⟨Nat.le_refl _, by omega⟩ ?_ ?_)
  · simp [OCell, OF]
  · intro b h1 h2 h3
    simp [OCell, h3]
theorem OL_2 (q : Nat) (x : XO) (B : HSt) : gL (hO q x B) q 4 2 = some (x.2.2) := by simp [gL, hO_0, OF]
theorem OP_2 (q : Nat) (x : XO) (B : HSt) (v : Int64) : pV (hO q x B) q 4 2 (.long v) = some (hO q ((x.1, x.2.1, v)) B) := by
  simp only [pV, hO_0, true_and]
  rw [if_pos (by simp [OF])]
  refine congrArg some (hOv_put ⟨Nat.le_refl _, by omega⟩ ?_ ?_)
  · simp [OCell, OF]
  · intro b h1 h2 h3
    simp [OCell, h3]
theorem ON_1 (q : Nat) (x : XO) (B : HSt) : aN (hO q x B) (q + 1) = some 10 := by simp only [aN, hO_1]; rfl
theorem OA_1 (q : Nat) (x : XO) (B : HSt) {i : Int32} {k : Nat} (hi : i = nI k) (hk : k < 10) : aL (hO q x B) (q + 1) i = some ((x.1) k) := by
  subst hi
  simp only [aL, hO_1, true_and]
  rw [if_pos (nI_in hk (by omega)), nI_clamp (by omega)]
theorem OS_1 (q : Nat) (x : XO) (B : HSt) {i : Int32} {k : Nat} (hi : i = nI k) (hk : k < 10) (v : Int64) : sL (hO q x B) (q + 1) i v = some (hO q (((vp_updL (x.1) k v), x.2)) B) := by
  subst hi
  simp only [sL, hO_1, true_and]
  rw [if_pos (nI_in hk (by omega)), nI_clamp (by omega)]
  refine congrArg some (hOv_put ⟨by omega, by omega⟩ ?_ ?_)
  · simp [OCell]
  · intro b h1 h2 h3
    have h3 : ¬ b = q + 1 := h3
    simp only [OCell]
    by_cases h4 : b = q
    · simp [h4, OF]
    · simp [h4, h3]
/-- a trace: kept, ran -/
abbrev XR : Type := (Nat → Int32) × Int32
def RF (q : Nat) (x : XR) : List Value := [.ref (q + 1), .int (x.2)]
def RCell (q : Nat) (x : XR) (a : Nat) : Option HC := if a = q then some (.inr (8, RF q x)) else if a = q + 1 then some (.inl (0, 20, .inl (x.1))) else none
def hR (q : Nat) (x : XR) (B : HSt) : HSt := hOv q 2 (RCell q x) B
theorem hR_0 (q : Nat) (x : XR) (B : HSt) : (hR q x B).1 q = some (.inr (8, RF q x)) := by simp [hR, hOv, RCell]
theorem hR_1 (q : Nat) (x : XR) (B : HSt) : (hR q x B).1 (q + 1) = some (.inl (0, 20, .inl (x.1))) := by simp [hR, hOv, RCell]
theorem hR_C (q : Nat) (x : XR) (B : HSt) : gC (hR q x B) q = some 8 := by simp [gC, hR_0]
theorem hR_out (q : Nat) (x : XR) (B : HSt) {a : Nat} (h : a < q ∨ q + 2 ≤ a) : (hR q x B).1 a = B.1 a := hOv_out h
theorem RR_0 (q : Nat) (x : XR) (B : HSt) : gR (hR q x B) q 8 0 = some (q + 1) := by simp [gR, hR_0, RF]
theorem RI_1 (q : Nat) (x : XR) (B : HSt) : gI (hR q x B) q 8 1 = some (x.2) := by simp [gI, hR_0, RF]
theorem RP_1 (q : Nat) (x : XR) (B : HSt) (v : Int32) : pV (hR q x B) q 8 1 (.int v) = some (hR q ((x.1, v)) B) := by
  simp only [pV, hR_0, true_and]
  rw [if_pos (by simp [RF])]
  refine congrArg some (hOv_put ⟨Nat.le_refl _, by omega⟩ ?_ ?_)
  · simp [RCell, RF]
  · intro b h1 h2 h3
    simp [RCell, h3]
theorem RN_1 (q : Nat) (x : XR) (B : HSt) : aN (hR q x B) (q + 1) = some 20 := by simp only [aN, hR_1]; rfl
theorem RA_1 (q : Nat) (x : XR) (B : HSt) {i : Int32} {k : Nat} (hi : i = nI k) (hk : k < 20) : aI (hR q x B) (q + 1) 0 i = some ((x.1) k) := by
  subst hi
  simp only [aI, hR_1, true_and]
  rw [if_pos (nI_in hk (by omega)), nI_clamp (by omega)]
theorem RS_1 (q : Nat) (x : XR) (B : HSt) {i : Int32} {k : Nat} (hi : i = nI k) (hk : k < 20) (v : Int32) : sI (hR q x B) (q + 1) 0 i v = some (hR q (((upd (x.1) k v), x.2)) B) := by
  subst hi
  simp only [sI, hR_1, true_and]
  rw [if_pos (nI_in hk (by omega)), nI_clamp (by omega)]
  refine congrArg some (hOv_put ⟨by omega, by omega⟩ ?_ ?_)
  · simp [RCell]
  · intro b h1 h2 h3
    have h3 : ¬ b = q + 1 := h3
    simp only [RCell]
    by_cases h4 : b = q
    · simp [h4, RF]
    · simp [h4, h3]
