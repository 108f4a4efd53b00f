/-! THE CLASS'S OBJECT n with its rows n .. n + 64: (ints by fields, tries, tape, odds, feeling, trace, image's excused, image's tape, texts: 2 p a plan, 2 l + 1 a law) -/
abbrev KK : Type := (Nat → Int32) × (Nat → Option Nat) × XP × XO × XO × XR × (Nat → Int32) × XP × (Nat → XT)
abbrev kTr (k : KK) : Nat → Option Nat := k.2.1
abbrev kTp (k : KK) : XP := k.2.2.1
abbrev kOd (k : KK) : XO := k.2.2.2.1
abbrev kFe (k : KK) : XO := k.2.2.2.2.1
abbrev kTc (k : KK) : XR := k.2.2.2.2.2.1
abbrev kIe (k : KK) : Nat → Int32 := k.2.2.2.2.2.2.1
abbrev kIt (k : KK) : XP := k.2.2.2.2.2.2.2.1
abbrev kTx (k : KK) : Nat → XT := k.2.2.2.2.2.2.2.2
abbrev kuI (k : KK) (j : Nat) (v : Int32) : KK := (upd k.1 j v, k.2)
abbrev kuTr (k : KK) (f : Nat → Option Nat) : KK := (k.1, f, k.2.2)
abbrev kuTp (k : KK) (x : XP) : KK := (k.1, k.2.1, x, k.2.2.2)
abbrev kuOd (k : KK) (x : XO) : KK := (k.1, k.2.1, k.2.2.1, x, k.2.2.2.2)
abbrev kuFe (k : KK) (x : XO) : KK := (k.1, k.2.1, k.2.2.1, k.2.2.2.1, x, k.2.2.2.2.2)
abbrev kuTc (k : KK) (x : XR) : KK := (k.1, k.2.1, k.2.2.1, k.2.2.2.1, k.2.2.2.2.1, x, k.2.2.2.2.2.2)
abbrev kuIe (k : KK) (f : Nat → Int32) : KK := (k.1, k.2.1, k.2.2.1, k.2.2.2.1, k.2.2.2.2.1, k.2.2.2.2.2.1, f, k.2.2.2.2.2.2.2)
abbrev kuIt (k : KK) (x : XP) : KK := (k.1, k.2.1, k.2.2.1, k.2.2.2.1, k.2.2.2.2.1, k.2.2.2.2.2.1, k.2.2.2.2.2.2.1, x, k.2.2.2.2.2.2.2.2)
abbrev kuTx (k : KK) (j : Nat) (x : XT) : KK := (k.1, k.2.1, k.2.2.1, k.2.2.2.1, k.2.2.2.2.1, k.2.2.2.2.2.1, k.2.2.2.2.2.2.1, k.2.2.2.2.2.2.2.1, fun i => if i = j then x else k.2.2.2.2.2.2.2.2 i)
def tLet (ρ : Nat → Nat) (j : Nat) : Nat := if j % 2 = 0 then ρ 1 else ρ 0
def tFl (j : Nat) : Int32 := if j % 2 = 0 then 0 else 1
/-- where the texts lie -/
def txA (n j : Nat) : Nat := n + 15 + 5 * j
def KF (n : Nat) (k : KK) : List Value := [.int (k.1 0), .ref (n + 1), .int (k.1 2), .ref (n + 2), .ref (n + 4), .int (k.1 5), .ref (n + 5), .int (k.1 7), .ref (n + 6), .ref (n + 8), .ref (n + 10), .int (k.1 11), .int (k.1 12), .int (k.1 13), .int (k.1 14), .int (k.1 15), .ref (n + 12), .ref (n + 13)]
def KCell (n : Nat) (ρ : Nat → Nat) (k : KK) (a : Nat) : Option HC :=
  if a < n + 2 then (if a = n then some (.inr (11, KF n k)) else some (.inl (4, 30, .inr (.inr (.inr (.inr (kTr k)))))))
  else if a < n + 4 then PCell (n + 2) (kTp k) a
  else if a < n + 6 then (if a = n + 4 then some (.inl (5, 5, .inr (.inr (.inr (.inr (fun p => if p < 5 then some (txA n (2 * p)) else none)))))) else some (.inl (5, 5, .inr (.inr (.inr (.inr (fun p => if p < 5 then some (txA n (2 * p + 1)) else none)))))))
  else if a < n + 8 then OCell (n + 6) (kOd k) a
  else if a < n + 10 then OCell (n + 8) (kFe k) a
  else if a < n + 12 then RCell (n + 10) (kTc k) a
  else if a < n + 13 then some (.inl (0, 30, .inl (kIe k)))
  else if a < n + 15 then PCell (n + 13) (kIt k) a
  else TCell (txA n ((a - (n + 15)) / 5)) (tLet ρ ((a - (n + 15)) / 5)) (tFl ((a - (n + 15)) / 5)) (kTx k ((a - (n + 15)) / 5)) a
def hK (n : Nat) (ρ : Nat → Nat) (k : KK) (B : HSt) : HSt := hOv n 65 (KCell n ρ k) B
section KCELLS
variable (n : Nat) (ρ : Nat → Nat) (k : KK) (B : HSt)
theorem hK_0 : (hK n ρ k B).1 n = some (.inr (11, KF n k)) := by simp [hK, hOv, KCell]
theorem hK_1 : (hK n ρ k B).1 (n + 1) = some (.inl (4, 30, .inr (.inr (.inr (.inr (kTr k)))))) := by simp [hK, hOv, KCell]
theorem hK_4 : (hK n ρ k B).1 (n + 4) = some (.inl (5, 5, .inr (.inr (.inr (.inr (fun p => if p < 5 then some (txA n (2 * p)) else none)))))) := by simp [hK, hOv, KCell]
theorem hK_5 : (hK n ρ k B).1 (n + 5) = some (.inl (5, 5, .inr (.inr (.inr (.inr (fun p => if p < 5 then some (txA n (2 * p + 1)) else none)))))) := by simp [hK, hOv, KCell]
theorem hK_12 : (hK n ρ k B).1 (n + 12) = some (.inl (0, 30, .inl (kIe k))) := by simp [hK, hOv, KCell]
theorem hK_C : gC (hK n ρ k B) n = some 11 := by simp [gC, hK_0]
theorem hK_out {a : Nat} (h : a < n ∨ n + 65 ≤ a) : (hK n ρ k B).1 a = B.1 a := hOv_out h
theorem KI_0 : gI (hK n ρ k B) n 11 0 = some (k.1 0) := by simp [gI, hK_0, KF]
theorem KR_1 : gR (hK n ρ k B) n 11 1 = some (n + 1) := by simp [gR, hK_0, KF]
theorem KI_2 : gI (hK n ρ k B) n 11 2 = some (k.1 2) := by simp [gI, hK_0, KF]
theorem KR_3 : gR (hK n ρ k B) n 11 3 = some (n + 2) := by simp [gR, hK_0, KF]
theorem KR_4 : gR (hK n ρ k B) n 11 4 = some (n + 4) := by simp [gR, hK_0, KF]
theorem KI_5 : gI (hK n ρ k B) n 11 5 = some (k.1 5) := by simp [gI, hK_0, KF]
theorem KR_6 : gR (hK n ρ k B) n 11 6 = some (n + 5) := by simp [gR, hK_0, KF]
theorem KI_7 : gI (hK n ρ k B) n 11 7 = some (k.1 7) := by simp [gI, hK_0, KF]
theorem KR_8 : gR (hK n ρ k B) n 11 8 = some (n + 6) := by simp [gR, hK_0, KF]
theorem KR_9 : gR (hK n ρ k B) n 11 9 = some (n + 8) := by simp [gR, hK_0, KF]
theorem KR_10 : gR (hK n ρ k B) n 11 10 = some (n + 10) := by simp [gR, hK_0, KF]
theorem KI_11 : gI (hK n ρ k B) n 11 11 = some (k.1 11) := by simp [gI, hK_0, KF]
theorem KI_12 : gI (hK n ρ k B) n 11 12 = some (k.1 12) := by simp [gI, hK_0, KF]
theorem KI_13 : gI (hK n ρ k B) n 11 13 = some (k.1 13) := by simp [gI, hK_0, KF]
theorem KI_14 : gI (hK n ρ k B) n 11 14 = some (k.1 14) := by simp [gI, hK_0, KF]
theorem KI_15 : gI (hK n ρ k B) n 11 15 = some (k.1 15) := by simp [gI, hK_0, KF]
theorem KR_16 : gR (hK n ρ k B) n 11 16 = some (n + 12) := by simp [gR, hK_0, KF]
theorem KR_17 : gR (hK n ρ k B) n 11 17 = some (n + 13) := by simp [gR, hK_0, KF]
theorem KP_0 (v : Int32) : pV (hK n ρ k B) n 11 0 (.int v) = some (hK n ρ (kuI k 0 v) B) := by
  simp only [pV, hK_0, true_and]
  rw [if_pos (by simp [KF])]
  refine congrArg some (hOv_put ⟨Nat.le_refl _, by omega⟩ ?_ ?_)
  · simp [KCell, KF, upd]
  · intro b h1 h2 h3
    simp [KCell, h3]
theorem KP_2 (v : Int32) : pV (hK n ρ k B) n 11 2 (.int v) = some (hK n ρ (kuI k 2 v) B) := by
  simp only [pV, hK_0, true_and]
  rw [if_pos (by simp [KF])]
  refine congrArg some (hOv_put ⟨Nat.le_refl _, by omega⟩ ?_ ?_)
  · simp [KCell, KF, upd]
  · intro b h1 h2 h3
    simp [KCell, h3]
theorem KP_5 (v : Int32) : pV (hK n ρ k B) n 11 5 (.int v) = some (hK n ρ (kuI k 5 v) B) := by
  simp only [pV, hK_0, true_and]
  rw [if_pos (by simp [KF])]
  refine congrArg some (hOv_put ⟨Nat.le_refl _, by omega⟩ ?_ ?_)
  · simp [KCell, KF, upd]
  · intro b h1 h2 h3
    simp [KCell, h3]
theorem KP_7 (v : Int32) : pV (hK n ρ k B) n 11 7 (.int v) = some (hK n ρ (kuI k 7 v) B) := by
  simp only [pV, hK_0, true_and]
  rw [if_pos (by simp [KF])]
  refine congrArg some (hOv_put ⟨Nat.le_refl _, by omega⟩ ?_ ?_)
  · simp [KCell, KF, upd]
  · intro b h1 h2 h3
    simp [KCell, h3]
theorem KP_11 (v : Int32) : pV (hK n ρ k B) n 11 11 (.int v) = some (hK n ρ (kuI k 11 v) B) := by
  simp only [pV, hK_0, true_and]
  rw [if_pos (by simp [KF])]
  refine congrArg some (hOv_put ⟨Nat.le_refl _, by omega⟩ ?_ ?_)
  · simp [KCell, KF, upd]
  · intro b h1 h2 h3
    simp [KCell, h3]
theorem KP_12 (v : Int32) : pV (hK n ρ k B) n 11 12 (.int v) = some (hK n ρ (kuI k 12 v) B) := by
  simp only [pV, hK_0, true_and]
  rw [if_pos (by simp [KF])]
  refine congrArg some (hOv_put ⟨Nat.le_refl _, by omega⟩ ?_ ?_)
  · simp [KCell, KF, upd]
  · intro b h1 h2 h3
    simp [KCell, h3]
theorem KP_13 (v : Int32) : pV (hK n ρ k B) n 11 13 (.int v) = some (hK n ρ (kuI k 13 v) B) := by
  simp only [pV, hK_0, true_and]
  rw [if_pos (by simp [KF])]
  refine congrArg some (hOv_put ⟨Nat.le_refl _, by omega⟩ ?_ ?_)
  · simp [KCell, KF, upd]
  · intro b h1 h2 h3
    simp [KCell, h3]
theorem KP_14 (v : Int32) : pV (hK n ρ k B) n 11 14 (.int v) = some (hK n ρ (kuI k 14 v) B) := by
  simp only [pV, hK_0, true_and]
  rw [if_pos (by simp [KF])]
  refine congrArg some (hOv_put ⟨Nat.le_refl _, by omega⟩ ?_ ?_)
  · simp [KCell, KF, upd]
  · intro b h1 h2 h3
    simp [KCell, h3]
theorem KP_15 (v : Int32) : pV (hK n ρ k B) n 11 15 (.int v) = some (hK n ρ (kuI k 15 v) B) := by
  simp only [pV, hK_0, true_and]
  rw [if_pos (by simp [KF])]
  refine congrArg some (hOv_put ⟨Nat.le_refl _, by omega⟩ ?_ ?_)
  · simp [KCell, KF, upd]
  · intro b h1 h2 h3
    simp [KCell, h3]
theorem KN_1 : aN (hK n ρ k B) (n + 1) = some 30 := by simp only [aN, hK_1]; rfl
theorem KN_4 : aN (hK n ρ k B) (n + 4) = some 5 := by simp only [aN, hK_4]; rfl
theorem KN_5 : aN (hK n ρ k B) (n + 5) = some 5 := by simp only [aN, hK_5]; rfl
theorem KN_12 : aN (hK n ρ k B) (n + 12) = some 30 := by simp only [aN, hK_12]; rfl
theorem KA_1 {i : Int32} {j : Nat} (hi : i = nI j) (hj : j < 30) : aQ (hK n ρ k B) (n + 1) 4 i = some (kTr k j) := by
  subst hi
  simp only [aQ, hK_1, true_and]
  rw [if_pos (nI_in hj (by omega)), nI_clamp (by omega)]
theorem KA_4 {i : Int32} {j : Nat} (hi : i = nI j) (hj : j < 5) : aQ (hK n ρ k B) (n + 4) 5 i = some (some (txA n (2 * j))) := by
  subst hi
  simp only [aQ, hK_4, true_and]
  rw [if_pos (nI_in hj (by omega)), nI_clamp (by omega), if_pos hj]
theorem KA_5 {i : Int32} {j : Nat} (hi : i = nI j) (hj : j < 5) : aQ (hK n ρ k B) (n + 5) 5 i = some (some (txA n (2 * j + 1))) := by
  subst hi
  simp only [aQ, hK_5, true_and]
  rw [if_pos (nI_in hj (by omega)), nI_clamp (by omega), if_pos hj]
theorem KA_12 {i : Int32} {j : Nat} (hi : i = nI j) (hj : j < 30) : aI (hK n ρ k B) (n + 12) 0 i = some (kIe k j) := by
  subst hi
  simp only [aI, hK_12, true_and]
  rw [if_pos (nI_in hj (by omega)), nI_clamp (by omega)]
theorem KS_1 {i : Int32} {j : Nat} (hi : i = nI j) (hj : j < 30) (v : Nat) : sQ (hK n ρ k B) (n + 1) 4 i v = some (hK n ρ (kuTr k (va_up (kTr k) j (some v))) B) := by
  subst hi
  simp only [sQ, hK_1, true_and]
  rw [if_pos (nI_in hj (by omega)), nI_clamp (by omega)]
  refine congrArg some (hOv_put ⟨by omega, by omega⟩ ?_ ?_)
  · simp [KCell]
  · intro b h1 h2 h3
    have h3 : ¬ b = n + 1 := h3
    by_cases h4 : b = n
    · simp [KCell, h4, KF]
    · have h5 : ¬ b < n + 2 := by omega
      simp [KCell, h5]
theorem KS_12 {i : Int32} {j : Nat} (hi : i = nI j) (hj : j < 30) (v : Int32) : sI (hK n ρ k B) (n + 12) 0 i v = some (hK n ρ (kuIe k (upd (kIe k) j v)) B) := by
  subst hi
  simp only [sI, hK_12, true_and]
  rw [if_pos (nI_in hj (by omega)), nI_clamp (by omega)]
  refine congrArg some (hOv_put ⟨by omega, by omega⟩ ?_ ?_)
  · simp [KCell]
  · intro b h1 h2 h3
    have h3 : ¬ b = n + 12 := h3
    unfold KCell
    repeat' split
    all_goals first | rfl | omega
-- an inner object of it, taken for itself
theorem hK_tp (x : XP) : hP (n + 2) x (hK n ρ k B) = hK n ρ (kuTp k x) B := by
  refine hOv_in (by omega) (by omega) (fun a h1 h2 => ?_) (fun a h1 h2 h3 => ?_)
  · unfold KCell
    rw [if_neg (show ¬ a < n + 2 by omega), if_pos (show a < n + 4 by omega)]
  · by_cases h4 : a < n + 2
    · unfold KCell
      repeat' split
      all_goals first | rfl | omega
    · unfold KCell
      rw [if_neg (show ¬ a < n + 2 by omega), if_neg (show ¬ a < n + 4 by omega), if_neg (show ¬ a < n + 2 by omega), if_neg (show ¬ a < n + 4 by omega)]
theorem hK_tp0 : hK n ρ k B = hP (n + 2) (kTp k) (hK n ρ k B) := (hK_tp n ρ k B (kTp k)).symm
theorem hK_od (x : XO) : hO (n + 6) x (hK n ρ k B) = hK n ρ (kuOd k x) B := by
  refine hOv_in (by omega) (by omega) (fun a h1 h2 => ?_) (fun a h1 h2 h3 => ?_)
  · unfold KCell
    rw [if_neg (show ¬ a < n + 2 by omega), if_neg (show ¬ a < n + 4 by omega), if_neg (show ¬ a < n + 6 by omega), if_pos (show a < n + 8 by omega)]
  · by_cases h4 : a < n + 6
    · unfold KCell
      repeat' split
      all_goals first | rfl | omega
    · unfold KCell
      rw [if_neg (show ¬ a < n + 2 by omega), if_neg (show ¬ a < n + 4 by omega), if_neg (show ¬ a < n + 6 by omega), if_neg (show ¬ a < n + 8 by omega), if_neg (show ¬ a < n + 2 by omega), if_neg (show ¬ a < n + 4 by omega), if_neg (show ¬ a < n + 6 by omega), if_neg (show ¬ a < n + 8 by omega)]
theorem hK_od0 : hK n ρ k B = hO (n + 6) (kOd k) (hK n ρ k B) := (hK_od n ρ k B (kOd k)).symm
theorem hK_fe (x : XO) : hO (n + 8) x (hK n ρ k B) = hK n ρ (kuFe k x) B := by
  refine hOv_in (by omega) (by omega) (fun a h1 h2 => ?_) (fun a h1 h2 h3 => ?_)
  · unfold KCell
    rw [if_neg (show ¬ a < n + 2 by omega), if_neg (show ¬ a < n + 4 by omega), if_neg (show ¬ a < n + 6 by omega), if_neg (show ¬ a < n + 8 by omega), if_pos (show a < n + 10 by omega)]
  · by_cases h4 : a < n + 8
    · unfold KCell
      repeat' split
      all_goals first | rfl | omega
    · unfold KCell
      rw [if_neg (show ¬ a < n + 2 by omega), if_neg (show ¬ a < n + 4 by omega), if_neg (show ¬ a < n + 6 by omega), if_neg (show ¬ a < n + 8 by omega), if_neg (show ¬ a < n + 10 by omega), if_neg (show ¬ a < n + 2 by omega), if_neg (show ¬ a < n + 4 by omega), if_neg (show ¬ a < n + 6 by omega), if_neg (show ¬ a < n + 8 by omega), if_neg (show ¬ a < n + 10 by omega)]
theorem hK_fe0 : hK n ρ k B = hO (n + 8) (kFe k) (hK n ρ k B) := (hK_fe n ρ k B (kFe k)).symm
theorem hK_tc (x : XR) : hR (n + 10) x (hK n ρ k B) = hK n ρ (kuTc k x) B := by
  refine hOv_in (by omega) (by omega) (fun a h1 h2 => ?_) (fun a h1 h2 h3 => ?_)
  · unfold KCell
    rw [if_neg (show ¬ a < n + 2 by omega), if_neg (show ¬ a < n + 4 by omega), if_neg (show ¬ a < n + 6 by omega), if_neg (show ¬ a < n + 8 by omega), if_neg (show ¬ a < n + 10 by omega), if_pos (show a < n + 12 by omega)]
  · by_cases h4 : a < n + 10
    · unfold KCell
      repeat' split
      all_goals first | rfl | omega
    · unfold KCell
      rw [if_neg (show ¬ a < n + 2 by omega), if_neg (show ¬ a < n + 4 by omega), if_neg (show ¬ a < n + 6 by omega), if_neg (show ¬ a < n + 8 by omega), if_neg (show ¬ a < n + 10 by omega), if_neg (show ¬ a < n + 12 by omega), if_neg (show ¬ a < n + 2 by omega), if_neg (show ¬ a < n + 4 by omega), if_neg (show ¬ a < n + 6 by omega), if_neg (show ¬ a < n + 8 by omega), if_neg (show ¬ a < n + 10 by omega), if_neg (show ¬ a < n + 12 by omega)]
theorem hK_tc0 : hK n ρ k B = hR (n + 10) (kTc k) (hK n ρ k B) := (hK_tc n ρ k B (kTc k)).symm
theorem hK_it (x : XP) : hP (n + 13) x (hK n ρ k B) = hK n ρ (kuIt k x) B := by
  refine hOv_in (by omega) (by omega) (fun a h1 h2 => ?_) (fun a h1 h2 h3 => ?_)
  · unfold KCell
    rw [if_neg (show ¬ a < n + 2 by omega), if_neg (show ¬ a < n + 4 by omega), if_neg (show ¬ a < n + 6 by omega), if_neg (show ¬ a < n + 8 by omega), if_neg (show ¬ a < n + 10 by omega), if_neg (show ¬ a < n + 12 by omega), if_neg (show ¬ a < n + 13 by omega), if_pos (show a < n + 15 by omega)]
  · by_cases h4 : a < n + 13
    · unfold KCell
      repeat' split
      all_goals first | rfl | omega
    · unfold KCell
      rw [if_neg (show ¬ a < n + 2 by omega), if_neg (show ¬ a < n + 4 by omega), if_neg (show ¬ a < n + 6 by omega), if_neg (show ¬ a < n + 8 by omega), if_neg (show ¬ a < n + 10 by omega), if_neg (show ¬ a < n + 12 by omega), if_neg (show ¬ a < n + 13 by omega), if_neg (show ¬ a < n + 15 by omega), if_neg (show ¬ a < n + 2 by omega), if_neg (show ¬ a < n + 4 by omega), if_neg (show ¬ a < n + 6 by omega), if_neg (show ¬ a < n + 8 by omega), if_neg (show ¬ a < n + 10 by omega), if_neg (show ¬ a < n + 12 by omega), if_neg (show ¬ a < n + 13 by omega), if_neg (show ¬ a < n + 15 by omega)]
theorem hK_it0 : hK n ρ k B = hP (n + 13) (kIt k) (hK n ρ k B) := (hK_it n ρ k B (kIt k)).symm
theorem kuTx_id (k : KK) (j : Nat) : kuTx k j (kTx k j) = k := by
  have e : (fun i => if i = j then kTx k j else kTx k i) = kTx k := funext fun i => by
    by_cases h : i = j
    · rw [if_pos h, h]
    · rw [if_neg h]
  show (k.1, k.2.1, k.2.2.1, k.2.2.2.1, k.2.2.2.2.1, k.2.2.2.2.2.1, k.2.2.2.2.2.2.1, k.2.2.2.2.2.2.2.1, (fun i => if i = j then kTx k j else kTx k i)) = k
  rw [e]
theorem hK_tx {j : Nat} (hj : j < 10) (x : XT) : hT (txA n j) (tLet ρ j) (tFl j) x (hK n ρ k B) = hK n ρ (kuTx k j x) B := by
  refine hOv_in (by unfold txA; omega) (by unfold txA; omega) (fun a h1 h2 => ?_) (fun a h1 h2 h3 => ?_)
  · have e : (a - (n + 15)) / 5 = j := by unfold txA at h1 h2; omega
    unfold txA at h1 h2
    unfold KCell
    rw [if_neg (show ¬ a < n + 2 by omega), if_neg (show ¬ a < n + 4 by omega), if_neg (show ¬ a < n + 6 by omega), if_neg (show ¬ a < n + 8 by omega), if_neg (show ¬ a < n + 10 by omega), if_neg (show ¬ a < n + 12 by omega), if_neg (show ¬ a < n + 13 by omega), if_neg (show ¬ a < n + 15 by omega), e]
    show TCell _ _ _ (if j = j then x else _) a = _
    rw [if_pos rfl]
  · unfold KCell
    by_cases h4 : a < n + 15
    · repeat' split
      all_goals first | rfl | omega
    · have e : (a - (n + 15)) / 5 ≠ j := fun q => h3 (by unfold txA; omega)
      rw [if_neg (show ¬ a < n + 2 by omega), if_neg (show ¬ a < n + 4 by omega), if_neg (show ¬ a < n + 6 by omega), if_neg (show ¬ a < n + 8 by omega), if_neg (show ¬ a < n + 10 by omega), if_neg (show ¬ a < n + 12 by omega), if_neg (show ¬ a < n + 13 by omega), if_neg (show ¬ a < n + 15 by omega), if_neg (show ¬ a < n + 2 by omega), if_neg (show ¬ a < n + 4 by omega), if_neg (show ¬ a < n + 6 by omega), if_neg (show ¬ a < n + 8 by omega), if_neg (show ¬ a < n + 10 by omega), if_neg (show ¬ a < n + 12 by omega), if_neg (show ¬ a < n + 13 by omega), if_neg (show ¬ a < n + 15 by omega)]
      show TCell _ _ _ (if (a - (n + 15)) / 5 = j then x else _) a = _
      rw [if_neg e]
theorem hK_tx0 {j : Nat} (hj : j < 10) : hK n ρ k B = hT (txA n j) (tLet ρ j) (tFl j) (kTx k j) (hK n ρ k B) := by
  rw [hK_tx n ρ k B hj, kuTx_id]
theorem hK_up {a : Nat} {x : HC} (h : a < n ∨ n + 65 ≤ a) : hUp (hK n ρ k B) a x = hK n ρ k (hUp B a x) := hOv_up h
theorem hM_up2 {m : Nat} {o : MO} {c : MC} {a : Nat} {x : HC} (h : a < m ∨ m + 8 ≤ a) : hUp (hM m o c B) a x = hM m o c (hUp B a x) := hOv_up h
theorem hK_hM (o : MO) (c : MC) : hK n ρ k (hM (n + 65) o c B) = hM (n + 65) o c (hK n ρ k B) := hOv_comm (q := n) (n := 65) (q' := n + 65) (n' := 8) (Or.inl (Nat.le_refl _))
end KCELLS
