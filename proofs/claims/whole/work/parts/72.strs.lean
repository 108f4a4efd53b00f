/-! CONSTANT TEXTS: length, characters, the place of one -/
def lenN (i : Nat) : Nat := lenST.getD i 0
def chrN (i j : Nat) : Nat := nN ((bytST.getD i []).getD j 0)
theorem chr_tab : ∀ i, i < 15 → ∀ j, j < 8 → (bytST.getD i []).getD j 0 = nI (chrN i j) ∧ chrN i j < 128 := by decide +kernel
theorem len_tab : ∀ i, i < 15 → lenN i ≤ 7 := by decide +kernel
theorem find_inj {f : Nat → Nat} {N i : Nat} (hi : i < N) (h : ∀ j, j < N → f j = f i → j = i) : (List.range N).find? (fun j => f j == f i) = some i := by
  cases hf : (List.range N).find? (fun j => f j == f i) with
  | none =>
    have := List.find?_eq_none.mp hf i (List.mem_range.mpr hi)
    simp at this
  | some k =>
    have h1 := List.mem_of_find?_eq_some hf
    have h2 := List.find?_some hf
    have h3 : f k = f i := by simpa using h2
    rw [h k (List.mem_range.mp h1) h3]
section STRS
variable {ρ : Nat → Nat}
theorem sX_ρ (hρ : rhoOk ρ) {i : Nat} (hi : i < 15) : sX ρ (ρ i) = some i := find_inj (f := ρ) hi (fun j hj e => hρ.1 j i hj hi e)
theorem sXs_ρ (hρ : rhoOk ρ) {i : Nat} (hi : i < 15) : (sX ρ (ρ i)).isSome = true := by rw [sX_ρ hρ hi]; rfl
theorem sV_ρ (hρ : rhoOk ρ) {i : Nat} (hi : i < 15) : sV ρ (ρ i) = some (ρ (100 + i)) := by unfold sV; rw [sX_ρ hρ hi]; rfl
theorem tX_ρ (hρ : rhoOk ρ) {i : Nat} (hi : i < 15) : tX ρ (ρ (100 + i)) = some i := find_inj (f := fun j => ρ (100 + j)) hi (fun j hj e => hρ.2 j i hj hi e)
theorem tN_ρ (hρ : rhoOk ρ) {i : Nat} (hi : i < 15) : tN ρ (ρ (100 + i)) = some (nI (lenN i)) := by unfold tN; rw [tX_ρ hρ hi]; rfl
theorem tB_ρ (hρ : rhoOk ρ) {i j : Nat} (hi : i < 15) (hj : j < lenN i) : tB ρ (ρ (100 + i)) (nI j) = some (nI (chrN i j)) := by
  have hl := len_tab i hi
  unfold tB
  rw [tX_ρ hρ hi]
  show (if ¬ (nI j < 0 ∨ lenN i ≤ (nI j).toNatClampNeg) then some ((bytST.getD i []).getD (nI j).toNatClampNeg 0) else none) = _
  rw [if_pos (nI_in hj (by omega)), nI_clamp (by omega), (chr_tab i hi j (by omega)).1]
theorem coder_ρ (hρ : rhoOk ρ) (S : HSt) {i : Nat} (hi : i < 15) : f_J0_coder_7d493 ρ S (ρ i) = some (0, S) := by
  unfold f_J0_coder_7d493
  rw [if_neg (by decide), if_pos (sXs_ρ hρ hi)]
theorem latin_ρ (hρ : rhoOk ρ) (S : HSt) {i : Nat} (hi : i < 15) : f_J0_isLatin1_aae02 ρ S (ρ i) = some (1, S) := by
  unfold f_J0_isLatin1_aae02
  rw [if_neg (by decide), if_pos (sXs_ρ hρ hi), if_pos rfl]
theorem J_len (hρ : rhoOk ρ) (S : HSt) {i : Nat} (hi : i < 15) : f_J0_length_8abf5 ρ S (ρ i) = some (nI (lenN i), S) := by
  have hl := len_tab i hi
  unfold f_J0_length_8abf5
  rw [sV_ρ hρ hi, ob, tN_ρ hρ hi, ob, if_pos (sXs_ρ hρ hi), coder_ρ hρ S hi, bd2_some, pk_shrN (by omega) (0 &&& 31) 0 (by decide), Nat.pow_zero, Nat.div_one]
theorem J_empty (hρ : rhoOk ρ) (S : HSt) {i : Nat} (hi : i < 15) : f_J0_isEmpty_aae02 ρ S (ρ i) = some (if lenN i = 0 then 1 else 0, S) := by
  have hl := len_tab i hi
  unfold f_J0_isEmpty_aae02
  rw [sV_ρ hρ hi, ob, tN_ρ hρ hi, ob]
  by_cases h : lenN i = 0
  · rw [if_pos (show nI (lenN i) = 0 by rw [h]; rfl), if_pos h]
  · rw [if_neg (nI_ne0 (by omega) (by omega)), if_neg h]
theorem cv_tab : ∀ c, c < 128 → (Int32.toUInt32 (nI c &&& 255) % 65536).toInt32 = nI c ∧ (Int32.toUInt32 (nI c) % 65536).toInt32 = nI c := by decide +kernel
theorem J_char (hρ : rhoOk ρ) (S : HSt) {i j : Nat} (hi : i < 15) (hj : j < lenN i) : f_J0_charAt_5068e ρ S (ρ i) (nI j) = some (nI (chrN i j), S) := by
  have hl := len_tab i hi
  obtain ⟨c1, c2⟩ := cv_tab (chrN i j) (chr_tab i hi j (by omega)).2
  have e : f_J1_charAt_3b067 ρ S (ρ (100 + i)) (nI j) = some (nI (chrN i j), S) := by
    unfold f_J1_charAt_3b067 f_J0_checkIndex_df160 f_J3_checkIndex_8e157
    rw [tN_ρ hρ hi, ob, if_neg (nI_pos (by omega)), if_pos (nI_lt hj (by omega)), bd2_some, ob, tB_ρ hρ hi hj, ob, c1, if_pos c2]
  unfold f_J0_charAt_5068e
  rw [if_pos (sXs_ρ hρ hi), latin_ρ hρ S hi, bd2_some, if_neg (by decide), sV_ρ hρ hi, ob, e, bd2_some, if_pos c2]
/-- the first place of c in a text from j on -/
def idxN (i c : Nat) : Nat → Nat → Option Nat
  | 0, _ => none
  | d + 1, j => if chrN i j = c then some j else idxN i c d (j + 1)
def ixI (x : Option Nat) : Int32 := match x with
  | none => -1
  | some j => nI j
theorem c8_lo : ∀ c, c < 128 → (Int32.toInt8 (nI c)).toInt32 = nI c := by decide +kernel
theorem c8_hi : ∀ c, c < 256 → 128 ≤ c → (Int32.toInt8 (nI c)).toInt32 < 0 := by decide +kernel
theorem c8_tab (c : Nat) (hc : c < 256) (b : Nat) (hb : b < 128) : (nI b = ((Int32.toInt8 (nI c)).toInt32)) ↔ (b = c) := by
  by_cases h : c < 128
  · rw [c8_lo c h]
    exact nI_eq (by omega) (by omega)
  · constructor
    · intro q
      have := c8_hi c hc (by omega)
      rw [← q] at this
      exact absurd this (nI_pos (by omega))
    · intro q
      omega
theorem cu_tab : ∀ c, c < 256 → (Int32.toUInt32 (nI c) % 65536).toInt32 = nI c := by decide +kernel
theorem J_idx (hρ : rhoOk ρ) (S : HSt) {i c : Nat} (hi : i < 15) (h0 : 0 < lenN i) (hc : c < 256) : f_J0_indexOf_0f7a4 ρ S (ρ i) (nI c) = some (ixI (idxN i c (lenN i) 0), S) := by
  have hl := len_tab i hi
  have L : ∀ (d j f : Nat), j + d = lenN i → d < f → f_J1_indexOfChar_4cfef_L7 ρ (ρ (100 + i)) (nI c) (nI (lenN i)) f_J1_indexOfChar_4cfef_K31 f (nI j) S = some (ixI (idxN i c d j), S) := by
    intro d
    induction d with
    | zero =>
      intro j f hj hf
      obtain ⟨f, rfl⟩ : ∃ e, f = e + 1 := ⟨f - 1, by omega⟩
      rw [f_J1_indexOfChar_4cfef_L7]
      unfold f_J1_indexOfChar_4cfef_B7
      rw [if_pos (nI_le (by omega) (by omega))]
      rfl
    | succ d ih =>
      intro j f hj hf
      obtain ⟨f, rfl⟩ : ∃ e, f = e + 1 := ⟨f - 1, by omega⟩
      rw [f_J1_indexOfChar_4cfef_L7]
      unfold f_J1_indexOfChar_4cfef_B7
      have e8 := c8_tab c hc (chrN i j) (chr_tab i hi j (by omega)).2
      rw [if_neg (nI_ge (by omega) (by omega)), tB_ρ hρ hi (by omega), ob, nI_1, ih (j + 1) f (by omega) (by omega), idxN]
      by_cases h : chrN i j = c
      · rw [if_pos (e8.mpr h), if_pos h]; rfl
      · rw [if_neg (fun q => h (e8.mp q)), if_neg h]
  have e1 : f_J1_indexOf_4cfef ρ S (ρ (100 + i)) (nI c) 0 (nI (lenN i)) = some (ixI (idxN i c (lenN i) 0), S) := by
    unfold f_J1_indexOf_4cfef f_J1_canEncode_9a6ad f_J1_indexOfChar_4cfef
    have L0 := L (lenN i) 0 FU (by omega) (by show _ < 100000; omega)
    rw [show nI 0 = (0 : Int32) from rfl] at L0
    rw [if_neg (nI_pos (by omega)), if_neg (show ¬ (255 : Int32) < nI c from nI_nlt (b := c) (a := 255) (by omega) (by omega)), bd2_some, if_neg (by decide), if_neg (by decide), hqn_eq, tN_ρ hρ hi, ob, if_neg (nI_nlt (Nat.le_refl _) (by omega)), hqn_eq, if_pos (show (0 : Int32) < nI (lenN i) from nI_lt (a := 0) h0 (by omega)), L0, bd2_some]
  unfold f_J0_indexOf_0f7a4 f_J0_indexOf_7cf53
  rw [if_pos (sXs_ρ hρ hi), if_pos (sXs_ρ hρ hi), latin_ρ hρ S hi, bd2_some, if_neg (by decide), sV_ρ hρ hi, ob, if_pos (sXs_ρ hρ hi), J_len hρ S hi, bd2_some, e1, bd2_some, bd2_some]
end STRS
