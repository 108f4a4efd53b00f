/-! THE LAW'S SCRIPT: whatever it holds, both classes answer alike -/
theorem hK_hL (S : HSt) (ρ : Nat → Nat) (l : List HC) (h65 : l.length = 65) (h : ∀ i, i < 65 → l[i]? = (hK S.2 ρ k0 (S.1, S.2 + 65)).1 (S.2 + i)) : hL S l = hK S.2 ρ k0 (S.1, S.2 + 65) := by
  refine Prod.ext (funext fun a => ?_) (by show S.2 + l.length = _; rw [h65]; rfl)
  by_cases ha : S.2 ≤ a ∧ a < S.2 + 65
  · obtain ⟨i, rfl⟩ : ∃ i, a = S.2 + i := ⟨a - S.2, by omega⟩
    rw [hL_at (by omega), h i (by omega)]
  · show (if S.2 ≤ a ∧ a < S.2 + l.length then l[a - S.2]? else S.1 a) = if S.2 ≤ a ∧ a < S.2 + 65 then KCell S.2 ρ k0 a else S.1 a
    rw [h65, if_neg ha, if_neg ha]
theorem s0_n : sN s0 0 = 10 ∧ sN s0 1 = 0 ∧ sN s0 2 = 0 ∧ sN s0 3 = 0 ∧ sN s0 4 = 0 := by
  refine ⟨?_, ?_, ?_, ?_, ?_⟩ <;> rfl
theorem Rel_start (n : Nat) {B : HSt} (hB : n + 73 ≤ B.2) : Rel n mo0 (fun _ => []) (fun _ => []) k0 B := by
  obtain ⟨q0, q1, q2, q3, q4⟩ := s0_n
  have z : ∀ j, j ≠ 0 → s0 j = 0 := fun j hj => pk_un hj
  have hs : sOk s0 := by
    refine ⟨fun i hi => ?_, by omega, by omega, by omega, by omega, by omega, fun t ht => by omega⟩
    by_cases h : i = 0
    · subst h
      rw [q0]; rfl
    · unfold sN
      rw [z i h]; rfl
  refine ⟨⟨hs, ⟨fun p hp => ?_, fun l hl => ?_⟩, fun i hi => ?_, fun i hi => z i (by omega)⟩, ⟨rfl, rfl, rfl, rfl, fun t ht => ?_⟩, ⟨fun p hp => ?_, fun l hl => ?_⟩, ⟨rfl, fun i hi => ?_⟩, hB, ⟨fun i hi => rfl, (fun _ => 0, 0), (fun _ => 0, 0), rfl, rfl, rfl, Nat.zero_le _, fun i hi => rfl⟩, false, rfl, rfl, fun h => by cases h⟩
  · have hp : p < sN s0 2 := hp
    omega
  · have hl : l < sN s0 3 := hl
    omega
  · have hi : i < sN s0 4 := hi
    omega
  · have ht : t < sN s0 1 := ht
    omega
  · have hp : p < sN s0 2 := hp
    omega
  · have hl : l < sN s0 3 := hl
    omega
  · have hi : i < sN s0 4 := hi
    omega
theorem law_true {ρ : Nat → Nat} (hρ : rhoOk ρ) (xs : Nat → Int32) {L : Nat} (hL : L ≤ 384) (n0 : Nat) : ∃ res : HSt, f_L_law ρ xs L (fun _ => none, n0) = some res := by
  obtain ⟨l, e1, e2, e3⟩ := X11_new ρ ((fun _ => none, n0) : HSt)
  rw [hK_hL _ ρ l e2 e3] at e1
  have e1 : f_X11_init ρ (hNew ((fun _ => none, n0) : HSt) (.inr (11, [.int 0, .null, .int 0, .null, .null, .int 0, .null, .int 0, .null, .null, .null, .int 0, .int 0, .int 0, .int 0, .int 0, .null, .null]))) ((fun _ => none, n0) : HSt).2 = some (hK n0 ρ k0 (fun _ => none, n0 + 65)) := e1
  unfold f_L_law
  rw [hqn_eq, e1, ob, hqn_eq, X12_new, ob]
  obtain ⟨res, h⟩ := script_loop hρ (n := n0) (S := ((fun _ => none, n0) : HSt)) (S3 := hK n0 ρ k0 (fun _ => none, n0 + 65)) rfl rfl xs hL 65 0 mo0 mc0 (fun _ => []) (fun _ => []) k0 (fun _ => none, n0 + 73) (Nat.zero_le _) (by omega) (Rel_start n0 (Nat.le_refl _))
  exact ⟨res, h⟩
