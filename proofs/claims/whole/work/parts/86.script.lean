/-! THE SCRIPT: a call after another, both answer alike -/
theorem g11 {n : Nat} {ρ : Nat → Nat} {k : KK} {o : MO} {c : MC} {B : HSt} : gC (hM (n + 65) o c (hK n ρ k B)) n = some 11 := by
  rw [← hK_hM]
  exact hK_C _ _ _ _
theorem lg_self (v : Int64) : lg_cmp v v = 0 := by
  unfold lg_cmp
  simp
/-- a call on both, in the script's words -/
theorem on_both {α : Type} {n : Nat} {ρ : Nat → Nat} {F G : HSt → Option (α × HSt)} (hS : Sim n ρ F G) {o : MO} {c : MC} {tx gx : Nat → List Cl} {k : KK} {B : HSt} (hR : Rel n o tx gx k B) : ∃ (v : α) (S1 : HSt) (o' : MO) (c' : MC) (tx' gx' : Nat → List Cl) (k' : KK) (B' : HSt), F (hM (n + 65) o c (hK n ρ k B)) = some (v, S1) ∧ gC S1 (n + 65) = some 12 ∧ G S1 = some (v, hM (n + 65) o' c' (hK n ρ k' B')) ∧ Rel n o' tx' gx' k' B' := by
  obtain ⟨v, o', c', tx', gx', k', B', h1, h2, h3⟩ := hS o c tx gx k B hR
  rw [hK_hM, hK_hM] at h1
  exact ⟨v, _, o', c', tx', gx', k', B', h1, hM_C _ _ _ _, h2, h3⟩
set_option maxRecDepth 100000 in
theorem law_step {ρ : Nat → Nat} (hρ : rhoOk ρ) {n L i : Nat} {S S3 : HSt} (hS : S.2 = n) (hS3 : S3.2 = n + 65) (xs : Nat → Int32) (hL : L ≤ 384) (hi : i + 6 ≤ L) {o : MO} {c : MC} {tx gx : Nat → List Cl} {k : KK} {B : HSt} (hR : Rel n o tx gx k B) (kb : Int32 → HSt → Option HSt) : ∃ (o' : MO) (c' : MC) (tx' gx' : Nat → List Cl) (k' : KK) (B' : HSt), Rel n o' tx' gx' k' B' ∧ f_L_law_B18 ρ L S S3 xs kb (nI i) (hM (n + 65) o c (hK n ρ k B)) = kb (nI (i + 6)) (hM (n + 65) o' c' (hK n ρ k' B')) := by
  have gd : ∀ j, j < L → ¬ (nI j < 0 ∨ L ≤ Int32.toNatClampNeg (nI j)) := fun j hj q => by
    rcases q with q | q
    · exact nI_pos (by omega) q
    · rw [nI_clamp (by omega)] at q
      omega
  have a : ∀ (j : Nat) (v : Int32), v = nI j → nI i + v = nI (i + j) := fun j v hv => by rw [hv, nI_add]
  have a1 := a 1 1 rfl
  have a2 := a 2 2 rfl
  have a3 := a 3 3 rfl
  have a4 := a 4 4 rfl
  have a5 := a 5 5 rfl
  have a6 := a 6 6 rfl
  have g0 := gd i (by omega)
  have g1 := gd (i + 1) (by omega)
  have g2 := gd (i + 2) (by omega)
  have g3 := gd (i + 3) (by omega)
  have g4 := gd (i + 4) (by omega)
  have g5 := gd (i + 5) (by omega)
  have hend : ¬ nI L - 6 < nI i := by
    rw [show (6 : Int32) = nI 6 from rfl, nI_subN (by omega)]
    exact nI_nlt (by omega) (by omega)
  unfold f_L_law_B18
  rw [hS, hS3, a1, a2, a3, a4, a5, a6, if_neg hend, if_pos g0]
  generalize xs (Int32.toNatClampNeg (nI i)) &&& 31 = w
  generalize xs (Int32.toNatClampNeg (nI (i + 1))) = x1
  generalize xs (Int32.toNatClampNeg (nI (i + 2))) = x2
  generalize xs (Int32.toNatClampNeg (nI (i + 3))) = x3
  generalize xs (Int32.toNatClampNeg (nI (i + 4))) = x4
  generalize xs (Int32.toNatClampNeg (nI (i + 5))) = x5
  by_cases h0 : w = 0
  · obtain ⟨v, S1, o', c', tx', gx', k', B', f1, f2, f3, f4⟩ := on_both (Sim_barn x1) hR
    refine ⟨o', c', tx', gx', k', B', f4, ?_⟩
    have f1 : f_X11_barn (hM (n + 65) o c (hK n ρ k B)) n x1 = some (v, S1) := f1
    have f3 : f_X12_barn S1 (n + 65) x1 = some (v, hM (n + 65) o' c' (hK n ρ k' B')) := f3
    rw [if_pos h0, if_pos g1, g11, if_pos rfl, f1, bd2_some, if_pos g1, f2, if_pos rfl, f3, bd2_some, if_pos rfl]
  rw [if_neg h0]
  by_cases h1 : w = 1
  · obtain ⟨v, S1, o', c', tx', gx', k', B', f1, f2, f3, f4⟩ := on_both (Sim_tryout x1 x2 x3 x4 x5) hR
    refine ⟨o', c', tx', gx', k', B', f4, ?_⟩
    have f1 : f_X11_tryout (hM (n + 65) o c (hK n ρ k B)) n x1 x2 x3 x4 x5 = some (v, S1) := f1
    have f3 : f_X12_tryout S1 (n + 65) x1 x2 x3 x4 x5 = some (v, hM (n + 65) o' c' (hK n ρ k' B')) := f3
    rw [if_pos h1, if_pos g1, if_pos g2, if_pos g3, if_pos g4, if_pos g5, g11, if_pos rfl, f1, bd2_some, if_pos g1, if_pos g2, if_pos g3, if_pos g4, if_pos g5, f2, if_pos rfl, f3, bd2_some, if_pos rfl]
  rw [if_neg h1]
  by_cases h2 : w = 2
  · obtain ⟨v, S1, o', c', tx', gx', k', B', f1, f2, f3, f4⟩ := on_both (Sim_excuse x1 x2) hR
    refine ⟨o', c', tx', gx', k', B', f4, ?_⟩
    have f1 : f_X11_excuse (hM (n + 65) o c (hK n ρ k B)) n x1 x2 = some (v, S1) := f1
    have f3 : f_X12_excuse S1 (n + 65) x1 x2 = some (v, hM (n + 65) o' c' (hK n ρ k' B')) := f3
    rw [if_pos h2, if_pos g1, if_pos g2, g11, if_pos rfl, f1, bd2_some, if_pos g1, if_pos g2, f2, if_pos rfl, f3, bd2_some, if_pos rfl]
  rw [if_neg h2]
  by_cases h3 : w = 3
  · obtain ⟨v, S1, o', c', tx', gx', k', B', f1, f2, f3, f4⟩ := on_both (Sim_of_ x1 x2) hR
    refine ⟨o', c', tx', gx', k', B', f4, ?_⟩
    have f1 : f_X11_of (hM (n + 65) o c (hK n ρ k B)) n x1 x2 = some (v, S1) := f1
    have f3 : f_X12_of S1 (n + 65) x1 x2 = some (v, hM (n + 65) o' c' (hK n ρ k' B')) := f3
    rw [if_pos h3, if_pos g1, if_pos g2, g11, if_pos rfl, f1, bd2_some, if_pos g1, if_pos g2, f2, if_pos rfl, f3, bd2_some, if_pos rfl]
  rw [if_neg h3]
  by_cases h4 : w = 4
  · obtain ⟨v, S1, o', c', tx', gx', k', B', f1, f2, f3, f4⟩ := on_both (Sim_feed (((Int32.toInt64 x1) <<< (Int32.toInt64 32 &&& 63)) ||| ((Int32.toInt64 x2) &&& 4294967295)) x3) hR
    refine ⟨o', c', tx', gx', k', B', f4, ?_⟩
    have f1 : f_X11_feed (hM (n + 65) o c (hK n ρ k B)) n (((Int32.toInt64 x1) <<< (Int32.toInt64 32 &&& 63)) ||| ((Int32.toInt64 x2) &&& 4294967295)) x3 = some (v, S1) := f1
    have f3 : f_X12_feed S1 (n + 65) (((Int32.toInt64 x1) <<< (Int32.toInt64 32 &&& 63)) ||| ((Int32.toInt64 x2) &&& 4294967295)) x3 = some (v, hM (n + 65) o' c' (hK n ρ k' B')) := f3
    rw [if_pos h4, if_pos g1, if_pos g2, if_pos g3, g11, if_pos rfl, f1, bd2_some, if_pos g1, if_pos g2, if_pos g3, f2, if_pos rfl, f3, bd2_some, if_pos rfl]
  rw [if_neg h4]
  by_cases h5 : w = 5
  · obtain ⟨v, S1, o', c', tx', gx', k', B', f1, f2, f3, f4⟩ := on_both (Sim_plan hρ ) hR
    refine ⟨o', c', tx', gx', k', B', f4, ?_⟩
    have f1 : f_X11_plan ρ (hM (n + 65) o c (hK n ρ k B)) n  = some (v, S1) := f1
    have f3 : f_X12_plan ρ S1 (n + 65)  = some (v, hM (n + 65) o' c' (hK n ρ k' B')) := f3
    rw [if_pos h5, g11, if_pos rfl, f1, bd2_some, f2, if_pos rfl, f3, bd2_some, if_pos rfl]
  rw [if_neg h5]
  by_cases h6 : w = 6
  · obtain ⟨v, S1, o', c', tx', gx', k', B', f1, f2, f3, f4⟩ := on_both (Sim_told x1 x2) hR
    refine ⟨o', c', tx', gx', k', B', f4, ?_⟩
    have f1 : f_X11_told (hM (n + 65) o c (hK n ρ k B)) n x1 x2 = some (v, S1) := f1
    have f3 : f_X12_told S1 (n + 65) x1 x2 = some (v, hM (n + 65) o' c' (hK n ρ k' B')) := f3
    rw [if_pos h6, if_pos g1, if_pos g2, g11, if_pos rfl, f1, bd2_some, if_pos g1, if_pos g2, f2, if_pos rfl, f3, bd2_some, if_pos rfl]
  rw [if_neg h6]
  by_cases h7 : w = 7
  · obtain ⟨v, S1, o', c', tx', gx', k', B', f1, f2, f3, f4⟩ := on_both (Sim_passes x1) hR
    refine ⟨o', c', tx', gx', k', B', f4, ?_⟩
    have f1 : f_X11_passes (hM (n + 65) o c (hK n ρ k B)) n x1 = some (v, S1) := f1
    have f3 : f_X12_passes S1 (n + 65) x1 = some (v, hM (n + 65) o' c' (hK n ρ k' B')) := f3
    rw [if_pos h7, if_pos g1, g11, if_pos rfl, f1, bd2_some, if_pos g1, f2, if_pos rfl, f3, bd2_some, if_pos rfl]
  rw [if_neg h7]
  by_cases h8 : w = 8
  · obtain ⟨v, S1, o', c', tx', gx', k', B', f1, f2, f3, f4⟩ := on_both (Sim_chance x1 x2 x3) hR
    refine ⟨o', c', tx', gx', k', B', f4, ?_⟩
    have f1 : f_X11_chance (hM (n + 65) o c (hK n ρ k B)) n x1 x2 x3 = some (v, S1) := f1
    have f3 : f_X12_chance S1 (n + 65) x1 x2 x3 = some (v, hM (n + 65) o' c' (hK n ρ k' B')) := f3
    rw [if_pos h8, if_pos g1, if_pos g2, if_pos g3, g11, if_pos rfl, f1, bd2_some, if_pos g1, if_pos g2, if_pos g3, f2, if_pos rfl, f3, bd2_some, if_pos (lg_self v)]
  rw [if_neg h8]
  by_cases h9 : w = 9
  · obtain ⟨v, S1, o', c', tx', gx', k', B', f1, f2, f3, f4⟩ := on_both (Sim_odds x1 x2 x3 x4 x5) hR
    refine ⟨o', c', tx', gx', k', B', f4, ?_⟩
    have f1 : f_X11_odds (hM (n + 65) o c (hK n ρ k B)) n x1 x2 x3 x4 x5 = some (v, S1) := f1
    have f3 : f_X12_odds S1 (n + 65) x1 x2 x3 x4 x5 = some (v, hM (n + 65) o' c' (hK n ρ k' B')) := f3
    rw [if_pos h9, if_pos g1, if_pos g2, if_pos g3, if_pos g4, if_pos g5, g11, if_pos rfl, f1, bd2_some, if_pos g1, if_pos g2, if_pos g3, if_pos g4, if_pos g5, f2, if_pos rfl, f3, bd2_some, if_pos (lg_self v)]
  rw [if_neg h9]
  by_cases h10 : w = 10
  · obtain ⟨v, S1, o', c', tx', gx', k', B', f1, f2, f3, f4⟩ := on_both (Sim_best x1 x2 x3 x4) hR
    refine ⟨o', c', tx', gx', k', B', f4, ?_⟩
    have f1 : f_X11_best (hM (n + 65) o c (hK n ρ k B)) n x1 x2 x3 x4 = some (v, S1) := f1
    have f3 : f_X12_best S1 (n + 65) x1 x2 x3 x4 = some (v, hM (n + 65) o' c' (hK n ρ k' B')) := f3
    rw [if_pos h10, if_pos g1, if_pos g2, if_pos g3, if_pos g4, g11, if_pos rfl, f1, bd2_some, if_pos g1, if_pos g2, if_pos g3, if_pos g4, f2, if_pos rfl, f3, bd2_some, if_pos (lg_self v)]
  rw [if_neg h10]
  by_cases h11 : w = 11
  · obtain ⟨v, S1, o', c', tx', gx', k', B', f1, f2, f3, f4⟩ := on_both (Sim_fixed x1 x2) hR
    refine ⟨o', c', tx', gx', k', B', f4, ?_⟩
    have f1 : f_X11_fixed (hM (n + 65) o c (hK n ρ k B)) n x1 x2 = some (v, S1) := f1
    have f3 : f_X12_fixed S1 (n + 65) x1 x2 = some (v, hM (n + 65) o' c' (hK n ρ k' B')) := f3
    rw [if_pos h11, if_pos g1, if_pos g2, g11, if_pos rfl, f1, bd2_some, if_pos g1, if_pos g2, f2, if_pos rfl, f3, bd2_some, if_pos rfl]
  rw [if_neg h11]
  by_cases h12 : w = 12
  · obtain ⟨v, S1, o', c', tx', gx', k', B', f1, f2, f3, f4⟩ := on_both (Sim_beats x1) hR
    refine ⟨o', c', tx', gx', k', B', f4, ?_⟩
    have f1 : f_X11_beats (hM (n + 65) o c (hK n ρ k B)) n x1 = some (v, S1) := f1
    have f3 : f_X12_beats S1 (n + 65) x1 = some (v, hM (n + 65) o' c' (hK n ρ k' B')) := f3
    rw [if_pos h12, if_pos g1, g11, if_pos rfl, f1, bd2_some, if_pos g1, f2, if_pos rfl, f3, bd2_some, if_pos rfl]
  rw [if_neg h12]
  by_cases h13 : w = 13
  · obtain ⟨v, S1, o', c', tx', gx', k', B', f1, f2, f3, f4⟩ := on_both (Sim_otherwise x1) hR
    refine ⟨o', c', tx', gx', k', B', f4, ?_⟩
    have f1 : f_X11_otherwise (hM (n + 65) o c (hK n ρ k B)) n x1 = some (v, S1) := f1
    have f3 : f_X12_otherwise S1 (n + 65) x1 = some (v, hM (n + 65) o' c' (hK n ρ k' B')) := f3
    rw [if_pos h13, if_pos g1, g11, if_pos rfl, f1, bd2_some, if_pos g1, f2, if_pos rfl, f3, bd2_some, if_pos rfl]
  rw [if_neg h13]
  by_cases h14 : w = 14
  · obtain ⟨v, S1, o', c', tx', gx', k', B', f1, f2, f3, f4⟩ := on_both (Sim_afterwards x1 x2) hR
    refine ⟨o', c', tx', gx', k', B', f4, ?_⟩
    have f1 : f_X11_afterwards (hM (n + 65) o c (hK n ρ k B)) n x1 x2 = some (v, S1) := f1
    have f3 : f_X12_afterwards S1 (n + 65) x1 x2 = some (v, hM (n + 65) o' c' (hK n ρ k' B')) := f3
    rw [if_pos h14, if_pos g1, if_pos g2, g11, if_pos rfl, f1, bd2_some, if_pos g1, if_pos g2, f2, if_pos rfl, f3, bd2_some, if_pos rfl]
  rw [if_neg h14]
  by_cases h15 : w = 15
  · obtain ⟨v, S1, o', c', tx', gx', k', B', f1, f2, f3, f4⟩ := on_both (Sim_law hρ ) hR
    refine ⟨o', c', tx', gx', k', B', f4, ?_⟩
    have f1 : f_X11_law ρ (hM (n + 65) o c (hK n ρ k B)) n  = some (v, S1) := f1
    have f3 : f_X12_law ρ S1 (n + 65)  = some (v, hM (n + 65) o' c' (hK n ρ k' B')) := f3
    rw [if_pos h15, g11, if_pos rfl, f1, bd2_some, f2, if_pos rfl, f3, bd2_some, if_pos rfl]
  rw [if_neg h15]
  by_cases h16 : w = 16
  · obtain ⟨v, S1, o', c', tx', gx', k', B', f1, f2, f3, f4⟩ := on_both (Sim_says x1 x2) hR
    refine ⟨o', c', tx', gx', k', B', f4, ?_⟩
    have f1 : f_X11_says (hM (n + 65) o c (hK n ρ k B)) n x1 x2 = some (v, S1) := f1
    have f3 : f_X12_says S1 (n + 65) x1 x2 = some (v, hM (n + 65) o' c' (hK n ρ k' B')) := f3
    rw [if_pos h16, if_pos g1, if_pos g2, g11, if_pos rfl, f1, bd2_some, if_pos g1, if_pos g2, f2, if_pos rfl, f3, bd2_some, if_pos rfl]
  rw [if_neg h16]
  by_cases h17 : w = 17
  · obtain ⟨v, S1, o', c', tx', gx', k', B', f1, f2, f3, f4⟩ := on_both (Sim_cannot x1) hR
    refine ⟨o', c', tx', gx', k', B', f4, ?_⟩
    have f1 : f_X11_cannot (hM (n + 65) o c (hK n ρ k B)) n x1 = some (v, S1) := f1
    have f3 : f_X12_cannot S1 (n + 65) x1 = some (v, hM (n + 65) o' c' (hK n ρ k' B')) := f3
    rw [if_pos h17, if_pos g1, g11, if_pos rfl, f1, bd2_some, if_pos g1, f2, if_pos rfl, f3, bd2_some, if_pos rfl]
  rw [if_neg h17]
  by_cases h18 : w = 18
  · obtain ⟨v, S1, o', c', tx', gx', k', B', f1, f2, f3, f4⟩ := on_both (Sim_fits x1 x2) hR
    refine ⟨o', c', tx', gx', k', B', f4, ?_⟩
    have f1 : f_X11_fits (hM (n + 65) o c (hK n ρ k B)) n x1 x2 = some (v, S1) := f1
    have f3 : f_X12_fits S1 (n + 65) x1 x2 = some (v, hM (n + 65) o' c' (hK n ρ k' B')) := f3
    rw [if_pos h18, if_pos g1, if_pos g2, g11, if_pos rfl, f1, bd2_some, if_pos g1, if_pos g2, f2, if_pos rfl, f3, bd2_some, if_pos rfl]
  rw [if_neg h18]
  by_cases h19 : w = 19
  · obtain ⟨v, S1, o', c', tx', gx', k', B', f1, f2, f3, f4⟩ := on_both (Sim_let x1) hR
    refine ⟨o', c', tx', gx', k', B', f4, ?_⟩
    have f1 : f_X11_let (hM (n + 65) o c (hK n ρ k B)) n x1 = some (v, S1) := f1
    have f3 : f_X12_let S1 (n + 65) x1 = some (v, hM (n + 65) o' c' (hK n ρ k' B')) := f3
    rw [if_pos h19, if_pos g1, g11, if_pos rfl, f1, bd2_some, if_pos g1, f2, if_pos rfl, f3, bd2_some, if_pos rfl]
  rw [if_neg h19]
  by_cases h20 : w = 20
  · obtain ⟨v, S1, o', c', tx', gx', k', B', f1, f2, f3, f4⟩ := on_both (Sim_fair x1 x2 x3 x4 x5) hR
    refine ⟨o', c', tx', gx', k', B', f4, ?_⟩
    have f1 : f_X11_fair (hM (n + 65) o c (hK n ρ k B)) n x1 x2 x3 x4 x5 = some (v, S1) := f1
    have f3 : f_X12_fair S1 (n + 65) x1 x2 x3 x4 x5 = some (v, hM (n + 65) o' c' (hK n ρ k' B')) := f3
    rw [if_pos h20, if_pos g1, if_pos g2, if_pos g3, if_pos g4, if_pos g5, g11, if_pos rfl, f1, bd2_some, if_pos g1, if_pos g2, if_pos g3, if_pos g4, if_pos g5, f2, if_pos rfl, f3, bd2_some, if_pos rfl]
  rw [if_neg h20]
  by_cases h21 : w = 21
  · obtain ⟨v, S1, o', c', tx', gx', k', B', f1, f2, f3, f4⟩ := on_both (Sim_excuses x1 x2 x3 x4) hR
    refine ⟨o', c', tx', gx', k', B', f4, ?_⟩
    have f1 : f_X11_excuses (hM (n + 65) o c (hK n ρ k B)) n x1 x2 x3 x4 = some (v, S1) := f1
    have f3 : f_X12_excuses S1 (n + 65) x1 x2 x3 x4 = some (v, hM (n + 65) o' c' (hK n ρ k' B')) := f3
    rw [if_pos h21, if_pos g1, if_pos g2, if_pos g3, if_pos g4, g11, if_pos rfl, f1, bd2_some, if_pos g1, if_pos g2, if_pos g3, if_pos g4, f2, if_pos rfl, f3, bd2_some, if_pos rfl]
  rw [if_neg h21]
  by_cases h22 : w = 22
  · obtain ⟨v, S1, o', c', tx', gx', k', B', f1, f2, f3, f4⟩ := on_both (Sim_field x1 x2 x3) hR
    refine ⟨o', c', tx', gx', k', B', f4, ?_⟩
    have f1 : f_X11_field (hM (n + 65) o c (hK n ρ k B)) n x1 x2 x3 = some (v, S1) := f1
    have f3 : f_X12_field S1 (n + 65) x1 x2 x3 = some (v, hM (n + 65) o' c' (hK n ρ k' B')) := f3
    rw [if_pos h22, if_pos g1, if_pos g2, if_pos g3, g11, if_pos rfl, f1, bd2_some, if_pos g1, if_pos g2, if_pos g3, f2, if_pos rfl, f3, bd2_some, if_pos (lg_self v)]
  rw [if_neg h22]
  by_cases h23 : w = 23
  · obtain ⟨v, S1, o', c', tx', gx', k', B', f1, f2, f3, f4⟩ := on_both (Sim_holes x1 x2) hR
    refine ⟨o', c', tx', gx', k', B', f4, ?_⟩
    have f1 : f_X11_holes (hM (n + 65) o c (hK n ρ k B)) n x1 x2 = some (v, S1) := f1
    have f3 : f_X12_holes S1 (n + 65) x1 x2 = some (v, hM (n + 65) o' c' (hK n ρ k' B')) := f3
    rw [if_pos h23, if_pos g1, if_pos g2, g11, if_pos rfl, f1, bd2_some, if_pos g1, if_pos g2, f2, if_pos rfl, f3, bd2_some, if_pos rfl]
  rw [if_neg h23]
  by_cases h24 : w = 24
  · obtain ⟨v, S1, o', c', tx', gx', k', B', f1, f2, f3, f4⟩ := on_both (Sim_rod x1 x2 x3) hR
    refine ⟨o', c', tx', gx', k', B', f4, ?_⟩
    have f1 : f_X11_rod (hM (n + 65) o c (hK n ρ k B)) n x1 x2 x3 = some (v, S1) := f1
    have f3 : f_X12_rod S1 (n + 65) x1 x2 x3 = some (v, hM (n + 65) o' c' (hK n ρ k' B')) := f3
    rw [if_pos h24, if_pos g1, if_pos g2, if_pos g3, g11, if_pos rfl, f1, bd2_some, if_pos g1, if_pos g2, if_pos g3, f2, if_pos rfl, f3, bd2_some, if_pos rfl]
  rw [if_neg h24]
  by_cases h25 : w = 25
  · obtain ⟨v, S1, o', c', tx', gx', k', B', f1, f2, f3, f4⟩ := on_both (Sim_papers x1 x2 x3) hR
    refine ⟨o', c', tx', gx', k', B', f4, ?_⟩
    have f1 : f_X11_papers (hM (n + 65) o c (hK n ρ k B)) n x1 x2 x3 = some (v, S1) := f1
    have f3 : f_X12_papers S1 (n + 65) x1 x2 x3 = some (v, hM (n + 65) o' c' (hK n ρ k' B')) := f3
    rw [if_pos h25, if_pos g1, if_pos g2, if_pos g3, g11, if_pos rfl, f1, bd2_some, if_pos g1, if_pos g2, if_pos g3, f2, if_pos rfl, f3, bd2_some, if_pos rfl]
  rw [if_neg h25]
  by_cases h26 : w = 26
  · obtain ⟨v, S1, o', c', tx', gx', k', B', f1, f2, f3, f4⟩ := on_both (Sim_act x1 x2 x3) hR
    refine ⟨o', c', tx', gx', k', B', f4, ?_⟩
    have f1 : f_X11_act (hM (n + 65) o c (hK n ρ k B)) n x1 x2 x3 = some (v, S1) := f1
    have f3 : f_X12_act S1 (n + 65) x1 x2 x3 = some (v, hM (n + 65) o' c' (hK n ρ k' B')) := f3
    rw [if_pos h26, if_pos g1, if_pos g2, if_pos g3, g11, if_pos rfl, f1, bd2_some, if_pos g1, if_pos g2, if_pos g3, f2, if_pos rfl, f3, bd2_some, if_pos rfl]
  rw [if_neg h26]
  by_cases h27 : w = 27
  · obtain ⟨v, S1, o', c', tx', gx', k', B', f1, f2, f3, f4⟩ := on_both (Sim_trace x1) hR
    refine ⟨o', c', tx', gx', k', B', f4, ?_⟩
    have f1 : f_X11_trace (hM (n + 65) o c (hK n ρ k B)) n x1 = some (v, S1) := f1
    have f3 : f_X12_trace S1 (n + 65) x1 = some (v, hM (n + 65) o' c' (hK n ρ k' B')) := f3
    rw [if_pos h27, if_pos g1, g11, if_pos rfl, f1, bd2_some, if_pos g1, f2, if_pos rfl, f3, bd2_some, if_pos rfl]
  rw [if_neg h27]
  by_cases h28 : w = 28
  · obtain ⟨v, S1, o', c', tx', gx', k', B', f1, f2, f3, f4⟩ := on_both (Sim_as x1 x2) hR
    refine ⟨o', c', tx', gx', k', B', f4, ?_⟩
    have f1 : f_X11_as ρ (hM (n + 65) o c (hK n ρ k B)) n x1 x2 = some (v, S1) := f1
    have f3 : f_X12_as S1 (n + 65) x1 x2 = some (v, hM (n + 65) o' c' (hK n ρ k' B')) := f3
    rw [if_pos h28, if_pos g1, if_pos g2, g11, if_pos rfl, f1, bd2_some, if_pos g1, if_pos g2, f2, if_pos rfl, f3, bd2_some, if_pos rfl]
  rw [if_neg h28]
  by_cases h29 : w = 29
  · obtain ⟨v, S1, o', c', tx', gx', k', B', f1, f2, f3, f4⟩ := on_both (Sim_image ) hR
    refine ⟨o', c', tx', gx', k', B', f4, ?_⟩
    have f1 : f_X11_image (hM (n + 65) o c (hK n ρ k B)) n  = some (v, S1) := f1
    have f3 : f_X12_image S1 (n + 65)  = some (v, hM (n + 65) o' c' (hK n ρ k' B')) := f3
    rw [if_pos h29, g11, if_pos rfl, f1, bd2_some, f2, if_pos rfl, f3, bd2_some, if_pos rfl]
  rw [if_neg h29]
  by_cases h30 : w = 30
  · obtain ⟨v, S1, o', c', tx', gx', k', B', f1, f2, f3, f4⟩ := on_both (Sim_undo ) hR
    refine ⟨o', c', tx', gx', k', B', f4, ?_⟩
    have f1 : f_X11_undo (hM (n + 65) o c (hK n ρ k B)) n  = some (v, S1) := f1
    have f3 : f_X12_undo S1 (n + 65)  = some (v, hM (n + 65) o' c' (hK n ρ k' B')) := f3
    rw [if_pos h30, g11, if_pos rfl, f1, bd2_some, f2, if_pos rfl, f3, bd2_some, if_pos rfl]
  rw [if_neg h30]
  by_cases h31 : w = 31
  · obtain ⟨v, S1, o', c', tx', gx', k', B', f1, f2, f3, f4⟩ := on_both (Sim_count x1) hR
    refine ⟨o', c', tx', gx', k', B', f4, ?_⟩
    have f1 : f_X11_count (hM (n + 65) o c (hK n ρ k B)) n x1 = some (v, S1) := f1
    have f3 : f_X12_count S1 (n + 65) x1 = some (v, hM (n + 65) o' c' (hK n ρ k' B')) := f3
    rw [if_pos h31, if_pos g1, g11, if_pos rfl, f1, bd2_some, if_pos g1, f2, if_pos rfl, f3, bd2_some, if_pos rfl]
  rw [if_neg h31]
  exact ⟨o, c, tx, gx, k, B, hR, rfl⟩
theorem script_loop {ρ : Nat → Nat} (hρ : rhoOk ρ) {n L : Nat} {S S3 : HSt} (hS : S.2 = n) (hS3 : S3.2 = n + 65) (xs : Nat → Int32) (hL : L ≤ 384) : ∀ (f i : Nat) (o : MO) (c : MC) (tx gx : Nat → List Cl) (k : KK) (B : HSt), i ≤ L → L < i + 6 * f → Rel n o tx gx k B → ∃ res, f_L_law_L18 ρ L S S3 xs f (nI i) (hM (n + 65) o c (hK n ρ k B)) = some res := by
  intro f
  induction f with
  | zero =>
    intro i o c tx gx k B h1 h2
    omega
  | succ f ih =>
    intro i o c tx gx k B h1 h2 hR
    rw [f_L_law_L18]
    by_cases h : i + 6 ≤ L
    · obtain ⟨o', c', tx', gx', k', B', r1, r2⟩ := law_step hρ hS hS3 xs hL h hR (f_L_law_L18 ρ L S S3 xs f)
      rw [r2]
      exact ih (i + 6) o' c' tx' gx' k' B' h (by omega) r1
    · unfold f_L_law_B18
      have e : nI L - 6 < nI i := by
        have : ∀ L, L < 385 → nI L - 6 = if 6 ≤ L then nI (L - 6) else -nI (6 - L) := by decide +kernel
        rw [this L (by omega)]
        by_cases h6 : 6 ≤ L
        · rw [if_pos h6]
          exact nI_lt (by omega) (by omega)
        · rw [if_neg h6]
          have : ∀ L, L < 6 → ∀ i, i < 6 → -nI (6 - L) < nI i := by decide +kernel
          exact this L (by omega) i (by omega)
      rw [if_pos e]
      exact ⟨_, rfl⟩
