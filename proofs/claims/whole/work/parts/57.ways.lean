/-! THE CLASS: in how many ways -/
def OW (x : XO) (w : Nat → Nat) (z al : Nat) : Prop := (∀ i, i < 10 → x.1 i = lN (w i)) ∧ x.2.1 = nI z ∧ x.2.2 = lN al ∧ ∀ i, z < i → w i = 0
section WAYS
variable {q : Nat} {x : XO} {B : HSt}
theorem J7_fill (x : XO) : ∃ x' : XO, f_J7_fill_d0a16 (hO q x B) (q + 1) 0 = some (hO q x' B) ∧ (∀ i, i < 10 → x'.1 i = 0) ∧ x'.2 = x.2 := by
  unfold f_J7_fill_d0a16
  have L : ∀ (d i f : Nat) (x : XO), i + d = 10 → d < f → (∀ j, j < i → x.1 j = 0) → ∃ x' : XO, f_J7_fill_d0a16_L6 (q + 1) 0 10 f_J7_fill_d0a16_K22 f (nI i) (hO q x B) = some (hO q x' B) ∧ (∀ i, i < 10 → x'.1 i = 0) ∧ x'.2 = x.2 := by
    intro d
    induction d with
    | zero =>
      intro i f x hi hf h
      obtain ⟨f, rfl⟩ : ∃ g, f = g + 1 := ⟨f - 1, by omega⟩
      refine ⟨x, ?_, fun j hj => h j (by omega), rfl⟩
      rw [f_J7_fill_d0a16_L6]
      unfold f_J7_fill_d0a16_B6
      rw [if_pos (show (10 : Int32) ≤ nI i from nI_le (a := 10) (by omega) (by omega))]
      rfl
    | succ d ih =>
      intro i f x hi hf h
      obtain ⟨f, rfl⟩ : ∃ g, f = g + 1 := ⟨f - 1, by omega⟩
      obtain ⟨x', k1, k2, k3⟩ := ih (i + 1) f (vp_updL x.1 i 0, x.2) (by omega) (by omega) (fun j hj => by
        show vp_updL x.1 i 0 j = 0
        by_cases hji : j = i
        · subst hji; rw [pk_uLs]
        · rw [pk_uLn hji]; exact h j (by omega))
      refine ⟨x', ?_, k2, k3⟩
      rw [f_J7_fill_d0a16_L6]
      unfold f_J7_fill_d0a16_B6
      rw [if_neg (show ¬ (10 : Int32) ≤ nI i from nI_ge (b := 10) (by omega) (by omega)), OS_1 q x B (k := i) rfl (by omega), ob, nI_1]
      exact k1
  obtain ⟨x', k1, k2, k3⟩ := L 10 0 FU x (by omega) (by show 10 < 100000; omega) (fun j hj => absurd hj (by omega))
  refine ⟨x', ?_, k2, k3⟩
  rw [ON_1, ob]
  exact k1
theorem X4_start (x : XO) : ∃ x' : XO, f_X4_start (hO q x B) q = some (hO q x' B) ∧ OW x' (fun i => if i = 0 then 1 else 0) 0 1 := by
  obtain ⟨x1, k1, k2, k3⟩ := J7_fill (q := q) (B := B) x
  refine ⟨(vp_updL x1.1 0 1, 0, 1), ?_, ⟨fun i hi => ?_, rfl, rfl, fun i hi => ?_⟩⟩
  · unfold f_X4_start
    rw [OR_0, ob, k1, ob, OR_0, ob, OS_1 q x1 B (i := 0) (k := 0) rfl (by omega), ob, OP_1, ob, OP_2, ob]
  · show vp_updL x1.1 0 1 i = _
    by_cases h : i = 0
    · subst h; rw [pk_uLs]; rfl
    · rw [pk_uLn h, k2 i hi]; simp [h]; rfl
  · simp; omega
theorem x4_succ (a0 : Nat) (u v : Int64) (K : HSt → Option HSt) (f : Nat) (i : Int32) (S : HSt) : f_X4_add_L33 a0 u v K (f + 1) i S = f_X4_add_B33 a0 u v K (f_X4_add_L33 a0 u v K f) i S := rfl
theorem X4_addL {P c : Nat} (hc : c ≤ P) (K : HSt → Option HSt) (w : Nat → Nat) (r : Int32 × Int64) : ∀ (k f : Nat) (y : Nat → Int64), k ≤ 9 → k < f → (∀ j, j ≤ k → y j = lN (w j)) → (∀ j, k < j → j < 10 → y j = lN (addW P c w j)) →
    ∃ y' : Nat → Int64, y' 0 = lN (w 0) ∧ (∀ j, 0 < j → j < 10 → y' j = lN (addW P c w j)) ∧ f_X4_add_L33 q (lN c) (lN P) K f (nI k) (hO q (y, r) B) = K (hO q (y', r) B) := by
  intro k
  induction k with
  | zero =>
    intro f y hk hf h1 h2
    obtain ⟨f, rfl⟩ : ∃ g, f = g + 1 := ⟨f - 1, by omega⟩
    refine ⟨y, h1 0 (Nat.le_refl _), fun j hj hj2 => h2 j hj hj2, ?_⟩
    rw [x4_succ]
    unfold f_X4_add_B33
    rw [if_pos (show nI 0 ≤ 0 by decide)]
  | succ k ih =>
    intro f y hk hf h1 h2
    obtain ⟨f, rfl⟩ : ∃ g, f = g + 1 := ⟨f - 1, by omega⟩
    obtain ⟨y', z1, z2, z3⟩ := ih f (vp_updL y (k + 1) (lN (addW P c w (k + 1)))) (by omega) (by omega) (fun j hj => by rw [pk_uLn (by omega)]; exact h1 j (by omega)) (fun j hj hj2 => by
      by_cases h : j = k + 1
      · subst h; rw [pk_uLs]
      · rw [pk_uLn h]; exact h2 j (by omega) hj2)
    refine ⟨y', z1, z2, ?_⟩
    rw [x4_succ]
    unfold f_X4_add_B33
    have ea : w (k + 1) * (P - c) + w k * c = addW P c w (k + 1) := by
      unfold addW
      rw [if_neg (by omega)]
      rfl
    rw [if_neg (nI_nle (by omega) (by omega)), OR_0, ob, ON_1, ob, if_neg (show ¬ (10 : Int32) ≤ nI (k + 1) from nI_ge (b := 10) (by omega) (by omega)), ob, ob, OA_1 q (y, r) B (k := k + 1) rfl (by omega), ob, ob, nI_pred, OA_1 q (y, r) B (k := k) rfl (by omega), ob, OS_1 q (y, r) B (k := k + 1) rfl (by omega), ob, pk_m1]
    have h3 : y (k + 1) = lN (w (k + 1)) := h1 (k + 1) (Nat.le_refl _)
    have h4 : y k = lN (w k) := h1 k (by omega)
    show f_X4_add_L33 q (lN c) (lN P) K f (nI k) (hO q (vp_updL y (k + 1) (y (k + 1) * (lN P - lN c) + y k * lN c), r) B) = _
    rw [h3, h4, lN_sub hc, lN_mul, lN_mul, lN_add, ea]
    exact z3
theorem X4_add {w : Nat → Nat} {z al : Nat} (h : OW x w z al) (hz : z < 9) {P c : Nat} (hc : c ≤ P) : ∃ x' : XO, f_X4_add (hO q x B) q (lN c) (lN P) = some (hO q x' B) ∧ OW x' (addW P c w) (z + 1) (al * P) := by
  obtain ⟨h1, h2, h3, h4⟩ := h
  obtain ⟨y', z1, z2, z3⟩ := X4_addL (q := q) (B := B) hc (f_X4_add_K84 q (lN c) (lN P)) w (nI (z + 1), x.2.2) (z + 1) FU x.1 (by omega) (by show _ < 100000; omega) (fun j hj => h1 j (by omega)) (fun j hj hj2 => by
    rw [h1 j hj2]
    unfold addW
    rw [h4 j (by omega), h4 (j - 1) (by omega)]
    simp)
  refine ⟨(vp_updL y' 0 (lN (addW P c w 0)), nI (z + 1), lN (al * P)), ?_, ⟨fun i hi => ?_, rfl, rfl, fun i hi => ?_⟩⟩
  · unfold f_X4_add
    rw [OI_1, ob, h2, if_neg (nI_pos (by omega)), ob, if_pos (show nI z < 9 from nI_lt (b := 9) hz (by omega)), ob, OP_1, ob, OI_1, ob, nI_1]
    show f_X4_add_L33 q (lN c) (lN P) (f_X4_add_K84 q (lN c) (lN P)) FU (nI (z + 1)) (hO q (x.1, nI (z + 1), x.2.2) B) = _
    rw [z3]
    unfold f_X4_add_K84
    rw [OR_0, ob, OA_1 q _ B (i := 0) (k := 0) rfl (by omega), ob, OS_1 q _ B (i := 0) (k := 0) rfl (by omega), ob, OL_2, ob, OP_2, ob]
    show some (hO q (vp_updL y' 0 (y' 0 * (lN P - lN c)), nI (z + 1), x.2.2 * lN P) B) = _
    have e0 : addW P c w 0 = w 0 * (P - c) := by simp [addW]
    rw [z1, lN_sub hc, lN_mul, h3, lN_mul, e0]
  · show vp_updL y' 0 _ i = _
    by_cases hi0 : i = 0
    · subst hi0; rw [pk_uLs]
    · rw [pk_uLn hi0]; exact z2 i (by omega) hi
  · unfold addW
    rw [h4 i (by omega), h4 (i - 1) (by omega)]
    simp
theorem X4_exactly {w : Nat → Nat} {z al : Nat} (h : OW x w z al) (hz : z ≤ 9) {k : Nat} (hk : k < 2 ^ 20) : f_X4_exactly (hO q x B) q (nI k) = some (lN (w k), hO q x B) := by
  obtain ⟨h1, h2, h3, h4⟩ := h
  unfold f_X4_exactly
  rw [if_neg (nI_pos (by omega)), OI_1, ob, h2]
  by_cases hc : z < k
  · rw [if_pos (nI_lt hc (by omega)), h4 k hc]; rfl
  · rw [if_neg (nI_nlt (by omega) (by omega)), OR_0, ob, ON_1, ob, if_neg (show ¬ (10 : Int32) ≤ nI k from nI_ge (b := 10) (by omega) (by omega)), ob, OA_1 q x B (k := k) rfl (by omega), ob, h1 k (by omega)]
theorem sm_cut {w : Nat → Nat} {z : Nat} (h : ∀ i, z < i → w i = 0) : ∀ k, z < k → smN w k = smN w (z + 1) := by
  intro k
  induction k with
  | zero => intro q; omega
  | succ k ih =>
    intro q
    by_cases hk : z < k
    · rw [smN_S, h k hk, Nat.add_zero, ih hk]
    · rw [show k = z by omega]
theorem X4_fewer {w : Nat → Nat} {z al : Nat} (h : OW x w z al) (hz : z ≤ 9) {k : Nat} (hk : k < 2 ^ 20) : f_X4_fewer (hO q x B) q (nI k) = some (lN (smN w k), hO q x B) := by
  unfold f_X4_fewer
  have L : ∀ (d i f : Nat), i + d = min k (z + 1) → d < f → f_X4_fewer_L5 q (nI k) f_X4_fewer_K35 f (lN (smN w i)) (nI i) (hO q x B) = some (lN (smN w k), hO q x B) := by
    intro d
    induction d with
    | zero =>
      intro i f hi hf
      obtain ⟨f, rfl⟩ : ∃ g, f = g + 1 := ⟨f - 1, by omega⟩
      rw [f_X4_fewer_L5]
      unfold f_X4_fewer_B5
      by_cases hc : k ≤ i
      · rw [if_pos (nI_le hc (by omega)), show i = k by omega]; rfl
      · rw [if_neg (nI_ge (by omega) (by omega)), OI_1, ob, h.2.1, if_pos (nI_lt (by omega) (by omega)), sm_cut h.2.2.2 k (by omega), show i = z + 1 by omega]; rfl
    | succ d ih =>
      intro i f hi hf
      obtain ⟨f, rfl⟩ : ∃ g, f = g + 1 := ⟨f - 1, by omega⟩
      rw [f_X4_fewer_L5]
      unfold f_X4_fewer_B5
      rw [if_neg (nI_ge (by omega) (by omega)), OI_1, ob, h.2.1, if_neg (nI_nlt (by omega) (by omega)), hO_C, if_pos rfl, X4_exactly h hz (by omega), bd2_some, lN_add, nI_1]
      exact ih (i + 1) f (by omega) (by omega)
  exact L (min k (z + 1)) 0 FU (by omega) (by show _ < 100000; omega)
theorem X4_orMore {w : Nat → Nat} {z al : Nat} (h : OW x w z al) (hz : z ≤ 9) {k : Nat} (hk : k < 2 ^ 20) (hle : smN w k ≤ al) : f_X4_orMore (hO q x B) q (nI k) = some (lN (al - smN w k), hO q x B) := by
  unfold f_X4_orMore
  rw [OL_2, ob, hO_C, if_pos rfl, X4_fewer h hz hk, bd2_some, h.2.2.1, lN_sub hle]
end WAYS
theorem wy_zero (s : Nat → Int32) (set : Int32) (hit : Nat) : ∀ t k, cnN set t < k → wyN s set hit t k = 0 := by
  intro t
  induction t with
  | zero =>
    intro k hk
    have : k ≠ 0 := by omega
    simp [wyN, this]
  | succ t ih =>
    intro k hk
    rw [cnN_succ] at hk
    by_cases hb : bt set t = true
    · rw [if_pos hb] at hk
      simp only [wyN, hb, if_true, addW]
      rw [ih k (by omega), ih (k - 1) (by omega)]
      simp
    · rw [if_neg hb] at hk
      simp only [wyN, hb]
      exact ih k (by omega)
section CLS3
variable {n : Nat} {ρ : Nat → Nat} {s : Nat → Int32} {k : KK} {B : HSt} {tx : Nat → List Cl}
theorem OWc {x : XO} {w w' : Nat → Nat} {z z' al al' : Nat} (h : OW x w z al) (e1 : ∀ i, w i = w' i) (e2 : z = z') (e3 : al = al') : OW x w' z' al' := by
  subst e2 e3
  exact ⟨fun i hi => by rw [h.1 i hi, e1], h.2.1, h.2.2.1, fun i hi => by rw [← e1, h.2.2.2 i hi]⟩
theorem X11_setOdds (hs : sOk s) (hk : KR n s k B) {set : Int32} (hc : cnN set (sN s 1) ≤ 9) {hit : Nat} (hh : hit < 2 ^ 20) : ∃ x : XO, f_X11_setOdds (hK n ρ k B) n set (nI hit) = some (hK n ρ (kuOd k x) B) ∧ OW x (wyN s set hit (sN s 1)) (cnN set (sN s 1)) (alN s set (sN s 1)) := by
  have hn : sN s 1 ≤ 30 := hs.2.2.1
  have hp := hs.2.1
  have e1 : k.1 2 = nI (sN s 1) := hk.2.1.trans (hs.1 1 (by omega))
  have e0 : k.1 0 = nI (sN s 0) := hk.1.trans (hs.1 0 (by omega))
  obtain ⟨x0, s1, s2⟩ := X4_start (q := n + 6) (B := hK n ρ k B) (kOd k)
  rw [hK_od, hK_od] at s1
  rw [show kuOd k (kOd k) = k from rfl] at s1
  have L : ∀ (d i f : Nat) (x : XO), i + d = sN s 1 → d < f → OW x (wyN s set hit i) (cnN set i) (alN s set i) → ∃ x' : XO, f_X11_setOdds_L9 n set (nI hit) f_X11_setOdds_K67 f (nI i) (hK n ρ (kuOd k x) B) = some (hK n ρ (kuOd k x') B) ∧ OW x' (wyN s set hit (sN s 1)) (cnN set (sN s 1)) (alN s set (sN s 1)) := by
    intro d
    induction d with
    | zero =>
      intro i f x hi hf hx
      obtain ⟨f, rfl⟩ : ∃ g, f = g + 1 := ⟨f - 1, by omega⟩
      have : i = sN s 1 := by omega
      subst this
      refine ⟨x, ?_, hx⟩
      rw [f_X11_setOdds_L9]
      unfold f_X11_setOdds_B9
      rw [KI_2, ob, e1, if_pos (nI_le (by omega) (by omega))]
      rfl
    | succ d ih =>
      intro i f x hi hf hx
      obtain ⟨f, rfl⟩ : ∃ g, f = g + 1 := ⟨f - 1, by omega⟩
      obtain ⟨a, ha, hT⟩ := hk.2.2.2.2 i (by omega)
      obtain ⟨-, -, -, -, -, -, g1, g2, g3, g4, g5, g6⟩ := hs.2.2.2.2.2.2 i (by omega)
      have hk2 : KR n s (kuOd k x) B := hk
      have head : ∀ Z, f_X11_setOdds_L9 n set (nI hit) f_X11_setOdds_K67 (f + 1) (nI i) (hK n ρ (kuOd k x) B) = Z ↔ (if ((set >>> (nI i &&& 31)) &&& 1) = 1 then ((f_X4_add (hK n ρ (kuOd k x) B) (n + 6) (lN (pbN s (tSaid s i) hit)) (lN (sN s 0))).bind fun S30 => f_X11_setOdds_L9 n set (nI hit) f_X11_setOdds_K67 f (nI (i + 1)) S30) else (f_X11_setOdds_L9 n set (nI hit) f_X11_setOdds_K67 f (nI (i + 1)) (hK n ρ (kuOd k x) B))) = Z := fun Z => by
        have hpb := pbN_le s (tSaid s i) hit
        have hgc : gC (hK n ρ (kuOd k x) B) (n + 6) = some 4 := by
          have e := hO_C (n + 6) x (hK n ρ (kuOd k x) B)
          rw [← hK_od0 n ρ (kuOd k x) B] at e
          exact e
        rw [f_X11_setOdds_L9]
        unfold f_X11_setOdds_B9
        rw [KI_2, ob, e1, if_neg (nI_ge (by omega) (by omega)), hK_C, if_pos rfl, X11_tryN hs hk2 (show i < sN s 1 by omega) ha, bd2_some, oC_some, nI_1, KR_8, ob, tyI_6 hT, ob, hK_C, if_pos rfl, X11_placesWithin hs hk2 g5 hh, bd2_some, KI_0, ob, hgc, if_pos rfl, show (kuOd k x).1 0 = nI (sN s 0) from e0, nI_l (by omega), nI_l (by omega)]
      by_cases hb : bt set i = true
      · have hcn : cnN set (i + 1) ≤ 9 := Nat.le_trans (cnN_mono set (by omega)) hc
        rw [cnN_succ, if_pos hb] at hcn
        obtain ⟨x2, y1, y2⟩ := X4_add (q := n + 6) (B := hK n ρ (kuOd k x) B) hx (by omega) (pbN_le s (tSaid s i) hit)
        rw [hK_od, hK_od] at y1
        obtain ⟨x3, w1, w2⟩ := ih (i + 1) f x2 (by omega) (by omega) (OWc y2 (fun j => by simp [wyN, hb]) (by rw [cnN_succ, if_pos hb]) (by simp [alN, hb]))
        refine ⟨x3, (head _).mpr ?_, w2⟩
        rw [if_pos ((b_ask1 set (by omega)).mpr hb)]
        have y1' : f_X4_add (hK n ρ (kuOd k x) B) (n + 6) (lN (pbN s (tSaid s i) hit)) (lN (sN s 0)) = some (hK n ρ (kuOd k x2) B) := y1
        rw [y1', ob, w1]
      · obtain ⟨x3, w1, w2⟩ := ih (i + 1) f x (by omega) (by omega) (OWc hx (fun j => by simp [wyN, hb]) (by rw [cnN_succ, if_neg hb, Nat.add_zero]) (by simp [alN, hb]))
        refine ⟨x3, (head _).mpr ?_, w2⟩
        rw [if_neg (fun q => hb ((b_ask1 set (by omega)).mp q)), w1]
  obtain ⟨x', w1, w2⟩ := L (sN s 1) 0 FU x0 (by omega) (by show _ < 100000; omega) (OWc s2 (fun j => rfl) rfl rfl)
  refine ⟨x', ?_, w2⟩
  have hgc : gC (hK n ρ k B) (n + 6) = some 4 := by
    have e := hO_C (n + 6) (kOd k) (hK n ρ k B)
    rw [← hK_od0 n ρ k B] at e
    exact e
  unfold f_X11_setOdds
  rw [KR_8, ob, hgc, if_pos rfl, s1, ob]
  exact w1
end CLS3
