/-! THE CLASS READS: tests, factors, expressions -/
theorem orI (a b : Nat) : nI a ||| nI b = nI (a ||| b) := by
  apply Int32.toBitVec_inj.mp
  rw [Int32.toBitVec_or]
  show BitVec.ofNat 32 a ||| BitVec.ofNat 32 b = BitVec.ofNat 32 (a ||| b)
  apply BitVec.eq_of_getLsbD_eq
  intro i hi
  simp [hi]
theorem tok_or {ch h v : Nat} (hc : ch < 128) (hh : h < 4) (hv : v < 128) : ((nI ch <<< (9 &&& 31)) ||| (nI h <<< (7 &&& 31))) ||| nI v = nI (ch * 512 + h * 128 + v) := by
  rw [pk_shlN (9 &&& 31) 9 (by decide) (by omega), pk_shlN (7 &&& 31) 7 (by decide) (by omega), orI, orI]
  have e1 : ch * 2 ^ 9 ||| h * 2 ^ 7 = ch * 512 + h * 128 := by
    have := Nat.two_pow_add_eq_or_of_lt (i := 9) (show h * 2 ^ 7 < 2 ^ 9 by omega) ch
    rw [Nat.mul_comm ch, ← this]
  have e2 : (ch * 512 + h * 128) ||| v = ch * 512 + h * 128 + v := by
    have := Nat.two_pow_add_eq_or_of_lt (i := 7) (show v < 2 ^ 7 by omega) (ch * 4 + h)
    rw [show ch * 512 + h * 128 = 2 ^ 7 * (ch * 4 + h) by omega, ← this]
  rw [e1, e2]
theorem let_same : ∀ c, c < 257 → (idxN 0 c 5 0).isSome = (idxN 14 c 5 0).isSome := by decide +kernel
theorem chN_chr : ∀ (law : Bool) (w : Nat), w < (if law then 5 else 7) → chN law w = chrN (ltI law) w := by
  have h : ∀ w, w < 7 → chN false w = chrN 1 w := by decide +kernel
  have h2 : ∀ w, w < 5 → chN true w = chrN 14 w := by decide +kernel
  intro law w hw
  cases law
  · exact h w hw
  · exact h2 w hw
theorem cAt_257 {T : Nat → Nat} {E : Nat} (hT : ∀ i, i < E → T i < 256) (p : Nat) : cAt T E p < 257 := by
  unfold cAt
  split
  · rename_i h
    have := hT p h
    omega
  · omega
section CFAC
variable {n : Nat} {ρ : Nat → Nat} {k : KK} {j : Nat} {b : Nat → Int32} {E : Nat} {B : HSt} {T : Nat → Nat} {kk : Nat} {law : Bool}
/-- where the class looks letters up -/
def ltC (law : Bool) : Nat := if law then 0 else 1
theorem C_idx (hρ : rhoOk ρ) (S : HSt) (hT : ∀ i, i < E → T i < 256) {p : Nat} (hp : p < E) : ∃ v : Int32, f_J0_indexOf_0f7a4 ρ S (ρ (ltC law)) ((Int32.toUInt32 (lkI T E p) % 65536).toInt32) = some (v, S) ∧ ((0 ≤ v) ↔ (idxN (ltI law) (cAt T E p) (lenN (ltI law)) 0).isSome = true) := by
  have hTp := hT p hp
  have e : lkI T E p = nI (cAt T E p) := by unfold lkI cAt; rw [if_pos hp, if_pos hp]
  have hc : cAt T E p < 256 := by unfold cAt; rw [if_pos hp]; exact hTp
  have ix : ∀ x : Option Nat, (∀ z, x = some z → z < 100) → ((0 ≤ ixI x) ↔ x.isSome = true) := fun x hx => by
    cases x with
    | none => exact ⟨fun q => absurd q (by decide), fun q => by cases q⟩
    | some z => exact ⟨fun _ => rfl, fun _ => nI_pos' (by have := hx z rfl; omega)⟩
  refine ⟨_, by rw [e, cu_tab _ hc]; exact J_idx hρ S (i := ltC law) (by cases law <;> decide) (by cases law <;> decide) hc, ?_⟩
  rw [ix _ (fun z hz => by have := (idxN_lt _ _ _ hz).2.1; have h7 := len_tab (ltC law) (by cases law <;> decide); omega)]
  cases law
  · exact Iff.rfl
  · show (idxN 0 (cAt T E p) 5 0).isSome = true ↔ (idxN 14 (cAt T E p) 5 0).isSome = true
    rw [let_same _ (by omega)]
theorem C_test (hρ : rhoOk ρ) (hj : j < 10) (hlet : tLet ρ j = ρ (ltC law)) (hE : E ≤ 120) (hb : ∀ i, i < E → b i &&& 255 = nI (T i)) (hT : ∀ i, i < E → T i < 256) (hkk : kk < 8) {p c : Nat} (hp : p ≤ E) {y : XT} (h6 : y.1 6 = nI c) (h7 : y.1 7 = nI (kk + 1)) (hc : c ≤ p) : f_X6_readTest ρ (CS n ρ k j b E B p y) (n + 2) (txA n j) = some (bI (pTest T E law p).1, CS n ρ k j b E B (pTest T E law p).2.1 (putL kk ((pTest T E law p).2.2.map (encC law)) c y)) := by
  unfold f_X6_readTest pTest
  rw [C_gC, if_pos rfl, C_look hE hb p hp, bd2_some]
  by_cases hpE : p < E
  · have hlk : lkI T E p = nI (T p) := if_pos hpE
    have hcp : cAt T E p = T p := if_pos hpE
    have hTp := hT p hpE
    obtain ⟨v, v1, v2⟩ := C_idx (law := law) hρ (CS n ρ k j b E B p y) hT hpE
    rw [if_neg (show ¬ lkI T E p = -1 by rw [hlk]; exact nI_m1 (by omega)), C_let hj, ob, hlet, if_pos (sXs_ρ hρ (by cases law <;> decide)), v1, bd2_some]
    cases hw : idxN (ltI law) (cAt T E p) (lenN (ltI law)) 0 with
    | none =>
      rw [hw] at v2
      rw [if_neg (fun q => by have := v2.mp q; cases this)]
      rfl
    | some w =>
      rw [hw] at v2
      obtain ⟨-, w1, w2⟩ := idxN_lt _ _ _ hw
      rw [lenI] at w1
      have w1' : w < (if law then 5 else 7) := by omega
      have hch : chN law w = T p := by rw [chN_chr law w w1', w2, hcp]
      have hch2 := chN_lt law w (by cases law <;> simp at w1' <;> omega)
      rw [if_pos (v2.mpr rfl), C_at, ob, nI_1, C_set, ob, C_gC, if_pos rfl, C_look hE hb (p + 1) hpE, bd2_some]
      have J1 : ∀ (q : Nat), f_X6_readTest_J56 (n + 2) (txA n j) (lkI T E p) (-1) (CS n ρ k j b E B q y) = some (0, CS n ρ k j b E B q y) := fun q => by
        unfold f_X6_readTest_J56
        rw [if_neg (by decide)]
      by_cases hp1 : p + 1 < E
      · have hlk1 : lkI T E (p + 1) = nI (T (p + 1)) := if_pos hp1
        have hcp1 : cAt T E (p + 1) = T (p + 1) := if_pos hp1
        have hTp1 := hT (p + 1) hp1
        have e12 := J_idx hρ (CS n ρ k j b E B (p + 1) y) (i := 12) (by omega) (by decide) (show cAt T E (p + 1) < 256 by omega)
        rw [if_neg (show ¬ lkI T E (p + 1) = -1 by rw [hlk1]; exact nI_m1 (by omega)), C_gC, if_pos rfl, C_look hE hb (p + 1) hpE, bd2_some, if_pos (sXs_ρ hρ (by omega)), show lkI T E (p + 1) = nI (cAt T E (p + 1)) by rw [hlk1, hcp1], cu_tab _ (show cAt T E (p + 1) < 256 by omega), e12, bd2_some, show lenN 12 = 3 from rfl]
        cases hh : idxN 12 (cAt T E (p + 1)) 3 0 with
        | none =>
          show f_X6_readTest_J56 (n + 2) (txA n j) (lkI T E p) (-1) (CS n ρ k j b E B (p + 1) y) = _
          rw [J1]
          simp only [hh]
          rfl
        | some h =>
          obtain ⟨-, u1, u2⟩ := idxN_lt _ _ _ hh
          show f_X6_readTest_J56 (n + 2) (txA n j) (lkI T E p) (nI h) (CS n ρ k j b E B (p + 1) y) = _
          unfold f_X6_readTest_J56
          rw [if_pos (nI_pos' (by omega)), C_at, ob, nI_1, C_set, ob, C_gC, if_pos rfl, C_number hE hb hT (p + 1 + 1) hp1 y]
          simp only [hh]
          cases hz : pNum T E (p + 1 + 1) with
          | none =>
            have hz' : pNum T E (p + 2) = none := hz
            simp only [hz']
            rw [bd2_some, if_neg (by decide)]
            rfl
          | some z =>
            have hz' : pNum T E (p + 2) = some z := hz
            obtain ⟨z1, z2, z3⟩ := pNum_ok hz
            simp only [hz']
            rw [bd2_some, if_pos (nI_pos' (by omega)), C_gCt hj, if_pos rfl, hlk, ← hch, tok_or (by omega) (by omega) (by omega), C_put hj z.2 h6 (by omega) h7 hkk, ob]
            rfl
      · have hlk1 : lkI T E (p + 1) = -1 := if_neg hp1
        have hcp1 : cAt T E (p + 1) = 256 := if_neg hp1
        rw [if_pos hlk1, J1]
        have hno : idxN 12 (cAt T E (p + 1)) 3 0 = none := by rw [hcp1]; decide
        simp only [hno]
        rfl
  · have hlk : lkI T E p = -1 := if_neg hpE
    have hcp : cAt T E p = 256 := if_neg hpE
    rw [if_pos hlk]
    have hno : idxN (ltI law) (cAt T E p) (lenN (ltI law)) 0 = none := by rw [hcp]; cases law <;> decide
    simp only [hno]
    rfl
/-- a reader of the class does what f says -/
def CRd (n : Nat) (ρ : Nat → Nat) (k : KK) (j : Nat) (b : Nat → Int32) (E : Nat) (B : HSt) (kk : Nat) (law : Bool) (d : Nat) (rf : HSt → Nat → Nat → Int32 → Option (Int32 × HSt)) (f : Nat → PR) : Prop :=
  ∀ (y : XT) (p c : Nat), p ≤ E → y.1 6 = nI c → y.1 7 = nI (kk + 1) → c ≤ p → rf (CS n ρ k j b E B p y) (n + 2) (txA n j) (nI d) = some (bI (f p).1, CS n ρ k j b E B (f p).2.1 (putL kk ((f p).2.2.map (encC law)) c y))
section CLOOP
variable (hj : j < 10) (hE : E ≤ 120) (hb : ∀ i, i < E → b i &&& 255 = nI (T i)) (hT : ∀ i, i < E → T i < 256) (hkk : kk < 8)
theorem C_and (hj : j < 10) (hE : E ≤ 120) (hb : ∀ i, i < E → b i &&& 255 = nI (T i)) (hT : ∀ i, i < E → T i < 256) (hkk : kk < 8) {d N : Nat} {rf : HSt → Nat → Nat → Int32 → Option (Int32 × HSt)} {f : Nat → PR} (hrf : CRd n ρ k j b E B kk law d rf f) (hf : ∀ q, q ≤ E → Gd E law q (N + 1) (f q)) {y : XT} {p c : Nat} (h6 : y.1 6 = nI c) (h7 : y.1 7 = nI (kk + 1)) (hc : c ≤ p) (K : HSt → Option (Int32 × HSt)) : ∀ (m g left : Nat) (r : PR), r.1 = true → Gd E law p N r → E < m + r.2.1 → m < g → 120 ≤ left + r.2.1 → left ≤ 120 → f_X6_readE_L23 (n + 2) (txA n j) (nI d) rf K g (nI left) (CS n ρ k j b E B r.2.1 (putL kk (r.2.2.map (encC law)) c y)) = if (seqL T E f 38 (.inr (some false)) m r).1 = true then K (CS n ρ k j b E B (seqL T E f 38 (.inr (some false)) m r).2.1 (putL kk ((seqL T E f 38 (.inr (some false)) m r).2.2.map (encC law)) c y)) else some (0, CS n ρ k j b E B (seqL T E f 38 (.inr (some false)) m r).2.1 (putL kk ((seqL T E f 38 (.inr (some false)) m r).2.2.map (encC law)) c y)) := by
  intro m
  induction m with
  | zero =>
    intro g left r hr hg2 hn hg _ _
    exact absurd hg2.2.1 (by omega)
  | succ m ih =>
    intro g left r hr hg2 hn hg hl hl2
    obtain ⟨g, rfl⟩ : ∃ e, g = e + 1 := ⟨g - 1, by omega⟩
    have hg2' := hg2
    obtain ⟨r1, r2, r3, r4⟩ := hg2
    obtain ⟨o6, oo, -⟩ := putL_ok kk (r.2.2.map (encC law)) c y h6
    have o7 : (putL kk (r.2.2.map (encC law)) c y).1 7 = nI (kk + 1) := (oo 7 (by omega)).trans h7
    rw [List.length_map] at o6
    rw [f_X6_readE_L23]
    unfold f_X6_readE_B23
    by_cases hch : cAt T E r.2.1 = 38
    · have hp1 : r.2.1 < E := cAt_lt hch (by omega)
      obtain ⟨g1, g2, g3, g4⟩ := hf (r.2.1 + 1) hp1
      have e1 := hrf (putL kk (r.2.2.map (encC law)) c y) (r.2.1 + 1) (c + r.2.2.length) hp1 o6 o7 (by omega)
      have hR := seq_Gd (T := T) (ch := 38) (b := false) (by omega) hf 1 r p hg2'
      have hseq1 : ∀ m, seqL T E f 38 (.inr (some false)) (m + 1) r = seqL T E f 38 (.inr (some false)) m ((f (r.2.1 + 1)).1, (f (r.2.1 + 1)).2.1, r.2.2 ++ ((f (r.2.1 + 1)).2.2 ++ if (f (r.2.1 + 1)).1 = true then [(Sum.inr (some false) : Tk)] else [])) := fun m => by
        rw [seqL, if_pos ⟨hr, hch⟩]
      rw [hseq1 0, seqL] at hR
      rw [hseq1 m, if_neg (nI_nle (show 0 < left by omega) (by omega)), C_gC, if_pos rfl, C_look hE hb _ r2, bd2_some, if_pos (show lkI T E r.2.1 = 38 from (lk_eq (ch := 38) hT (by omega)).mpr hch), C_at, ob, nI_1, C_set, ob, C_gC, if_pos rfl, e1, bd2_some, bI_if]
      cases hb1 : (f (r.2.1 + 1)).1
      · rw [seqL_stop (fun q => by cases q.1)]
        simp only [if_neg (show ¬ false = true by decide), List.append_nil, List.map_append]
        rw [putL_app, List.length_map]
      · rw [hb1] at hR
        have ih1 := ih g (left - 1) _ rfl hR (by show E < m + (f (r.2.1 + 1)).2.1; omega) (by omega) (by show 120 ≤ left - 1 + (f (r.2.1 + 1)).2.1; omega) (by omega)
        rw [← ih1]
        obtain ⟨u6, uu, -⟩ := putL_ok kk ((f (r.2.1 + 1)).2.2.map (encC law)) (c + r.2.2.length) (putL kk (r.2.2.map (encC law)) c y) o6
        have u7 := (uu 7 (by omega)).trans o7
        simp only [if_true, List.map_append]
        rw [C_gCt hj, if_pos rfl, C_put hj _ u6 (by rw [List.length_map]; omega) u7 hkk, ob, putL_app, putL_app, show nI left + (-1) = nI (left - 1) by rw [show left = (left - 1) + 1 by omega, pk_m1]; rfl]
        simp only [List.length_map]
        rfl
    · have hst : ¬ (r.1 = true ∧ cAt T E r.2.1 = 38) := fun q => hch q.2
      rw [seqL_stop hst, if_pos hr]
      by_cases hl0 : left = 0
      · rw [if_pos (show nI left ≤ 0 by rw [hl0]; decide)]
      · rw [if_neg (nI_nle (by omega) (by omega)), C_gC, if_pos rfl, C_look hE hb _ r2, bd2_some, if_neg (show ¬ lkI T E r.2.1 = 38 from fun q => hch ((lk_eq (ch := 38) hT (by omega)).mp q))]
theorem C_or (hj : j < 10) (hE : E ≤ 120) (hb : ∀ i, i < E → b i &&& 255 = nI (T i)) (hT : ∀ i, i < E → T i < 256) (hkk : kk < 8) {d N : Nat} {rf : HSt → Nat → Nat → Int32 → Option (Int32 × HSt)} {f : Nat → PR} (hrf : CRd n ρ k j b E B kk law d rf f) (hf : ∀ q, q ≤ E → Gd E law q (N + 2) (f q)) {y : XT} {p c : Nat} (h6 : y.1 6 = nI c) (h7 : y.1 7 = nI (kk + 1)) (hc : c ≤ p) : ∀ (m g t : Nat) (r : PR), r.1 = true → Gd E law p N r → E < m + r.2.1 → m < g → t ≤ r.2.1 → 1 ≤ t → f_X6_readE_J80 (n + 2) (f_X6_readE_L2 (n + 2) (txA n j) (nI d) rf f_X6_readE_K107 g) (nI t) (CS n ρ k j b E B r.2.1 (putL kk (r.2.2.map (encC law)) c y)) = some (bI (seqL T E (pT T E f) 124 (.inr (some true)) m r).1, CS n ρ k j b E B (seqL T E (pT T E f) 124 (.inr (some true)) m r).2.1 (putL kk ((seqL T E (pT T E f) 124 (.inr (some true)) m r).2.2.map (encC law)) c y)) := by
  have hf2 := fun q hq => pT_Gd (T := T) (law := law) (N := N + 1) hf q hq
  intro m
  induction m with
  | zero =>
    intro g t r hr hg2 hn hg _ _
    exact absurd hg2.2.1 (by omega)
  | succ m ih =>
    intro g t r hr hg2 hn hg ht ht1
    obtain ⟨g, rfl⟩ : ∃ e, g = e + 1 := ⟨g - 1, by omega⟩
    have hg2' := hg2
    obtain ⟨r1, r2, r3, r4⟩ := hg2
    obtain ⟨o6, oo, -⟩ := putL_ok kk (r.2.2.map (encC law)) c y h6
    have o7 : (putL kk (r.2.2.map (encC law)) c y).1 7 = nI (kk + 1) := (oo 7 (by omega)).trans h7
    rw [List.length_map] at o6
    unfold f_X6_readE_J80
    rw [C_gC, if_pos rfl, C_look hE hb _ r2, bd2_some]
    by_cases hch : cAt T E r.2.1 = 124
    · have hp1 : r.2.1 < E := cAt_lt hch (by omega)
      obtain ⟨g1, g2, g3, g4⟩ := hf2 (r.2.1 + 1) hp1
      obtain ⟨f1, f2, f3, f4⟩ := hf (r.2.1 + 1) hp1
      have e1 := hrf (putL kk (r.2.2.map (encC law)) c y) (r.2.1 + 1) (c + r.2.2.length) hp1 o6 o7 (by omega)
      have hR := seq_Gd (T := T) (ch := 124) (b := true) (by omega) hf2 1 r p hg2'
      have hseq1 : ∀ m, seqL T E (pT T E f) 124 (.inr (some true)) (m + 1) r = seqL T E (pT T E f) 124 (.inr (some true)) m ((pT T E f (r.2.1 + 1)).1, (pT T E f (r.2.1 + 1)).2.1, r.2.2 ++ ((pT T E f (r.2.1 + 1)).2.2 ++ if (pT T E f (r.2.1 + 1)).1 = true then [(Sum.inr (some true) : Tk)] else [])) := fun m => by
        rw [seqL, if_pos ⟨hr, hch⟩]
      rw [hseq1 0, seqL] at hR
      rw [hseq1 m, if_pos (show lkI T E r.2.1 = 124 from (lk_eq (ch := 124) hT (by omega)).mpr hch), C_at, ob, nI_1, C_set, ob, nI_1, f_X6_readE_L2]
      unfold f_X6_readE_B2
      rw [if_neg (show ¬ (120 : Int32) < nI (t + 1) from nI_nlt (b := t + 1) (a := 120) (by omega) (by omega)), C_gC, if_pos rfl, e1, bd2_some, bI_if]
      cases hb1 : (f (r.2.1 + 1)).1
      · have ep : pT T E f (r.2.1 + 1) = f (r.2.1 + 1) := seqL_stop (fun q => by rw [hb1] at q; cases q.1)
        rw [ep, hb1, seqL_stop (fun q => by cases q.1)]
        simp only [if_neg (show ¬ false = true by decide), List.append_nil, List.map_append]
        rw [putL_app, List.length_map]
        rfl
      · have ea := C_and (N := N + 1) hj hE hb hT hkk hrf hf o6 o7 (show c + r.2.2.length ≤ r.2.1 + 1 by omega) (f_X6_readE_K69 (n + 2) (txA n j) (f_X6_readE_L2 (n + 2) (txA n j) (nI d) rf f_X6_readE_K107 g) (nI (t + 1))) 121 FU 120 (f (r.2.1 + 1)) hb1 (Gd_weak (hf (r.2.1 + 1) hp1) (by omega)) (by omega) (by show 121 < 100000; omega) (by omega) (by omega)
        have ea' : seqL T E f 38 (.inr (some false)) 121 (f (r.2.1 + 1)) = pT T E f (r.2.1 + 1) := rfl
        rw [ea'] at ea
        rw [if_pos rfl, show (120 : Int32) = nI 120 from rfl, ea]
        cases hb2 : (pT T E f (r.2.1 + 1)).1
        · rw [if_neg (by decide), seqL_stop (fun q => by cases q.1)]
          simp only [if_neg (show ¬ false = true by decide), List.append_nil, List.map_append]
          rw [putL_app, List.length_map]
          rfl
        · rw [hb2] at hR
          have ih1 := ih g (t + 1) _ rfl hR (by show E < m + (pT T E f (r.2.1 + 1)).2.1; omega) (by omega) (by show t + 1 ≤ (pT T E f (r.2.1 + 1)).2.1; omega) (by omega)
          rw [if_pos rfl, ← ih1]
          obtain ⟨u6, uu, -⟩ := putL_ok kk ((pT T E f (r.2.1 + 1)).2.2.map (encC law)) (c + r.2.2.length) (putL kk (r.2.2.map (encC law)) c y) o6
          have u7 := (uu 7 (by omega)).trans o7
          unfold f_X6_readE_K69
          simp only [if_true, List.map_append]
          rw [if_neg (show ¬ nI (t + 1) ≤ (1 : Int32) from nI_ge (a := 1) (by omega) (by omega)), C_gCt hj, if_pos rfl, C_put hj _ u6 (by rw [List.length_map]; omega) u7 hkk, ob, putL_app, putL_app]
          simp only [List.length_map]
          rfl
    · have hst : ¬ (r.1 = true ∧ cAt T E r.2.1 = 124) := fun q => hch q.2
      rw [if_neg (show ¬ lkI T E r.2.1 = 124 from fun q => hch ((lk_eq (ch := 124) hT (by omega)).mp q)), seqL_stop hst, hr]
      rfl
end CLOOP
end CFAC
