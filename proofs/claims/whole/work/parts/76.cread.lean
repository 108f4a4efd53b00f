/-! THE CLASS READS: tape, tokens, expressions -/
def put1 (y : XT) (c kk : Nat) (v : Int32) : XT := (upd y.1 6 (nI (c + 1)), upd y.2.1 c v, y.2.2.1, y.2.2.2.1, upd y.2.2.2.2 kk (nI (c + 1)))
def putL (kk : Nat) : List Int32 → Nat → XT → XT
  | [], _, y => y
  | v :: r, c, y => putL kk r (c + 1) (put1 y c kk v)
theorem putL_app (kk : Nat) : ∀ (l l' : List Int32) (c : Nat) (y : XT), putL kk (l ++ l') c y = putL kk l' (c + l.length) (putL kk l c y) := by
  intro l
  induction l with
  | nil => intro l' c y; rfl
  | cons v l ih =>
    intro l' c y
    show putL kk (l ++ l') (c + 1) _ = putL kk l' (c + (l.length + 1)) (putL kk l (c + 1) _)
    rw [ih, show c + 1 + l.length = c + (l.length + 1) by omega]
theorem putL_ok (kk : Nat) : ∀ (l : List Int32) (c : Nat) (y : XT), y.1 6 = nI c → (putL kk l c y).1 6 = nI (c + l.length) ∧ (∀ i, i ≠ 6 → (putL kk l c y).1 i = y.1 i) ∧ (putL kk l c y).2.2.1 = y.2.2.1 ∧ (putL kk l c y).2.2.2.1 = y.2.2.2.1 ∧ (∀ i, i < c → (putL kk l c y).2.1 i = y.2.1 i) ∧ At (putL kk l c y).2.1 c l ∧ (∀ i, i ≠ kk → (putL kk l c y).2.2.2.2 i = y.2.2.2.2 i) ∧ (l ≠ [] → (putL kk l c y).2.2.2.2 kk = nI (c + l.length)) := by
  intro l
  induction l with
  | nil => intro c y h; exact ⟨h, fun _ _ => rfl, rfl, rfl, fun _ _ => rfl, trivial, fun _ _ => rfl, fun q => absurd rfl q⟩
  | cons v l ih =>
    intro c y h
    obtain ⟨a1, a2, a3, a4, a5, a6, a7, a8⟩ := ih (c + 1) (put1 y c kk v) (show upd y.1 6 (nI (c + 1)) 6 = nI (c + 1) from pk_us)
    have e : c + 1 + l.length = c + (v :: l).length := by simp only [List.length_cons]; omega
    rw [e] at a1 a8
    refine ⟨a1, fun i hi => (a2 i hi).trans (pk_un hi), a3, a4, fun i hi => (a5 i (by omega)).trans (pk_un (by omega)), ⟨(a5 c (by omega)).trans pk_us, a6⟩, fun i hi => (a7 i hi).trans (pk_un hi), fun _ => ?_⟩
    by_cases hl : l = []
    · subst hl
      exact pk_us
    · exact a8 hl
section CREAD
variable {n : Nat} {ρ : Nat → Nat} {k : KK} {j : Nat} {b : Nat → Int32} {E : Nat} {B : HSt} {T : Nat → Nat}
def CS (n : Nat) (ρ : Nat → Nat) (k : KK) (j : Nat) (b : Nat → Int32) (E : Nat) (B : HSt) (p : Nat) (y : XT) : HSt := hK n ρ (kuTp (kuTx k j y) (b, nI E, nI p)) B
theorem kuTx_2 (k : KK) (j : Nat) (y y' : XT) (x : XP) : kuTx (kuTp (kuTx k j y) x) j y' = kuTp (kuTx k j y') x := by
  have e : (fun i => if i = j then y' else (if i = j then y else kTx k i)) = (fun i => if i = j then y' else kTx k i) := funext fun i => by
    by_cases h : i = j
    · rw [if_pos h, if_pos h]
    · rw [if_neg h, if_neg h, if_neg h]
  show (k.1, k.2.1, x, k.2.2.2.1, k.2.2.2.2.1, k.2.2.2.2.2.1, k.2.2.2.2.2.2.1, k.2.2.2.2.2.2.2.1, (fun i => if i = j then y' else (if i = j then y else kTx k i))) = (k.1, k.2.1, x, k.2.2.2.1, k.2.2.2.2.1, k.2.2.2.2.2.1, k.2.2.2.2.2.2.1, k.2.2.2.2.2.2.2.1, (fun i => if i = j then y' else kTx k i))
  rw [e]
theorem CS_T (hj : j < 10) (p : Nat) (y y' : XT) : hT (txA n j) (tLet ρ j) (tFl j) y' (CS n ρ k j b E B p y) = CS n ρ k j b E B p y' := by
  unfold CS
  rw [hK_tx n ρ _ B hj, kuTx_2]
theorem CS_P (p p' : Nat) (y : XT) : hP (n + 2) (b, nI E, nI p') (CS n ρ k j b E B p y) = CS n ρ k j b E B p' y := by
  unfold CS
  rw [hK_tp]
theorem C_gC (p : Nat) (y : XT) : gC (CS n ρ k j b E B p y) (n + 2) = some 6 := gC_tp
theorem C_gCt (hj : j < 10) (p : Nat) (y : XT) : gC (CS n ρ k j b E B p y) (txA n j) = some 7 := gC_tx hj
theorem C_at (p : Nat) (y : XT) : gI (CS n ρ k j b E B p y) (n + 2) 6 2 = some (nI p) := by
  have e := PI_2 (n + 2) (b, nI E, nI p) (CS n ρ k j b E B p y)
  rw [CS_P] at e
  exact e
theorem C_sz (p : Nat) (y : XT) : gI (CS n ρ k j b E B p y) (n + 2) 6 1 = some (nI E) := by
  have e := PI_1 (n + 2) (b, nI E, nI p) (CS n ρ k j b E B p y)
  rw [CS_P] at e
  exact e
theorem C_set (p p' : Nat) (y : XT) : pV (CS n ρ k j b E B p y) (n + 2) 6 2 (.int (nI p')) = some (CS n ρ k j b E B p' y) := by
  have e := PP_2 (n + 2) (b, nI E, nI p) (CS n ρ k j b E B p y) (nI p')
  rw [CS_P, CS_P] at e
  exact e
theorem C_let (hj : j < 10) (p : Nat) (y : XT) : gR (CS n ρ k j b E B p y) (txA n j) 7 1 = some (tLet ρ j) := by
  have e := TR_1 (txA n j) (tLet ρ j) (tFl j) y (CS n ρ k j b E B p y)
  rw [CS_T hj] at e
  exact e
theorem C_fl (hj : j < 10) (p : Nat) (y : XT) : gI (CS n ρ k j b E B p y) (txA n j) 7 0 = some (tFl j) := by
  have e := TI_0 (txA n j) (tLet ρ j) (tFl j) y (CS n ρ k j b E B p y)
  rw [CS_T hj] at e
  exact e
theorem C_look (hE : E ≤ 120) (hb : ∀ i, i < E → b i &&& 255 = nI (T i)) (p : Nat) (hp : p ≤ E) (y : XT) : f_X6_look (CS n ρ k j b E B p y) (n + 2) = some (lkI T E p, CS n ρ k j b E B p y) := by
  have e : f_X6_look (hP (n + 2) (b, nI E, nI p) (CS n ρ k j b E B p y)) (n + 2) = some (lkI T E p, hP (n + 2) (b, nI E, nI p) (CS n ρ k j b E B p y)) := by
    unfold f_X6_look lkI
    rw [PI_2, ob, if_neg (nI_pos (by omega)), ob, PI_1, ob]
    by_cases h : p < E
    · rw [if_neg (nI_ge h (by omega)), if_pos h, ob, PR_0, ob, PN_1, ob, if_neg (show ¬ (120 : Int32) ≤ nI p from nI_ge (b := 120) (by omega) (by omega)), ob, ob, PA_1 (n + 2) _ _ (k := p) rfl (by omega), ob, hb p h]
    · rw [if_pos (nI_le (by omega) (by omega)), if_neg h]
  rw [CS_P] at e
  exact e
theorem C_put (hj : j < 10) (p : Nat) {y : XT} {c kk : Nat} (h6 : y.1 6 = nI c) (hc : c < 120) (h7 : y.1 7 = nI (kk + 1)) (hk : kk < 8) (v : Int32) : f_X7_put (CS n ρ k j b E B p y) (txA n j) v = some (CS n ρ k j b E B p (put1 y c kk v)) := by
  have e : f_X7_put (hT (txA n j) (tLet ρ j) (tFl j) y (CS n ρ k j b E B p y)) (txA n j) v = some (hT (txA n j) (tLet ρ j) (tFl j) (put1 y c kk v) (CS n ρ k j b E B p y)) := by
    unfold f_X7_put
    have e2 : nI (kk + 1) - 1 = nI kk := nI_pred kk
    rw [TI_6, ob, h6, if_neg (nI_pos (by omega)), ob, TR_2, ob, TN_1, ob, if_pos (show nI c < (120 : Int32) from nI_lt (b := 120) hc (by omega)), ob, ob, TS_1 _ _ _ _ _ (k := c) rfl (by omega), ob, TI_6, ob, h6, nI_1, TP_6, ob]
    dsimp only
    generalize hy2 : ((upd y.1 6 (nI (c + 1)), upd y.2.1 c v, y.2.2) : XT) = y2
    have f7 : y2.1 7 = nI (kk + 1) := by
      rw [← hy2]
      show upd y.1 6 (nI (c + 1)) 7 = _
      rw [pk_un (by omega)]
      exact h7
    have f6 : y2.1 6 = nI (c + 1) := by
      rw [← hy2]
      show upd y.1 6 (nI (c + 1)) 6 = _
      rw [pk_us]
    rw [TI_7, ob, f7, if_neg (nI_nle (by omega) (by omega)), ob, TR_5, ob, TN_4, ob, if_neg (show ¬ (8 : Int32) < nI (kk + 1) from nI_nlt (b := kk + 1) (a := 8) (by omega) (by omega)), ob, ob, TI_6, ob, e2, f6, TS_4 _ _ _ _ _ (k := kk) rfl hk, ob, ← hy2]
    rfl
  rw [CS_T hj, CS_T hj] at e
  exact e
theorem C_number (hE : E ≤ 120) (hb : ∀ i, i < E → b i &&& 255 = nI (T i)) (hT : ∀ i, i < E → T i < 256) (p : Nat) (hp : p ≤ E) (y : XT) : f_X6_readNumber (CS n ρ k j b E B p y) (n + 2) = match pNum T E p with
    | none => some (-1, CS n ρ k j b E B p y)
    | some z => some (nI z.1, CS n ρ k j b E B z.2 y) := by
  have dg : ∀ q, q ≤ E → (48 ≤ cAt T E q ∧ cAt T E q ≤ 57) → lkI T E q - 48 = nI (cAt T E q - 48) := fun q hq h => by
    rw [lk_c (by omega)]
    exact pk_sub (b := 48) h.1
  have nd : ∀ q, q ≤ E → ¬ (48 ≤ cAt T E q ∧ cAt T E q ≤ 57) → lkI T E q - 48 < 0 ∨ (¬ lkI T E q - 48 < 0 ∧ ¬ lkI T E q - 48 ≤ 9) := fun q hq h => by
    by_cases hqE : q < E
    · have hTq := hT q hqE
      have ec : cAt T E q = T q := if_pos hqE
      have el : lkI T E q = nI (T q) := if_pos hqE
      rw [ec] at h
      rw [el]
      by_cases h48 : T q < 48
      · exact Or.inl (pk_sneg (b := 48) (by omega) h48)
      · have e : nI (T q) - 48 = nI (T q - 48) := pk_sub (b := 48) (by omega)
        rw [e]
        exact Or.inr ⟨nI_pos (by omega), nI_ge (a := 9) (by omega) (by omega)⟩
    · have el : lkI T E q = -1 := if_neg hqE
      rw [el]
      exact Or.inl (by decide)
  unfold f_X6_readNumber pNum
  rw [C_gC, if_pos rfl, C_look hE hb p hp, bd2_some]
  by_cases h : 48 ≤ cAt T E p ∧ cAt T E p ≤ 57
  · have hp1 : p < E := cAt_lt (T := T) rfl (by omega)
    rw [if_pos h, dg p hp h, if_neg (nI_pos (by omega)), if_pos (show nI (cAt T E p - 48) ≤ (9 : Int32) from nI_le (b := 9) (by omega) (by omega)), C_at, ob, nI_1, C_set, ob, C_gC, if_pos rfl, C_look hE hb (p + 1) hp1, bd2_some]
    by_cases h0 : cAt T E p = 48
    · rw [if_pos (show nI (cAt T E p - 48) = 0 by rw [h0]; rfl), if_neg (fun q => q.1 h0)]
    · rw [if_neg (nI_ne0 (by omega) (by omega))]
      by_cases h2 : 48 ≤ cAt T E (p + 1) ∧ cAt T E (p + 1) ≤ 57
      · have hc2 : cAt T E p ≠ 48 ∧ 48 ≤ cAt T E (p + 1) ∧ cAt T E (p + 1) ≤ 57 := ⟨h0, h2⟩
        rw [if_pos hc2, dg (p + 1) hp1 h2, if_neg (nI_pos (by omega)), if_pos (show nI (cAt T E (p + 1) - 48) ≤ (9 : Int32) from nI_le (b := 9) (by omega) (by omega)), C_at, ob, nI_1, C_set, ob, show (10 : Int32) = nI 10 from rfl, pk_mul, nI_add]
      · have hc2 : ¬ (cAt T E p ≠ 48 ∧ 48 ≤ cAt T E (p + 1) ∧ cAt T E (p + 1) ≤ 57) := fun q => h2 q.2
        rw [if_neg hc2]
        rcases nd (p + 1) hp1 h2 with h3 | ⟨h3, h4⟩
        · rw [if_pos h3]
        · rw [if_neg h3, if_neg h4]
  · rw [if_neg h]
    rcases nd p hp h with h3 | ⟨h3, h4⟩
    · rw [if_pos h3]
    · rw [if_neg h3, if_neg h4]
theorem C_word (hρ : rhoOk ρ) (hE : E ≤ 120) (hb : ∀ i, i < E → b i &&& 255 = nI (T i)) (hT : ∀ i, i < E → T i < 256) {i : Nat} (hi : i < 15) (p : Nat) (hp : p ≤ E) (y : XT) : f_X6_readWord ρ (CS n ρ k j b E B p y) (n + 2) (ρ i) = some (bI (pW T E i (lenN i) 0 p).1, CS n ρ k j b E B (pW T E i (lenN i) 0 p).2 y) := by
  have hl := len_tab i hi
  unfold f_X6_readWord
  have V : ∀ (e u f p : Nat), u + e = lenN i → e < f → p ≤ E → f_X6_readWord_L2 ρ (n + 2) (ρ i) f_X6_readWord_K40 f (nI u) (CS n ρ k j b E B p y) = some (bI (pW T E i e u p).1, CS n ρ k j b E B (pW T E i e u p).2 y) := by
    intro e
    induction e with
    | zero =>
      intro u f p hu hf hp
      obtain ⟨f, rfl⟩ : ∃ g, f = g + 1 := ⟨f - 1, by omega⟩
      rw [f_X6_readWord_L2]
      unfold f_X6_readWord_B2
      rw [if_pos (sXs_ρ hρ hi), J_len hρ _ hi, bd2_some, if_pos (nI_le (by omega) (by omega))]
      rfl
    | succ e ih =>
      intro u f p hu hf hp
      obtain ⟨f, rfl⟩ : ∃ g, f = g + 1 := ⟨f - 1, by omega⟩
      have hc := (chr_tab i hi u (by omega)).2
      rw [f_X6_readWord_L2]
      unfold f_X6_readWord_B2
      rw [if_pos (sXs_ρ hρ hi), J_len hρ _ hi, bd2_some, if_neg (nI_ge (by omega) (by omega)), C_gC, if_pos rfl, C_look hE hb p hp, bd2_some, if_pos (sXs_ρ hρ hi), J_char hρ _ hi (by omega), bd2_some, C_at, ob, nI_1, C_set, ob, nI_1, pW]
      by_cases h : cAt T E p = chrN i u
      · rw [if_pos ((lk_eq hT (by omega)).mpr h), if_pos h]
        exact ih (u + 1) f (p + 1) (by omega) (by omega) (cAt_lt h (by omega))
      · rw [if_neg (fun q => h ((lk_eq hT (by omega)).mp q)), if_neg h]
        rfl
  exact V (lenN i) 0 FU p (by omega) (by show _ < 100000; omega) hp
end CREAD
