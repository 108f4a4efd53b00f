/-! THE CLASS READS: an expression -/
section CEXP
variable {n : Nat} {ρ : Nat → Nat} {k : KK} {j : Nat} {b : Nat → Int32} {E : Nat} {B : HSt} {T : Nat → Nat} {kk : Nat} {law : Bool}
theorem C_readE (hj : j < 10) (hE : E ≤ 120) (hb : ∀ i, i < E → b i &&& 255 = nI (T i)) (hT : ∀ i, i < E → T i < 256) (hkk : kk < 8) {d N : Nat} {rf : HSt → Nat → Nat → Int32 → Option (Int32 × HSt)} {f : Nat → PR} (hrf : CRd n ρ k j b E B kk law d rf f) (hf : ∀ q, q ≤ E → Gd E law q (N + 2) (f q)) : CRd n ρ k j b E B kk law d (f_X6_readE rf) (pE T E f) := by
  intro y p c hp h6 h7 hc
  unfold f_X6_readE
  have e1 := hrf y p c hp h6 h7 hc
  have hg := hf p hp
  show f_X6_readE_L2 (n + 2) (txA n j) (nI d) rf f_X6_readE_K107 (99999 + 1) 1 (CS n ρ k j b E B p y) = _
  rw [f_X6_readE_L2]
  unfold f_X6_readE_B2
  rw [if_neg (by decide), C_gC, if_pos rfl, e1, bd2_some, bI_if]
  cases hb1 : (f p).1
  · have ep : pT T E f p = f p := seqL_stop (fun q => by rw [hb1] at q; cases q.1)
    have ee : pE T E f p = f p := by
      unfold pE
      rw [ep]
      exact seqL_stop (fun q => by rw [hb1] at q; cases q.1)
    rw [if_neg (by decide), ee, hb1]
    rfl
  · have ea := C_and (N := N + 1) hj hE hb hT hkk hrf hf h6 h7 hc (f_X6_readE_K69 (n + 2) (txA n j) (f_X6_readE_L2 (n + 2) (txA n j) (nI d) rf f_X6_readE_K107 99999) 1) 121 FU 120 (f p) hb1 (Gd_weak hg (by omega)) (by omega) (by show 121 < 100000; omega) (by omega) (by omega)
    have ea' : seqL T E f 38 (.inr (some false)) 121 (f p) = pT T E f p := rfl
    rw [ea'] at ea
    have hg2 := pT_Gd (T := T) (law := law) (N := N + 1) hf p hp
    rw [if_pos rfl, show (120 : Int32) = nI 120 from rfl, ea]
    cases hb2 : (pT T E f p).1
    · have ee : pE T E f p = pT T E f p := seqL_stop (fun q => by rw [hb2] at q; cases q.1)
      rw [if_neg (by decide), ee, hb2]
      rfl
    · have eo := C_or hj hE hb hT hkk hrf hf h6 h7 hc 121 99999 1 (pT T E f p) hb2 (Gd_weak hg2 (by omega)) (by omega) (by omega) (by have := (hg2.2.2.2 hb2).1; omega) (by omega)
      rw [if_pos rfl]
      unfold f_X6_readE_K69
      rw [if_pos (by decide)]
      exact eo
theorem pW_par (p : Nat) : pW T E 13 (lenN 13) 0 p = if cAt T E p = 41 then (true, p + 1) else (false, p) := by
  show (if cAt T E p = chrN 13 0 then (true, p + 1) else (false, p)) = _
  rw [show chrN 13 0 = 41 from rfl]
theorem C_factor (hρ : rhoOk ρ) (hj : j < 10) (hlet : tLet ρ j = ρ (ltC law)) (hE : E ≤ 120) (hb : ∀ i, i < E → b i &&& 255 = nI (T i)) (hT : ∀ i, i < E → T i < 256) (hkk : kk < 8) : ∀ (g d : Nat), d ≤ 5 → 7 ≤ g + d → CRd n ρ k j b E B kk law d (fF_X6 ρ g) (pF T E law g d) := by
  intro g
  induction g with
  | zero => intro d h1 h2; omega
  | succ g ih =>
    intro d hd hg y p c hp h6 h7 hc
    show f_X6_readF_B (fF_X6 ρ g) ρ (CS n ρ k j b E B p y) (n + 2) (txA n j) (nI d) = _
    unfold f_X6_readF_B
    rw [C_gC, if_pos rfl, C_look hE hb p hp, bd2_some, pF]
    by_cases h33 : cAt T E p = 33
    · have hp1 : p < E := cAt_lt h33 (by omega)
      have e33 : lkI T E p = 33 := (lk_eq (ch := 33) hT (by omega)).mpr h33
      rw [if_pos e33, if_pos h33, e33]
      unfold f_X6_readF_J23
      by_cases h5 : d < 5
      · obtain ⟨g1, g2, g3, g4⟩ := pF_Gd (T := T) (E := E) (law := law) g (d + 1) (p + 1) (by omega) hp1
        have e1 := ih (d + 1) (by omega) (by omega) y (p + 1) c hp1 h6 h7 (by omega)
        rw [if_pos (show nI d < (5 : Int32) from nI_lt (b := 5) h5 (by omega)), if_pos h5, C_at, ob, nI_1, C_set, ob, if_neg (by decide), C_gC, if_pos rfl, nI_1, e1, bd2_some, bI_if]
        generalize pF T E law g (d + 1) (p + 1) = r at *
        obtain ⟨u6, uu, -⟩ := putL_ok kk (r.2.2.map (encC law)) c y h6
        have u7 := (uu 7 (by omega)).trans h7
        cases hb1 : r.1
        · simp only [if_neg (show ¬ false = true by decide), List.append_nil]
          rfl
        · simp only [if_true, List.map_append]
          rw [C_gCt hj, if_pos rfl, C_put hj _ u6 (by rw [List.length_map]; omega) u7 hkk, ob, putL_app]
          rfl
      · rw [if_neg (show ¬ nI d < (5 : Int32) from nI_nlt (a := d) (b := 5) (by omega) (by omega)), if_neg h5]
        rfl
    · rw [if_neg (show ¬ lkI T E p = 33 from fun q => h33 ((lk_eq (ch := 33) hT (by omega)).mp q)), if_neg h33]
      by_cases h40 : cAt T E p = 40
      · have hp1 : p < E := cAt_lt h40 (by omega)
        have e40 : lkI T E p = 40 := (lk_eq (ch := 40) hT (by omega)).mpr h40
        rw [if_pos e40, if_pos h40, e40]
        unfold f_X6_readF_J23
        by_cases h5 : d < 5
        · obtain ⟨g1, g2, g3, g4⟩ := pE_Gd (T := T) (E := E) (law := law) (N := 2 * d + 2) (fun q hq => pF_Gd g (d + 1) q (by omega) hq) (p + 1) hp1
          have hsm := C_readE (N := 2 * d + 2) hj hE hb hT hkk (ih (d + 1) (by omega) (by omega)) (fun q hq => pF_Gd g (d + 1) q (by omega) hq)
          have e1 := hsm y (p + 1) c hp1 h6 h7 (by omega)
          rw [if_pos (show nI d < (5 : Int32) from nI_lt (b := 5) h5 (by omega)), if_pos h5, C_at, ob, nI_1, C_set, ob, if_pos rfl, C_gC, if_pos rfl, nI_1, e1, bd2_some, bI_if]
          generalize pE T E (pF T E law g (d + 1)) (p + 1) = r at *
          cases hb1 : r.1
          · have hn : ¬ (false = true ∧ cAt T E r.2.1 = 41) := fun q => by cases q.1
            rw [if_neg (by decide), if_neg hn]
            rfl
          · rw [if_pos rfl, C_gC, if_pos rfl, C_word hρ hE hb hT (show 13 < 15 by omega) r.2.1 g2, bd2_some, bI_if, pW_par]
            by_cases h41 : cAt T E r.2.1 = 41
            · simp [h41, bI]
            · simp [h41, bI]
        · rw [if_neg (show ¬ nI d < (5 : Int32) from nI_nlt (a := d) (b := 5) (by omega) (by omega)), if_neg h5]
          rfl
      · rw [if_neg (show ¬ lkI T E p = 40 from fun q => h40 ((lk_eq (ch := 40) hT (by omega)).mp q)), if_neg h40, C_gC, if_pos rfl, C_test hρ hj hlet hE hb hT hkk hp h6 h7 hc, bd2_some, if_pos (bI_01 _)]
theorem C_readER (hρ : rhoOk ρ) (hj : j < 10) (hlet : tLet ρ j = ρ (ltC law)) (hE : E ≤ 120) (hb : ∀ i, i < E → b i &&& 255 = nI (T i)) (hT : ∀ i, i < E → T i < 256) (hkk : kk < 8) : CRd n ρ k j b E B kk law 0 (fun S a0 a1 a2 => f_X6_readER ρ S a0 a1 a2) (pE T E (pF T E law 12 0)) := C_readE (N := 0) hj hE hb hT hkk (C_factor hρ hj hlet hE hb hT hkk 12 0 (by omega) (by omega)) (fun q hq => pF_Gd 12 0 q (by omega) hq)
end CEXP
