/-! BOTH READ: a clause -/
section MCL
variable {m : Nat} {o : MO} {c : MC} {C : HSt} {T : Nat → Nat} {E a : Nat} {ρ : Nat → Nat} {s : Nat → Int32} {p L : Nat}
theorem M_numbered (hρ : rhoOk ρ) (h6 : c.1 6 = nI E) (hE : E ≤ 120) (hT : ∀ i, i < E → T i < 256) (ht : tpS T E s) (hp : p ≤ E) {i : Nat} (hi : i < 15) {W : Nat} {w : Int32} (hw : w = nI W) (hW : W < 1735) : f_X12_numbered ρ (hM m (oS o s) (sc c p false 0) C) m w (ρ i) = some (if (pW T E i (lenN i) 0 p).1 = true then (match pNum T E (pW T E i (lenN i) 0 p).2 with | none => hM m (oS o s) (sc c (pW T E i (lenN i) 0 p).2 true 0) C | some z => hM m (oS o (upd s W (nI z.1))) (sc c z.2 false 0) C) else hM m (oS o s) (sc c (pW T E i (lenN i) 0 p).2 true 0) C) := by
  have hl := len_tab i hi
  obtain ⟨w1, w2, w3⟩ := pW_ok (T := T) (E := E) i hi (lenN i) 0 p (by omega) hp
  unfold f_X12_numbered
  rw [hM_C, if_pos rfl, M_spells hρ h6 hE ht hT hi hp, ob, hM_C, if_pos rfl]
  cases hb : (pW T E i (lenN i) 0 p).1
  · rw [show (!false) = true from rfl, M_figuresW, bd2_some, mI_7, ob, show (sc c (pW T E i (lenN i) 0 p).2 true 0).1 7 = 1 from rfl, if_neg (by decide), if_neg (by decide)]
  · rw [show (!true) = false from rfl, M_figures h6 hE w2 ht hT, if_pos rfl]
    cases hz : pNum T E (pW T E i (lenN i) 0 p).2 with
    | none =>
      simp only []
      rw [bd2_some, mI_7, ob, show (sc c (pW T E i (lenN i) 0 p).2 true 0).1 7 = 1 from rfl, if_neg (by decide)]
    | some z =>
      simp only []
      rw [bd2_some, mI_7, ob, show (sc c z.2 false 0).1 7 = 0 from rfl, if_pos rfl, mR_1, ob, mS_s m (oS o s) _ C (k := W) hw hW, ob]
      rfl
theorem M_tested (hρ : rhoOk ρ) (h4 : c.1 4 = nI a) (h6 : c.1 6 = nI E) (ha : a < 10) (hE : E ≤ 120) (hT : ∀ i, i < E → T i < 256) (ht : tpS T E s) (hp : p ≤ E) (hs : s (325 + a) = nI L) (hL : L ≤ p) {i K : Nat} (hi : i < 15) {v : Int32} (hv : v = nI K) : f_X12_tested ρ (hM m (oS o s) (sc c p false 0) C) m v (ρ i) = some (if (pW T E i (lenN i) 0 p).1 = true then hM m (oS o (emL a ((pE T E (pF T E (lawB a) 12 0) (pW T E i (lenN i) 0 p).2).2.2.map encS ++ if (pE T E (pF T E (lawB a) 12 0) (pW T E i (lenN i) 0 p).2).1 = true then [endS (100 * K)] else []) L s)) (sc c (pE T E (pF T E (lawB a) 12 0) (pW T E i (lenN i) 0 p).2).2.1 (!(pE T E (pF T E (lawB a) 12 0) (pW T E i (lenN i) 0 p).2).1) 0) C else hM m (oS o s) (sc c (pW T E i (lenN i) 0 p).2 true 0) C) := by
  have hl := len_tab i hi
  obtain ⟨w1, w2, w3⟩ := pW_ok (T := T) (E := E) i hi (lenN i) 0 p (by omega) hp
  have hR := M_someR (m := m) (o := o) (C := C) hρ h4 h6 ha hE hT
  unfold f_X12_tested
  rw [hM_C, if_pos rfl, M_spells hρ h6 hE ht hT hi hp, ob, hM_C, if_pos rfl]
  cases hb : (pW T E i (lenN i) 0 p).1
  · rw [show (!false) = true from rfl, hR.2, ob, hM_C, if_pos rfl, M_emitsW, ob, if_neg (by decide)]
  · obtain ⟨g1, g2, g3, g4⟩ := pE_Gd (T := T) (E := E) (law := lawB a) (N := 0) (fun q hq => pF_Gd 12 0 q (by omega) hq) (pW T E i (lenN i) 0 p).2 w2
    rw [show (!true) = false from rfl, hR.1 s _ L w2 ht hs (by omega), ob, hM_C, if_pos rfl, if_pos rfl]
    generalize pE T E (pF T E (lawB a) 12 0) (pW T E i (lenN i) 0 p).2 = r at *
    have hs1 := emL_c a ha (r.2.2.map encS) L s hs
    have ev : (-10 : Int32) - 100 * v = endS (100 * K) := by
      rw [hv, show (100 : Int32) = nI 100 from rfl, pk_mul]
      rfl
    cases hb1 : r.1
    · rw [show (!false) = true from rfl, M_emitsW, ob, if_neg (by decide), List.append_nil]
    · rw [show (!true) = false from rfl, ev, M_emits h4 ha hs1 (by rw [List.length_map]; omega), ob, if_pos rfl, emL_app]
theorem M_saying (hρ : rhoOk ρ) (h4 : c.1 4 = nI a) (h6 : c.1 6 = nI E) (ha : a < 10) (hE : E ≤ 120) (hT : ∀ i, i < E → T i < 256) (ht : tpS T E s) (hp : p ≤ E) (hs : s (325 + a) = nI L) (hL : L ≤ p) {i K : Nat} (hi : i < 15) {v : Int32} (hv : v = nI K) : f_X12_saying ρ (hM m (oS o s) (sc c p false 0) C) m v (ρ i) = some (if (pW T E i (lenN i) 0 p).1 = true then (match pNum T E (pW T E i (lenN i) 0 p).2 with | none => hM m (oS o s) (sc c (pW T E i (lenN i) 0 p).2 true 0) C | some z => if cAt T E z.2 = 32 then hM m (oS o (emL a ((pE T E (pF T E (lawB a) 12 0) (z.2 + 1)).2.2.map encS ++ if (pE T E (pF T E (lawB a) 12 0) (z.2 + 1)).1 = true then [endS (100 * K + z.1)] else []) L s)) (sc c (pE T E (pF T E (lawB a) 12 0) (z.2 + 1)).2.1 (!(pE T E (pF T E (lawB a) 12 0) (z.2 + 1)).1) 0) C else hM m (oS o s) (sc c z.2 true 0) C) else hM m (oS o s) (sc c (pW T E i (lenN i) 0 p).2 true 0) C) := by
  have hl := len_tab i hi
  obtain ⟨w1, w2, w3⟩ := pW_ok (T := T) (E := E) i hi (lenN i) 0 p (by omega) hp
  have hR := M_someR (m := m) (o := o) (C := C) hρ h4 h6 ha hE hT
  unfold f_X12_saying
  rw [hM_C, if_pos rfl, M_spells hρ h6 hE ht hT hi hp, ob, hM_C, if_pos rfl]
  cases hb : (pW T E i (lenN i) 0 p).1
  · rw [show (!false) = true from rfl, M_figuresW, bd2_some, hM_C, if_pos rfl, M_mustW, ob, hM_C, if_pos rfl, hR.2, ob, hM_C, if_pos rfl, M_emitsW, ob, if_neg (by decide)]
  · rw [show (!true) = false from rfl, M_figures h6 hE w2 ht hT, if_pos rfl]
    cases hz : pNum T E (pW T E i (lenN i) 0 p).2 with
    | none =>
      simp only []
      rw [bd2_some, hM_C, if_pos rfl, M_mustW, ob, hM_C, if_pos rfl, hR.2, ob, hM_C, if_pos rfl, M_emitsW, ob]
    | some z =>
      obtain ⟨z1, z2, z3⟩ := pNum_ok hz
      simp only []
      rw [bd2_some, hM_C, if_pos rfl, show (32 : Int32) = nI 32 from rfl, M_must h6 hE z3 ht hT (by omega), ob, hM_C, if_pos rfl]
      by_cases h32 : cAt T E z.2 = 32
      · have hp1 : z.2 < E := cAt_lt h32 (by omega)
        obtain ⟨g1, g2, g3, g4⟩ := pE_Gd (T := T) (E := E) (law := lawB a) (N := 0) (fun q hq => pF_Gd 12 0 q (by omega) hq) (z.2 + 1) hp1
        rw [if_pos h32, decide_eq_true h32, if_pos h32, show (!true) = false from rfl, hR.1 s _ L hp1 ht hs (by omega), ob, hM_C, if_pos rfl]
        generalize pE T E (pF T E (lawB a) 12 0) (z.2 + 1) = r at *
        have hs1 := emL_c a ha (r.2.2.map encS) L s hs
        have ev : (-10 : Int32) - 100 * v - nI z.1 = endS (100 * K + z.1) := by
          rw [hv, show (100 : Int32) = nI 100 from rfl, pk_mul]
          unfold endS
          rw [← nI_add, Int32.sub_sub]
        cases hb1 : r.1
        · rw [show (!false) = true from rfl, M_emitsW, ob, if_neg (by decide), List.append_nil]
        · rw [show (!true) = false from rfl, ev, M_emits h4 ha hs1 (by rw [List.length_map]; omega), ob, if_pos rfl, emL_app]
      · rw [if_neg h32, decide_eq_false h32, if_neg h32, show (!false) = true from rfl, hR.2, ob, hM_C, if_pos rfl, M_emitsW, ob]
end MCL
section CCL
variable {n : Nat} {ρ : Nat → Nat} {k : KK} {j : Nat} {b : Nat → Int32} {E : Nat} {B : HSt} {T : Nat → Nat} {law : Bool} {y : XT} {p : Nat}
/-- which word a clause must begin with -/
def wI (law : Bool) (ch : Nat) : Nat := if law then (if ch = 97 then 8 else if ch = 98 then 9 else if ch = 111 then 10 else if ch = 110 then 4 else 2) else (if ch = 104 then 3 else if ch = 110 then 5 else if ch = 116 then 6 else if ch = 100 then 7 else 2)
theorem tFl_law {j : Nat} {law : Bool} (h : j % 2 = if law then 1 else 0) : tFl j = bI law := by
  unfold tFl
  cases law
  · rw [if_pos (show j % 2 = 0 from h)]; rfl
  · rw [if_neg (by simp at h; omega)]; rfl
theorem C_wtb (hj : j < 10) (hjl : j % 2 = if law then 1 else 0) {ch : Nat} (hc : ch < 257) : f_X7_wordThatBegins ρ (CS n ρ k j b E B p y) (txA n j) (if ch = 256 then -1 else nI ch) = some (some (ρ (wI law ch)), CS n ρ k j b E B p y) := by
  have e : ∀ v : Nat, v < 200 → ((if ch = 256 then (-1 : Int32) else nI ch) = nI v) = (ch = v) := fun v hv => by
    by_cases h : ch = 256
    · rw [if_pos h]
      exact propext ⟨fun q => absurd q.symm (nI_m1 (by omega)), fun q => by omega⟩
    · rw [if_neg h]
      exact propext (nI_eq (by omega) (by omega))
  have q97 : ((if ch = 256 then (-1 : Int32) else nI ch) = 97) = (ch = 97) := e 97 (by omega)
  have q98 : ((if ch = 256 then (-1 : Int32) else nI ch) = 98) = (ch = 98) := e 98 (by omega)
  have q100 : ((if ch = 256 then (-1 : Int32) else nI ch) = 100) = (ch = 100) := e 100 (by omega)
  have q104 : ((if ch = 256 then (-1 : Int32) else nI ch) = 104) = (ch = 104) := e 104 (by omega)
  have q110 : ((if ch = 256 then (-1 : Int32) else nI ch) = 110) = (ch = 110) := e 110 (by omega)
  have q111 : ((if ch = 256 then (-1 : Int32) else nI ch) = 111) = (ch = 111) := e 111 (by omega)
  have q116 : ((if ch = 256 then (-1 : Int32) else nI ch) = 116) = (ch = 116) := e 116 (by omega)
  generalize (if ch = 256 then (-1 : Int32) else nI ch) = v at *
  unfold f_X7_wordThatBegins
  rw [C_fl hj, ob, ob, ob, ob, ob, ob, ob, tFl_law hjl]
  unfold wI
  have br : ∀ (P Q : Prop) [Decidable P] [Decidable Q] (x x' y y' : Option (Option Nat × HSt)), P = Q → x = x' → y = y' → (if P then x else y) = (if Q then x' else y') := by
    intro P Q dP dQ x x' y y' h1 h2 h3
    subst h1 h2 h3
    by_cases h : P
    · rw [if_pos h, if_pos h]
    · rw [if_neg h, if_neg h]
  cases law
  · rw [if_pos (show bI false = 0 from rfl), if_pos (show bI false = 0 from rfl), if_pos (show bI false = 0 from rfl), if_pos (show bI false = 0 from rfl), if_pos (show bI false = 0 from rfl), if_pos (show bI false = 0 from rfl), if_pos (show bI false = 0 from rfl)]
    by_cases h1 : ch = 97
    · rw [if_pos (q97.mpr h1)]; simp [h1]
    rw [if_neg (fun z => h1 (q97.mp z))]
    by_cases h2 : ch = 98
    · rw [if_pos (q98.mpr h2)]; simp [h2]
    rw [if_neg (fun z => h2 (q98.mp z))]
    by_cases h3 : ch = 100
    · rw [if_pos (q100.mpr h3)]; simp [h3]
    rw [if_neg (fun z => h3 (q100.mp z))]
    by_cases h4 : ch = 104
    · rw [if_pos (q104.mpr h4)]; simp [h4]
    rw [if_neg (fun z => h4 (q104.mp z))]
    by_cases h5 : ch = 110
    · rw [if_pos (q110.mpr h5)]; simp [h5]
    rw [if_neg (fun z => h5 (q110.mp z))]
    by_cases h6 : ch = 111
    · rw [if_pos (q111.mpr h6)]; simp [h6]
    rw [if_neg (fun z => h6 (q111.mp z))]
    by_cases h7 : ch = 116
    · rw [if_pos (q116.mpr h7)]; simp [h7]
    rw [if_neg (fun z => h7 (q116.mp z))]
    simp [h1, h2, h3, h4, h5, h6, h7]
  · have n1 : ¬ bI true = 0 := by decide
    rw [if_neg n1, if_neg n1, if_neg n1, if_neg n1, if_neg n1, if_neg n1, if_neg n1]
    by_cases h1 : ch = 97
    · rw [if_pos (q97.mpr h1)]; simp [h1]
    rw [if_neg (fun z => h1 (q97.mp z))]
    by_cases h2 : ch = 98
    · rw [if_pos (q98.mpr h2)]; simp [h2]
    rw [if_neg (fun z => h2 (q98.mp z))]
    by_cases h3 : ch = 100
    · rw [if_pos (q100.mpr h3)]; simp [h3]
    rw [if_neg (fun z => h3 (q100.mp z))]
    by_cases h4 : ch = 104
    · rw [if_pos (q104.mpr h4)]; simp [h4]
    rw [if_neg (fun z => h4 (q104.mp z))]
    by_cases h5 : ch = 110
    · rw [if_pos (q110.mpr h5)]; simp [h5]
    rw [if_neg (fun z => h5 (q110.mp z))]
    by_cases h6 : ch = 111
    · rw [if_pos (q111.mpr h6)]; simp [h6]
    rw [if_neg (fun z => h6 (q111.mp z))]
    by_cases h7 : ch = 116
    · rw [if_pos (q116.mpr h7)]; simp [h7]
    rw [if_neg (fun z => h7 (q116.mp z))]
    simp [h1, h2, h3, h4, h5, h6, h7]
def st1 (y : XT) (kk : Nat) (w v : Int32) : XT := (upd y.1 7 (nI (kk + 1)), y.2.1, upd y.2.2.1 kk w, upd y.2.2.2.1 kk v, y.2.2.2.2)
theorem C_start (hj : j < 10) {kk : Nat} (h7 : y.1 7 = nI kk) (hk : kk < 8) (w v : Int32) : f_X7_startClause (CS n ρ k j b E B p y) (txA n j) w v = some (CS n ρ k j b E B p (st1 y kk w v)) := by
  have e : f_X7_startClause (hT (txA n j) (tLet ρ j) (tFl j) y (CS n ρ k j b E B p y)) (txA n j) w v = some (hT (txA n j) (tLet ρ j) (tFl j) (st1 y kk w v) (CS n ρ k j b E B p y)) := by
    unfold f_X7_startClause
    rw [TI_7, ob, h7, if_neg (nI_pos (by omega)), ob, TR_3, ob, TN_2, ob, if_neg (show ¬ (8 : Int32) ≤ nI kk from nI_ge (b := 8) hk (by omega)), ob, TR_4, ob, TN_3, ob, if_pos (show nI kk < (8 : Int32) from nI_lt (b := 8) hk (by omega)), ob, ob, TS_2 _ _ _ _ _ (k := kk) rfl hk, ob, TR_4, ob, TI_7, ob, h7, TS_3 _ _ _ _ _ (k := kk) rfl hk, ob, TI_7, ob, h7, nI_1, TP_7, ob]
    rfl
  rw [CS_T hj, CS_T hj] at e
  exact e
def tl1 (y : XT) (i : Nat) (v : Int32) : XT := (upd y.1 i v, y.2)
theorem C_tell (hj : j < 10) (hjl : j % 2 = if law then 1 else 0) (w v : Int32) : f_X7_tell (CS n ρ k j b E B p y) (txA n j) w v = some (CS n ρ k j b E B p (tl1 y (if w = 104 then 8 else if law then 10 else 9) v)) := by
  have e : f_X7_tell (hT (txA n j) (tLet ρ j) (tFl j) y (CS n ρ k j b E B p y)) (txA n j) w v = some (hT (txA n j) (tLet ρ j) (tFl j) (tl1 y (if w = 104 then 8 else if law then 10 else 9) v) (CS n ρ k j b E B p y)) := by
    unfold f_X7_tell
    by_cases h : w = 104
    · rw [if_pos h, if_pos h, TP_8, ob]; rfl
    · rw [if_neg h, if_neg h, TI_0, ob, tFl_law hjl]
      cases law
      · rw [if_pos (show bI false = 0 from rfl), TP_9, ob]; rfl
      · rw [if_neg (show ¬ bI true = 0 by decide), TP_10, ob]; rfl
  rw [CS_T hj, CS_T hj] at e
  exact e
theorem lk_form (hT : ∀ i, i < E → T i < 256) (p : Nat) : lkI T E p = if cAt T E p = 256 then -1 else nI (cAt T E p) := by
  unfold lkI cAt
  by_cases h : p < E
  · have := hT p h
    rw [if_pos h, if_pos h, if_neg (by omega)]
  · rw [if_neg h, if_neg h, if_pos rfl]
theorem wI_lt (law : Bool) (ch : Nat) : wI law ch < 11 := by
  unfold wI
  repeat' split
  all_goals omega
theorem C_clause (hρ : rhoOk ρ) (hj : j < 10) (hjl : j % 2 = if law then 1 else 0) (hlet : tLet ρ j = ρ (ltC law)) (hE : E ≤ 120) (hb : ∀ i, i < E → b i &&& 255 = nI (T i)) (hT : ∀ i, i < E → T i < 256) {kk c : Nat} (hkk : kk < 8) (hp : p ≤ E) (h6 : y.1 6 = nI c) (h7 : y.1 7 = nI kk) (hc : c ≤ p) :
    f_X6_readClause ρ (CS n ρ k j b E B p y) (n + 2) (txA n j) = some (if wI law (cAt T E p) = 2 then ((0 : Int32), CS n ρ k j b E B p y) else if (pW T E (wI law (cAt T E p)) (lenN (wI law (cAt T E p))) 0 p).1 = true then (if cAt T E p = 104 ∨ cAt T E p = 110 then (match pNum T E (pW T E (wI law (cAt T E p)) (lenN (wI law (cAt T E p))) 0 p).2 with | none => (0, CS n ρ k j b E B (pW T E (wI law (cAt T E p)) (lenN (wI law (cAt T E p))) 0 p).2 (tl1 y (if cAt T E p = 104 then 8 else if law then 10 else 9) (-1))) | some z => (1, CS n ρ k j b E B z.2 (tl1 y (if cAt T E p = 104 then 8 else if law then 10 else 9) (nI z.1)))) else if law then (match pNum T E (pW T E (wI law (cAt T E p)) (lenN (wI law (cAt T E p))) 0 p).2 with | none => (0, CS n ρ k j b E B (pW T E (wI law (cAt T E p)) (lenN (wI law (cAt T E p))) 0 p).2 y) | some z => if cAt T E z.2 = 32 then (bI (pE T E (pF T E law 12 0) (z.2 + 1)).1, CS n ρ k j b E B (pE T E (pF T E law 12 0) (z.2 + 1)).2.1 (putL kk ((pE T E (pF T E law 12 0) (z.2 + 1)).2.2.map (encC law)) c (st1 y kk (nI (cAt T E p)) (nI z.1)))) else (0, CS n ρ k j b E B z.2 y)) else (bI (pE T E (pF T E law 12 0) (pW T E (wI law (cAt T E p)) (lenN (wI law (cAt T E p))) 0 p).2).1, CS n ρ k j b E B (pE T E (pF T E law 12 0) (pW T E (wI law (cAt T E p)) (lenN (wI law (cAt T E p))) 0 p).2).2.1 (putL kk ((pE T E (pF T E law 12 0) (pW T E (wI law (cAt T E p)) (lenN (wI law (cAt T E p))) 0 p).2).2.2.map (encC law)) c (st1 y kk (nI (cAt T E p)) (nI 0))))) else (0, CS n ρ k j b E B (pW T E (wI law (cAt T E p)) (lenN (wI law (cAt T E p))) 0 p).2 y)) := by
  have hc257 := cAt_257 hT p
  have hwl := wI_lt law (cAt T E p)
  have hwt := C_wtb (ρ := ρ) (n := n) (k := k) (b := b) (E := E) (B := B) (y := y) (p := p) hj hjl hc257
  have J : ∀ (q num : Nat), q ≤ E → p ≤ q → cAt T E p < 256 → num < 100 → f_X6_readClause_J92 ρ (n + 2) (txA n j) (nI (cAt T E p)) (nI num) (CS n ρ k j b E B q y) = some (bI (pE T E (pF T E law 12 0) q).1, CS n ρ k j b E B (pE T E (pF T E law 12 0) q).2.1 (putL kk ((pE T E (pF T E law 12 0) q).2.2.map (encC law)) c (st1 y kk (nI (cAt T E p)) (nI num)))) := fun q num hq hpq hch hnum => by
    have e1 := C_readER (n := n) (law := law) (B := B) (k := k) (kk := kk) hρ hj hlet hE hb hT hkk (st1 y kk (nI (cAt T E p)) (nI num)) q c hq (by
      show upd y.1 7 (nI (kk + 1)) 6 = nI c
      rw [pk_un (by omega)]
      exact h6) (by
      show upd y.1 7 (nI (kk + 1)) 7 = nI (kk + 1)
      rw [pk_us]) (by omega)
    unfold f_X6_readClause_J92
    rw [C_gCt hj, if_pos rfl, C_start hj h7 hkk, ob, C_gC, if_pos rfl]
    have e1 : f_X6_readER ρ (CS n ρ k j b E B q (st1 y kk (nI (cAt T E p)) (nI num))) (n + 2) (txA n j) 0 = some (bI (pE T E (pF T E law 12 0) q).1, CS n ρ k j b E B (pE T E (pF T E law 12 0) q).2.1 (putL kk ((pE T E (pF T E law 12 0) q).2.2.map (encC law)) c (st1 y kk (nI (cAt T E p)) (nI num)))) := e1
    rw [e1, bd2_some, if_pos (bI_01 _)]
  unfold f_X6_readClause
  rw [C_gC, if_pos rfl, C_look hE hb p hp, bd2_some, C_gCt hj, if_pos rfl, lk_form hT, hwt, bd2_some, oC_some, if_pos (sXs_ρ hρ (by omega)), J_empty hρ _ (by omega), bd2_some]
  by_cases hw2 : wI law (cAt T E p) = 2
  · rw [hw2, if_neg (show ¬ (if lenN 2 = 0 then (1 : Int32) else 0) = 0 by decide), if_pos rfl]
  · have hch : cAt T E p = 104 ∨ cAt T E p = 110 ∨ cAt T E p = 116 ∨ cAt T E p = 100 ∨ cAt T E p = 97 ∨ cAt T E p = 98 ∨ cAt T E p = 111 := by
      by_cases h1 : cAt T E p = 104 ∨ cAt T E p = 110 ∨ cAt T E p = 116 ∨ cAt T E p = 100 ∨ cAt T E p = 97 ∨ cAt T E p = 98 ∨ cAt T E p = 111
      · exact h1
      · refine absurd ?_ hw2
        unfold wI
        repeat' split
        all_goals omega
    have hch2 : cAt T E p < 200 := by omega
    have hlen : ¬ lenN (wI law (cAt T E p)) = 0 := by
      have : ∀ i, i < 11 → i ≠ 2 → lenN i ≠ 0 := by decide +kernel
      exact this _ hwl hw2
    have hl := len_tab (wI law (cAt T E p)) (by omega)
    obtain ⟨w1, w2, w3⟩ := pW_ok (T := T) (E := E) (wI law (cAt T E p)) (by omega) (lenN (wI law (cAt T E p))) 0 p (by omega) hp
    rw [if_neg hw2, if_neg hlen, if_pos rfl, C_gC, if_pos rfl, C_word hρ hE hb hT (by omega) p hp, bd2_some, bI_if, if_neg (show ¬ cAt T E p = 256 by omega)]
    generalize hi : wI law (cAt T E p) = i at *
    generalize pW T E i (lenN i) 0 p = pw at *
    by_cases hok : ¬ pw.1 = true
    · rw [if_neg hok, if_neg hok]
    replace hok := Decidable.not_not.mp hok
    rw [if_pos hok, if_pos hok, C_gCt hj, if_pos rfl]
    have htold : f_X7_isTold (CS n ρ k j b E B pw.2 y) (txA n j) (nI (cAt T E p)) = some (if cAt T E p = 104 ∨ cAt T E p = 110 then 1 else 0, CS n ρ k j b E B pw.2 y) := by
      unfold f_X7_isTold
      by_cases h104 : cAt T E p = 104
      · rw [if_pos (show nI (cAt T E p) = 104 by rw [h104]; rfl), if_pos (Or.inl h104)]
      · rw [if_neg (show ¬ nI (cAt T E p) = 104 from fun q => h104 ((nI_eq (b := 104) (by omega) (by omega)).mp q))]
        by_cases h110 : cAt T E p = 110
        · rw [if_pos (show nI (cAt T E p) = 110 by rw [h110]; rfl), if_pos (Or.inr h110)]
        · rw [if_neg (show ¬ nI (cAt T E p) = 110 from fun q => h110 ((nI_eq (b := 110) (by omega) (by omega)).mp q)), if_neg (fun q => q.elim h104 h110)]
    have e104 : (nI (cAt T E p) = 104) = (cAt T E p = 104) := propext (nI_eq (b := 104) (by omega) (by omega))
    rw [htold, bd2_some]
    by_cases htd : cAt T E p = 104 ∨ cAt T E p = 110
    · rw [if_pos htd, if_pos htd, if_neg (by decide), C_gC, if_pos rfl, C_number hE hb hT pw.2 w2]
      cases hz : pNum T E pw.2 with
      | none =>
        simp only []
        rw [bd2_some, C_gCt hj, if_pos rfl, C_tell hj hjl, ob, if_pos (by decide)]
        by_cases h104 : cAt T E p = 104
        · rw [if_pos (e104.mpr h104), if_pos h104]
        · rw [if_neg (fun q => h104 (e104.mp q)), if_neg h104]
      | some z =>
        obtain ⟨z1, z2, z3⟩ := pNum_ok hz
        simp only []
        rw [bd2_some, C_gCt hj, if_pos rfl, C_tell hj hjl, ob, if_neg (nI_pos (by omega))]
        by_cases h104 : cAt T E p = 104
        · rw [if_pos (e104.mpr h104), if_pos h104]
        · rw [if_neg (fun q => h104 (e104.mp q)), if_neg h104]
    · rw [if_neg htd, if_neg htd, if_pos rfl, C_fl hj, ob, tFl_law hjl]
      cases law
      · rw [if_pos (show bI false = 0 from rfl), if_neg (by decide)]
        exact J pw.2 0 w2 w1 (by omega) (by omega)
      · rw [if_neg (show ¬ bI true = 0 by decide), if_pos rfl, C_gC, if_pos rfl, C_number hE hb hT pw.2 w2]
        cases hz : pNum T E pw.2 with
        | none =>
          simp only []
          rw [bd2_some, if_pos (by decide)]
        | some z =>
          obtain ⟨z1, z2, z3⟩ := pNum_ok hz
          simp only []
          have e11 : pW T E 11 (lenN 11) 0 z.2 = if cAt T E z.2 = 32 then (true, z.2 + 1) else (false, z.2) := by
            show (if cAt T E z.2 = chrN 11 0 then (true, z.2 + 1) else (false, z.2)) = _
            rw [show chrN 11 0 = 32 from rfl]
          rw [bd2_some, if_neg (nI_pos (by omega)), C_gC, if_pos rfl, C_word hρ hE hb hT (show 11 < 15 by omega) z.2 z3, bd2_some, bI_if, e11]
          by_cases h32 : cAt T E z.2 = 32
          · have hp1 : z.2 < E := cAt_lt h32 (by omega)
            rw [if_pos h32, if_pos h32, if_pos rfl]
            exact J (z.2 + 1) z.1 hp1 (by omega) (by omega) z1
          · rw [if_neg h32, if_neg h32, if_neg (by simp)]
end CCL
