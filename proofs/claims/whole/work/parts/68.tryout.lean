/-! BOTH: tryout -/
section TRYOUT
variable {n : Nat} {ρ : Nat → Nat}
theorem hNew_K {k : KK} {B : HSt} (e : HC) (hB : n + 65 ≤ B.2) : hNew (hK n ρ k B) e = hK n ρ k (hNew B e) := by
  refine Prod.ext (funext fun b => ?_) rfl
  show (if b = B.2 then some e else if n ≤ b ∧ b < n + 65 then KCell n ρ k b else B.1 b) = if n ≤ b ∧ b < n + 65 then KCell n ρ k b else if b = B.2 then some e else B.1 b
  by_cases hb : b = B.2
  · subst hb
    rw [if_pos rfl, if_neg (by omega), if_pos rfl]
  · rw [if_neg hb, if_neg hb]
theorem hNew_M {m : Nat} {o : MO} {c : MC} {B : HSt} (e : HC) (hB : m + 8 ≤ B.2) : hNew (hM m o c B) e = hM m o c (hNew B e) := by
  refine Prod.ext (funext fun b => ?_) rfl
  show (if b = B.2 then some e else if m ≤ b ∧ b < m + 8 then mCell m o c b else B.1 b) = if m ≤ b ∧ b < m + 8 then mCell m o c b else if b = B.2 then some e else B.1 b
  by_cases hb : b = B.2
  · subst hb
    rw [if_pos rfl, if_neg (by omega), if_pos rfl]
  · rw [if_neg hb, if_neg hb]
theorem pVT_new {k : KK} {B : HSt} {ci j : Nat} {fs : List Value} {v : Value} (hB : n + 65 ≤ B.2) (hc : hKin ci = true) (hj : j < fs.length) : pVT (hK n ρ k (hNew B (.inr (ci, fs)))) B.2 j v = some (hK n ρ k (hNew B (.inr (ci, fs.set j v)))) := by
  rw [pVT_B (B := hNew B (.inr (ci, fs))) hB (show (hNew B (.inr (ci, fs))).1 B.2 = some (.inr (ci, fs)) from if_pos rfl) hc hj]
  refine congrArg some (congrArg (hK n ρ k) ?_)
  refine Prod.ext (funext fun b => ?_) rfl
  show (if b = B.2 then _ else if b = B.2 then _ else B.1 b) = if b = B.2 then _ else B.1 b
  by_cases hb : b = B.2
  · rw [if_pos hb, if_pos hb]
  · rw [if_neg hb, if_neg hb, if_neg hb]
def nwF (q : Nat) : List Value := [.ref q, .int 0, .int 0, .int 0, .int 0, .int 0, .int 0, .int 0, .int 0]
theorem made_one {k : KK} {B : HSt} (hB : n + 65 ≤ B.2) {ci : Nat} (hc : hKin ci = true) : f_X9_init (hK n ρ k (hNew B (.inr (ci, [.null, .int 0, .int 0, .int 0, .int 0, .int 0, .int 0, .int 0, .int 0])))) B.2 (n + 10) = some (hK n ρ k (hNew B (.inr (ci, nwF (n + 10))))) := by
  unfold f_X9_init
  rw [pVT_new hB hc (by decide), ob]
  rfl
theorem X11_made {k : KK} {B : HSt} (hB : n + 65 ≤ B.2) {kd : Nat} (hk : kd < 7) : f_X11_madeOfKind (hK n ρ k B) n (nI kd) = some (some B.2, hK n ρ k (hNew B (.inr (kcN kd, nwF (n + 10))))) := by
  have e : ∀ x : HC, hNew (hK n ρ k B) x = hK n ρ k (hNew B x) := fun x => hNew_K x hB
  have e2 : (hK n ρ k B).2 = B.2 := rfl
  have q9 := made_one (ρ := ρ) (k := k) hB (show hKin 9 = true from rfl)
  have q2 := made_one (ρ := ρ) (k := k) hB (show hKin 2 = true from rfl)
  have q0 := made_one (ρ := ρ) (k := k) hB (show hKin 0 = true from rfl)
  have q5 := made_one (ρ := ρ) (k := k) hB (show hKin 5 = true from rfl)
  have q3 := made_one (ρ := ρ) (k := k) hB (show hKin 3 = true from rfl)
  have q1 := made_one (ρ := ρ) (k := k) hB (show hKin 1 = true from rfl)
  have q10 := made_one (ρ := ρ) (k := k) hB (show hKin 10 = true from rfl)
  unfold f_X11_madeOfKind
  rcases kd_cases hk with h | h | h | h | h | h | h <;> subst h
  · rw [if_neg (by decide), if_neg (by decide), if_neg (by decide), if_neg (by decide), if_neg (by decide), if_neg (by decide), hqn_eq, e, KR_10, ob, e2, q9, ob]; rfl
  · rw [if_pos (show nI 1 = 1 from rfl), hqn_eq, e, KR_10, ob, e2]
    unfold f_X2_init
    rw [q2, ob, ob]; rfl
  · rw [if_neg (by decide), if_pos (show nI 2 = 2 from rfl), hqn_eq, e, KR_10, ob, e2]
    unfold f_X0_init
    rw [q0, ob, ob]; rfl
  · rw [if_neg (by decide), if_neg (by decide), if_pos (show nI 3 = 3 from rfl), hqn_eq, e, KR_10, ob, e2]
    unfold f_X5_init
    rw [q5, ob, ob]; rfl
  · rw [if_neg (by decide), if_neg (by decide), if_neg (by decide), if_pos (show nI 4 = 4 from rfl), hqn_eq, e, KR_10, ob, e2]
    unfold f_X3_init f_X0_init
    rw [q3, ob, ob, ob]; rfl
  · rw [if_neg (by decide), if_neg (by decide), if_neg (by decide), if_neg (by decide), if_pos (show nI 5 = 5 from rfl), hqn_eq, e, KR_10, ob, e2]
    unfold f_X1_init f_X0_init
    rw [q1, ob, ob, ob]; rfl
  · rw [if_neg (by decide), if_neg (by decide), if_neg (by decide), if_neg (by decide), if_neg (by decide), if_pos (show nI 6 = 6 from rfl), hqn_eq, e, KR_10, ob, e2]
    unfold f_X10_init f_X5_init
    rw [q10, ob, ob, ob]; rfl
/-- a new try's columns in s -/
def newS (s : Nat → Int32) (t : Nat) (a b c d e : Int32) : Nat → Int32 := upd (upd (upd (upd (upd (upd (upd s (130 + t) a) (160 + t) b) (190 + t) c) (220 + t) d) (250 + t) e) (280 + t) 0) 1 (nI (t + 1))
theorem newS_o (s : Nat → Int32) {t : Nat} (a b c d e : Int32) {i : Nat} (h1 : i ≠ 1) (h2 : i ≠ 130 + t) (h3 : i ≠ 160 + t) (h4 : i ≠ 190 + t) (h5 : i ≠ 220 + t) (h6 : i ≠ 250 + t) (h7 : i ≠ 280 + t) : newS s t a b c d e i = s i := by
  unfold newS
  rw [pk_un h1, pk_un h7, pk_un h6, pk_un h5, pk_un h4, pk_un h3, pk_un h2]
theorem newS_t (s : Nat → Int32) {t : Nat} (ht : t < 30) (a b c d e : Int32) : newS s t a b c d e (130 + t) = a ∧ newS s t a b c d e (160 + t) = b ∧ newS s t a b c d e (190 + t) = c ∧ newS s t a b c d e (220 + t) = d ∧ newS s t a b c d e (250 + t) = e ∧ newS s t a b c d e (280 + t) = 0 ∧ newS s t a b c d e 1 = nI (t + 1) := by
  unfold newS
  refine ⟨?_, ?_, ?_, ?_, ?_, ?_, pk_us⟩
  · rw [pk_un (by omega), pk_un (by omega), pk_un (by omega), pk_un (by omega), pk_un (by omega), pk_un (by omega), pk_us]
  · rw [pk_un (by omega), pk_un (by omega), pk_un (by omega), pk_un (by omega), pk_un (by omega), pk_us]
  · rw [pk_un (by omega), pk_un (by omega), pk_un (by omega), pk_un (by omega), pk_us]
  · rw [pk_un (by omega), pk_un (by omega), pk_un (by omega), pk_us]
  · rw [pk_un (by omega), pk_un (by omega), pk_us]
  · rw [pk_un (by omega), pk_us]
theorem Sim_tryout (man day kind pipe said : Int32) : Sim n ρ (fun S => f_X11_tryout S n man day kind pipe said) (fun S => f_X12_tryout S (n + 65) man day kind pipe said) := by
  intro o c tx gx k B hR
  obtain ⟨⟨hs, ho, htp, hz⟩, hk, hx, hkp, hB, htc, him⟩ := hR
  have hn := hs.2.2.1
  have hp := hs.2.1
  have hk' := KR_hM o c hk
  have e1 := hs.1 1 (by omega)
  have eK1 : k.1 2 = nI (sN o.1 1) := hk.2.1.trans e1
  have hsame : Rel n o tx gx k B := ⟨⟨hs, ho, htp, hz⟩, hk, hx, hkp, hB, htc, him⟩
  have U11 : f_X11_tryout (hK n ρ k (hM (n + 65) o c B)) n man day kind pipe said = if isN man 6 = true then (if isN kind 7 = true then (if isN pipe (sN o.1 0) = true then (if isN said (sN o.1 0) = true then (if isN day 100 = true then (if nI (sN o.1 1) < 30 then (bd2 (f_X11_madeOfKind (hK n ρ k (hM (n + 65) o c B)) n kind) fun b27 S26 => oC b27 ((gI S26 n 11 2).bind fun v29 => none) fun r28 => (gI S26 n 11 2).bind fun v31 => (pVT S26 r28 1 (.int v31)).bind fun S33 => (pVT S33 r28 2 (.int man)).bind fun S35 => (pVT S35 r28 3 (.int day)).bind fun S37 => (pVT S37 r28 4 (.int kind)).bind fun S39 => (pVT S39 r28 5 (.int pipe)).bind fun S41 => (pVT S41 r28 6 (.int said)).bind fun S43 => hqn ((if 0 ≤ (said - pipe) then (said - pipe) else 0 - (said - pipe) : Int32)) fun (v45 : Int32) => (pVT S43 r28 7 (.int v45)).bind fun S46 => (gR S46 n 11 1).bind fun b48 => (gI S46 n 11 2).bind fun v50 => if gK S46 r28 = true then ((sQ S46 b48 4 v50 r28).bind fun S53 => (gI S53 n 11 2).bind fun v55 => (pV S53 n 11 2 (.int (v55 + 1))).bind fun S57 => some (v55, S57)) else none) else some (-4, hK n ρ k (hM (n + 65) o c B))) else some (-2, hK n ρ k (hM (n + 65) o c B))) else some (-1, hK n ρ k (hM (n + 65) o c B))) else some (-1, hK n ρ k (hM (n + 65) o c B))) else some (-1, hK n ρ k (hM (n + 65) o c B))) else some (-1, hK n ρ k (hM (n + 65) o c B)) := by
    unfold f_X11_tryout
    rw [X11_isMan, bd2_some, bI_if, X11_isKind, bd2_some, bI_if, hK_C, if_pos rfl, X11_isPlace hs hk', bd2_some, bI_if, hK_C, if_pos rfl, X11_isPlace hs hk', bd2_some, bI_if, KI_2, ob, eK1, hK_C, if_pos rfl]
    by_cases h : isN day 100 = true
    · obtain ⟨j, hj, rfl⟩ := isN_of (by omega) h
      rw [if_neg (nI_pos (by omega)), if_pos (show nI j < (100 : Int32) from nI_lt (b := 100) hj (by omega)), if_pos h]
    · rw [if_neg h]
      rcases isN_false (by omega) h with h0 | ⟨h0, h5⟩
      · rw [if_pos h0]
      · rw [if_neg h0, if_neg (show ¬ day < 100 from Int32.not_lt.mpr h5)]
  have U12 : ∀ C : HSt, f_X12_tryout (hM (n + 65) o c C) (n + 65) man day kind pipe said = if isN man 6 = true then (if isN kind 7 = true then (if isN pipe (sN o.1 0) = true then (if isN said (sN o.1 0) = true then (if isN day 100 = true then (if nI (sN o.1 1) = 30 then some (-4, hM (n + 65) o c C) else some (nI (sN o.1 1), hM (n + 65) (oS o (newS o.1 (sN o.1 1) man day kind pipe said)) c C)) else some (-2, hM (n + 65) o c C)) else some (-1, hM (n + 65) o c C)) else some (-1, hM (n + 65) o c C)) else some (-1, hM (n + 65) o c C)) else some (-1, hM (n + 65) o c C) := fun C => by
    unfold f_X12_tryout
    rw [X12_isMan, bd2_some, bI_if, X12_inN kind 7 (by omega) (by decide), bd2_some, bI_if, hM_C, if_pos rfl, X12_isPlace hs, bd2_some, bI_if, hM_C, if_pos rfl, X12_isPlace hs, bd2_some, bI_if, X12_inN day 100 (by omega) (by decide), bd2_some, bI_if, mR_1, ob, mA_1, ob, e1, ob, mA_1, ob, e1, ob]
    by_cases h30 : nI (sN o.1 1) = 30
    · rw [if_pos h30, if_pos h30]
    · have hlt : sN o.1 1 < 30 := by
        have : sN o.1 1 ≠ 30 := fun q => h30 (by rw [q]; rfl)
        omega
      rw [if_neg h30, if_neg h30]
      generalize sN o.1 1 = t at *
      rw [mS_s (n + 65) o c C (i := 130 + nI t) (k := 130 + t) (nI_add 130 t) (by omega), ob, mR_1, ob, mS_s (n + 65) _ c C (i := 160 + nI t) (k := 160 + t) (nI_add 160 t) (by omega), ob, mR_1, ob, mS_s (n + 65) _ c C (i := 190 + nI t) (k := 190 + t) (nI_add 190 t) (by omega), ob, mR_1, ob, mS_s (n + 65) _ c C (i := 220 + nI t) (k := 220 + t) (nI_add 220 t) (by omega), ob, mR_1, ob, mS_s (n + 65) _ c C (i := 250 + nI t) (k := 250 + t) (nI_add 250 t) (by omega), ob, mR_1, ob, mS_s (n + 65) _ c C (i := 280 + nI t) (k := 280 + t) (nI_add 280 t) (by omega), ob, mR_1, ob, mA_1, ob, mS_s (n + 65) _ c C (i := 1) (k := 1) rfl (by omega), ob]
      have ev : upd (upd (upd (upd (upd (upd o.1 (130 + t) man) (160 + t) day) (190 + t) kind) (220 + t) pipe) (250 + t) said) (280 + t) 0 1 = nI t := by
        rw [pk_un (by omega), pk_un (by omega), pk_un (by omega), pk_un (by omega), pk_un (by omega), pk_un (by omega), e1]
      have ev2 : newS o.1 t man day kind pipe said = upd (upd (upd (upd (upd (upd (upd o.1 (130 + t) man) (160 + t) day) (190 + t) kind) (220 + t) pipe) (250 + t) said) (280 + t) 0) 1 (upd (upd (upd (upd (upd (upd o.1 (130 + t) man) (160 + t) day) (190 + t) kind) (220 + t) pipe) (250 + t) said) (280 + t) 0 1 + 1) := by
        rw [ev, nI_1]
        rfl
      rw [ev2]
      rfl
  by_cases h1 : ¬ isN man 6 = true
  · exact ⟨-1, o, c, tx, gx, k, B, U11.trans (by rw [if_neg h1]), (U12 _).trans (by rw [if_neg h1]), hsame⟩
  replace h1 := Decidable.not_not.mp h1
  by_cases h2 : ¬ isN kind 7 = true
  · exact ⟨-1, o, c, tx, gx, k, B, U11.trans (by rw [if_pos h1, if_neg h2]), (U12 _).trans (by rw [if_pos h1, if_neg h2]), hsame⟩
  replace h2 := Decidable.not_not.mp h2
  by_cases h3 : ¬ isN pipe (sN o.1 0) = true
  · exact ⟨-1, o, c, tx, gx, k, B, U11.trans (by rw [if_pos h1, if_pos h2, if_neg h3]), (U12 _).trans (by rw [if_pos h1, if_pos h2, if_neg h3]), hsame⟩
  replace h3 := Decidable.not_not.mp h3
  by_cases h4 : ¬ isN said (sN o.1 0) = true
  · exact ⟨-1, o, c, tx, gx, k, B, U11.trans (by rw [if_pos h1, if_pos h2, if_pos h3, if_neg h4]), (U12 _).trans (by rw [if_pos h1, if_pos h2, if_pos h3, if_neg h4]), hsame⟩
  replace h4 := Decidable.not_not.mp h4
  by_cases h5 : ¬ isN day 100 = true
  · exact ⟨-2, o, c, tx, gx, k, B, U11.trans (by rw [if_pos h1, if_pos h2, if_pos h3, if_pos h4, if_neg h5]), (U12 _).trans (by rw [if_pos h1, if_pos h2, if_pos h3, if_pos h4, if_neg h5]), hsame⟩
  replace h5 := Decidable.not_not.mp h5
  by_cases h6 : ¬ sN o.1 1 < 30
  · have h30 : sN o.1 1 = 30 := by omega
    refine ⟨-4, o, c, tx, gx, k, B, U11.trans ?_, (U12 _).trans ?_, hsame⟩
    · rw [if_pos h1, if_pos h2, if_pos h3, if_pos h4, if_pos h5, h30, if_neg (by decide)]
    · rw [if_pos h1, if_pos h2, if_pos h3, if_pos h4, if_pos h5, h30, if_pos (by rfl)]
  replace h6 := Decidable.not_not.mp h6
  obtain ⟨man, hm, rfl⟩ := isN_of (by omega) h1
  obtain ⟨kind, hkd, rfl⟩ := isN_of (by omega) h2
  obtain ⟨pipe, hpi, rfl⟩ := isN_of (by omega) h3
  obtain ⟨said, hsa, rfl⟩ := isN_of (by omega) h4
  obtain ⟨day, hda, rfl⟩ := isN_of (by omega) h5
  have hT := newS_t o.1 h6 (nI man) (nI day) (nI kind) (nI pipe) (nI said)
  have hO := fun i => newS_o o.1 (t := sN o.1 1) (nI man) (nI day) (nI kind) (nI pipe) (nI said) (i := i)
  generalize hns : newS o.1 (sN o.1 1) (nI man) (nI day) (nI kind) (nI pipe) (nI said) = s' at *
  obtain ⟨t1, t2, t3, t4, t5, t6, t7⟩ := hT
  have m1 : tMan s' (sN o.1 1) = man := by
    show nN (s' (130 + sN o.1 1)) = man
    rw [t1, nN_nI (by omega)]
  have m2 : tDay s' (sN o.1 1) = day := by
    show nN (s' (160 + sN o.1 1)) = day
    rw [t2, nN_nI (by omega)]
  have m3 : tKind s' (sN o.1 1) = kind := by
    show nN (s' (190 + sN o.1 1)) = kind
    rw [t3, nN_nI (by omega)]
  have m4 : tPipe s' (sN o.1 1) = pipe := by
    show nN (s' (220 + sN o.1 1)) = pipe
    rw [t4, nN_nI (by omega)]
  have m5 : tSaid s' (sN o.1 1) = said := by
    show nN (s' (250 + sN o.1 1)) = said
    rw [t5, nN_nI (by omega)]
  have m6 : tExc s' (sN o.1 1) = 0 := by
    show nN (s' (280 + sN o.1 1)) = 0
    rw [t6]
    rfl
  have m7 : sN s' 1 = sN o.1 1 + 1 := by
    show nN (s' 1) = _
    rw [t7, nN_nI (by omega)]
  generalize hN : sN o.1 1 = N at *
  refine ⟨nI N, oS o s', c, tx, gx, kuI (kuTr k (va_up (kTr k) N (some B.2))) 2 (nI (N + 1)), hNew B (.inr (kcN kind, tyF (n + 10) s' N)), U11.trans ?_, (U12 _).trans ?_, ?_⟩
  · rw [if_pos h1, if_pos h2, if_pos h3, if_pos h4, if_pos h5, if_pos (show nI N < (30 : Int32) from nI_lt (b := 30) h6 (by omega)), X11_made (B := hM (n + 65) o c B) (by show n + 65 ≤ B.2; omega) hkd, bd2_some, oC_some, KI_2, ob, eK1]
    have hB2 : n + 65 ≤ (hM (n + 65) o c B).2 := by show n + 65 ≤ B.2; omega
    have hkk := kcN_kin kind
    have F8 : ((((((((nwF (n + 10)).set 1 (.int (nI N))).set 2 (.int (nI man))).set 3 (.int (nI day))).set 4 (.int (nI kind))).set 5 (.int (nI pipe))).set 6 (.int (nI said))).set 7 (.int (nI (dist said pipe)))) = tyF (n + 10) s' N := by
      unfold tyF tNear
      rw [m1, m2, m3, m4, m5, m6, dist_comm]
      rfl
    rw [pVT_new hB2 hkk (by simp [nwF]), ob, pVT_new hB2 hkk (by simp [nwF]), ob, pVT_new hB2 hkk (by simp [nwF]), ob, pVT_new hB2 hkk (by simp [nwF]), ob, pVT_new hB2 hkk (by simp [nwF]), ob, pVT_new hB2 hkk (by simp [nwF]), ob, abs_nI (by omega) (by omega), hqn_eq, pVT_new hB2 hkk (by simp [nwF]), ob, F8, KR_1, ob, KI_2, ob, eK1]
    have hgk : gK (hK n ρ k (hNew (hM (n + 65) o c B) (.inr (kcN kind, tyF (n + 10) s' N)))) (hM (n + 65) o c B).2 = true := by
      unfold gK
      rw [hK_out n ρ k _ (Or.inr hB2), show (hNew (hM (n + 65) o c B) (.inr (kcN kind, tyF (n + 10) s' N))).1 (hM (n + 65) o c B).2 = some (.inr (kcN kind, tyF (n + 10) s' N)) from if_pos rfl]
      exact hkk
    rw [if_pos hgk, KS_1 n ρ k _ (j := N) rfl h6, ob, KI_2, ob, show (kuTr k (va_up (kTr k) N (some (hM (n + 65) o c B).2))).1 2 = nI N from eK1, KP_2, ob, nI_1, hNew_M _ (by omega)]
    rfl
  · rw [if_pos h1, if_pos h2, if_pos h3, if_pos h4, if_pos h5, if_neg (show ¬ nI N = 30 from fun q => by have := (nI_eq (b := 30) (by omega) (by omega)).mp q; omega)]
  · have colT : ∀ t', t' < N → colE o.1 s' t' := fun t' ht' => ⟨hO _ (by omega) (by omega) (by omega) (by omega) (by omega) (by omega) (by omega), hO _ (by omega) (by omega) (by omega) (by omega) (by omega) (by omega) (by omega), hO _ (by omega) (by omega) (by omega) (by omega) (by omega) (by omega) (by omega), hO _ (by omega) (by omega) (by omega) (by omega) (by omega) (by omega) (by omega), hO _ (by omega) (by omega) (by omega) (by omega) (by omega) (by omega) (by omega), hO _ (by omega) (by omega) (by omega) (by omega) (by omega) (by omega) (by omega)⟩
    have lo : ∀ i, i ≠ 1 → i < 130 → s' i = o.1 i := fun i q1 q2 => hO i q1 (by omega) (by omega) (by omega) (by omega) (by omega) (by omega)
    have hi : ∀ i, 310 ≤ i → s' i = o.1 i := fun i q1 => hO i (by omega) (by omega) (by omega) (by omega) (by omega) (by omega) (by omega)
    have hs' : sOk s' := by
      refine ⟨fun i h7 => ?_, ?_, ?_, ?_, ?_, ?_, ?_⟩
      · by_cases hi1 : i = 1
        · subst hi1; rw [m7, t7]
        · rw [sN_e (lo i hi1 (by omega)), lo i hi1 (by omega)]; exact hs.1 i h7
      · rw [sN_e (lo 0 (by omega) (by omega))]; exact hs.2.1
      · rw [m7]; omega
      · rw [sN_e (lo 2 (by omega) (by omega))]; exact hs.2.2.2.1
      · rw [sN_e (lo 3 (by omega) (by omega))]; exact hs.2.2.2.2.1
      · rw [sN_e (lo 4 (by omega) (by omega))]; exact hs.2.2.2.2.2.1
      · intro t' ht'
        rw [m7] at ht'
        by_cases h7 : t' = N
        · subst h7
          unfold tOk
          rw [m1, m2, m3, m4, m5, m6, t1, t2, t3, t4, t5, t6, sN_e (lo 0 (by omega) (by omega))]
          exact ⟨rfl, rfl, rfl, rfl, rfl, rfl, hm, hda, hkd, hpi, hsa, by omega⟩
        · exact colE_ok (colT t' (by omega)) (lo 0 (by omega) (by omega)) (hs.2.2.2.2.2.2 t' (by omega))
    refine ⟨⟨hs', txOk_cong hs (fun i q1 _ => hi i q1) (lo 2 (by omega) (by omega)) (lo 3 (by omega) (by omega)) ho, tpOk_cong hs (fun i q1 => lo _ (by omega) (by omega)) (lo 4 (by omega) (by omega)) htp, fun i q1 => (hi i (by omega)).trans (hz i q1)⟩, ?_, KX_cong hs (fun i q1 _ => hi i q1) (lo 2 (by omega) (by omega)) (lo 3 (by omega) (by omega)) rfl hx, KP_cong hs (fun i q1 => lo _ (by omega) (by omega)) (lo 4 (by omega) (by omega)) hkp, by show n + 73 ≤ B.2 + 1; omega, htc, ?_⟩
    · refine ⟨?_, ?_, ?_, ?_, fun t' ht' => ?_⟩
      · show upd k.1 2 (nI (N + 1)) 0 = s' 0
        rw [pk_un (by omega), lo 0 (by omega) (by omega)]; exact hk.1
      · show upd k.1 2 (nI (N + 1)) 2 = s' 1
        rw [pk_us, t7]
      · show upd k.1 2 (nI (N + 1)) 5 = s' 2
        rw [pk_un (by omega), lo 2 (by omega) (by omega)]; exact hk.2.2.1
      · show upd k.1 2 (nI (N + 1)) 7 = s' 3
        rw [pk_un (by omega), lo 3 (by omega) (by omega)]; exact hk.2.2.2.1
      · have ht' : t' < sN s' 1 := ht'
        rw [m7] at ht'
        show ∃ a, va_up (kTr k) N (some B.2) t' = some a ∧ TA n s' (hNew B (.inr (kcN kind, tyF (n + 10) s' N))) t' a
        by_cases h7 : t' = N
        · subst h7
          refine ⟨B.2, if_pos rfl, hB, Nat.lt_succ_self _, ?_⟩
          rw [m3]
          exact if_pos rfl
        · obtain ⟨a, ha, hA⟩ := hk.2.2.2.2 t' (by omega)
          exact ⟨a, (if_neg h7).trans ha, TA_cong (B := B) (colT t' (by omega)) (Nat.le_succ _) (if_neg (by have := hA.2.1; omega)) hA⟩
    · obtain ⟨h, i1, i2, i3⟩ := him
      refine ⟨h, i1, ?_, fun hh => ?_⟩
      · show upd k.1 2 (nI (N + 1)) 11 = bI h
        rw [pk_un (by omega)]; exact i2
      · have q0 := i3 hh
        have q1 := q0.1.1.2.2.1
        have q2 := q0.2.2.2.1.1
        have q3 := q0.1.1.2.2.2.1
        have q4 := q0.1.1.2.2.2.2.1
        rw [hN] at q2
        have y0 : ∀ i, i ≠ 2 → upd k.1 2 (nI (N + 1)) i = k.1 i := fun i hi => pk_un hi
        refine IMG_cong ⟨y0 12 (by omega), y0 13 (by omega), y0 14 (by omega), y0 15 (by omega)⟩ rfl rfl ?_ (fun t' ht' => ?_) ?_ (fun p hp => ⟨rfl, hi _ (by omega), hi _ (by omega)⟩) ?_ (fun l _ => ⟨rfl, hi _ (by omega)⟩) q0
        · show sN o.1 1 ≤ sN s' 1
          rw [m7, hN]; omega
        · have ht' : t' < sN o.2.1 1 := ht'
          obtain ⟨z1, z2, z3, z4, z5, -⟩ := colT t' (by omega)
          exact ⟨z1, z2, z3, z4, z5⟩
        · show sN o.1 2 ≤ sN s' 2
          rw [sN_e (lo 2 (by omega) (by omega))]; exact Nat.le_refl _
        · show sN o.1 3 ≤ sN s' 3
          rw [sN_e (lo 3 (by omega) (by omega))]; exact Nat.le_refl _
end TRYOUT
