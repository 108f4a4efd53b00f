/-! BOTH: plan, law -/
theorem hK_tr {n : Nat} {ρ : Nat → Nat} {k k' : KK} {A : HSt} (h : hK n ρ k A = hK n ρ k' A) (B : HSt) : hK n ρ k B = hK n ρ k' B := by
  refine Prod.ext (funext fun a => ?_) rfl
  have e : (if n ≤ a ∧ a < n + 65 then KCell n ρ k a else A.1 a) = (if n ≤ a ∧ a < n + 65 then KCell n ρ k' a else A.1 a) := congrFun (congrArg Prod.fst h) a
  show (if n ≤ a ∧ a < n + 65 then KCell n ρ k a else B.1 a) = (if n ≤ a ∧ a < n + 65 then KCell n ρ k' a else B.1 a)
  by_cases c : n ≤ a ∧ a < n + 65
  · rw [if_pos c, if_pos c] at e
    rw [if_pos c, if_pos c, e]
  · rw [if_neg c, if_neg c]
theorem Sim_of {α : Type} {n : Nat} {ρ : Nat → Nat} {F G : HSt → Option (α × HSt)} (H : ∀ (o : MO) (c : MC) (tx gx : Nat → List Cl) (k : KK) (B : HSt), Rel n o tx gx k B → ∀ C : HSt, ∃ (v : α) (o' : MO) (c' : MC) (tx' gx' : Nat → List Cl) (k' : KK), F (hK n ρ k (hM (n + 65) o c B)) = some (v, hK n ρ k' (hM (n + 65) o c B)) ∧ G (hM (n + 65) o c C) = some (v, hM (n + 65) o' c' C) ∧ Rel n o' tx' gx' k' B) : Sim n ρ F G := by
  intro o c tx gx k B hR
  obtain ⟨v1, o1, c1, tx1, gx1, k1, f1, g1, r1⟩ := H o c tx gx k B hR B
  obtain ⟨v, o', c', tx', gx', k', f2, g2, r2⟩ := H o c tx gx k B hR (hK n ρ k1 B)
  have e := (Prod.mk.inj (Option.some.inj (f1.symm.trans f2))).2
  have e2 := hK_tr e B
  refine ⟨v, o', c', tx', gx', k', B, f2, ?_, r2⟩
  rw [← e2]
  exact g2
section PL2
variable {n j a E : Nat} {law : Bool} {ρ : Nat → Nat}
theorem M_reads {m : Nat} {o : MO} {c : MC} {C : HSt} {s : Nat → Int32} (h4 : s 4 = nI E) (ha : a < 10) : f_X12_reads ρ (hM m (oS o s) c C) m (nI a) = f_X12_reads_L55 ρ m (f_X12_reads_K130 m (nI a)) FU 0 1 (hM m (oS o (upd (upd s 4 0) (325 + a) 0)) (sc (cI (cI c 4 (nI a)) 6 (nI E)) 0 false 0) C) := by
  unfold f_X12_reads
  have e : (325 : Int32) + nI a = nI (325 + a) := by rw [show (325 : Int32) = nI 325 from rfl, nI_add]
  rw [mP_4, ob, mR_1, ob, mA_4, ob, show (oS o s).1 4 = s 4 from rfl, h4, mP_6, ob, mR_1, ob, mS_s m (oS o s) _ C (i := 4) (k := 4) rfl (by omega), ob, mR_1, ob, mI_4, ob, show (cI (cI c 4 (nI a)) 6 (nI E)).1 4 = nI a from rfl, mS_s m _ _ C (k := 325 + a) e (by omega), ob, mP_5, ob, mP_7, ob, mP_8, ob]
  have e2 : cI (cI (cI (cI (cI c 4 (nI a)) 6 (nI E)) 5 0) 7 0) 8 0 = sc (cI (cI c 4 (nI a)) 6 (nI E)) 0 false 0 := by
    refine Prod.ext (funext fun i => ?_) rfl
    show upd (upd (upd (cI (cI c 4 (nI a)) 6 (nI E)).1 5 0) 7 0) 8 0 i = if i = 5 then nI 0 else if i = 7 then bI false else if i = 8 then nI 0 else (cI (cI c 4 (nI a)) 6 (nI E)).1 i
    by_cases h8 : i = 8
    · subst h8; rw [pk_us]; rfl
    rw [pk_un h8]
    by_cases h7 : i = 7
    · subst h7; rw [pk_us]; rfl
    rw [pk_un h7]
    by_cases h5 : i = 5
    · subst h5; rw [pk_us]; rfl
    rw [pk_un h5, if_neg h5, if_neg h7, if_neg h8]
  rw [e2]
  rfl
def clr (y : XT) : XT := (upd (upd (upd (upd (upd y.1 6 0) 7 0) 8 0) 9 1) 10 0, y.2)
theorem C_into {k : KK} {B : HSt} (hj : j < 10) (hz : (kTp k).2.1 = nI E) : f_X6_readInto ρ (hK n ρ k B) (n + 2) (txA n j) = bd2 (f_X6_readClause ρ (CS n ρ k j (kTp k).1 E B 0 (clr (kTx k j))) (n + 2) (txA n j)) fun v S => f_X6_readInto_L23 ρ (n + 2) (txA n j) (f_X6_readInto_K64 (n + 2)) FU v 1 S := by
  have e : f_X7_clear (hT (txA n j) (tLet ρ j) (tFl j) (kTx k j) (hK n ρ k B)) (txA n j) = some (hT (txA n j) (tLet ρ j) (tFl j) (clr (kTx k j)) (hK n ρ k B)) := by
    unfold f_X7_clear
    rw [TP_6, ob, TP_7, ob, TP_8, ob, TP_9, ob, TP_10, ob]
    rfl
  rw [← hK_tx0 n ρ k B hj, hK_tx n ρ k B hj] at e
  have e2 := PP_2 (n + 2) (kTp k) (hK n ρ (kuTx k j (clr (kTx k j))) B) 0
  rw [hK_tp, hK_tp, hz] at e2
  have e2 : pV (hK n ρ (kuTx k j (clr (kTx k j))) B) (n + 2) 6 2 (.int 0) = some (CS n ρ k j (kTp k).1 E B 0 (clr (kTx k j))) := e2
  unfold f_X6_readInto
  rw [gC_tx hj, if_pos rfl, e, ob, e2, ob, C_gC, if_pos rfl]
theorem J_text (hρ : rhoOk ρ) {o : MO} {tx gx : Nat → List Cl} {k : KK} {B : HSt} (hR : Rel n o tx gx k B) {c : MC} {C B' : HSt} {i : Nat} (hi : i < 5) (ha : a = if law then 5 + i else i) (hj : j = txj law i) {s1 : Nat → Int32} (h1 : ∀ u, (law = true ∨ u ≠ 310 + a) → u ≠ 315 + a → s1 u = o.1 u) (hd : if law = true then s1 (315 + a) = 0 else s1 (310 + a) = 0 ∧ s1 (315 + a) = 1) :
    ∃ (fin : Bool) (p' : Nat) (s' : Nat → Int32) (c' : MC) (y' : XT), f_X12_reads ρ (hM (n + 65) (oS o s1) c C) (n + 65) (nI a) = some (if fin = true then nI a else -10 - nI p', hM (n + 65) (oS o s') c' C) ∧ f_X6_readInto ρ (hK n ρ k B') (n + 2) (txA n j) = some (if fin = true then -1 else nI p', hK n ρ (kuTp (kuTx k j y') ((kTp k).1, 0, nI p')) B') ∧ p' ≤ 120 ∧ OUTt law a o.1 s' ∧ (fin = true → ∃ cls E, E ≤ 120 ∧ JT law a s' y' cls E ∧ cls.length ≤ 8) := by
  obtain ⟨⟨hs, ho, htp, hz⟩, hk, hx, hkp, hB, htc, him⟩ := hR
  have ha10 : a < 10 := by cases law <;> simp at ha <;> omega
  have hj10 : j < 10 := by
    rw [hj]
    unfold txj
    split <;> omega
  have hjl : j % 2 = if law then 1 else 0 := by
    rw [hj]
    unfold txj
    cases law
    · show 2 * i % 2 = 0; omega
    · show (2 * i + 1) % 2 = 1; omega
  have hal : law = lawB a := by
    unfold lawB
    rcases Bool.eq_false_or_eq_true law with h | h
    · rw [h] at ha ⊢
      have ha : a = 5 + i := ha
      exact (decide_eq_true (by omega)).symm
    · rw [h] at ha ⊢
      have ha : a = i := ha
      exact (decide_eq_false (by omega)).symm
  have n4 := hs.2.2.2.2.2.1
  have e4 : o.1 4 = nI (sN o.1 4) := hs.1 4 (by omega)
  have lo : ∀ u, u < 310 → s1 u = o.1 u := fun u hu => h1 u (Or.inr (by omega)) (by omega)
  have g4 : s1 4 = nI (sN o.1 4) := (lo 4 (by omega)).trans e4
  have e5 : (kTp k).2.1 = nI (sN o.1 4) := hkp.1.trans e4
  generalize hE : sN o.1 4 = E at *
  have hT : ∀ u, u < E → sN o.1 (10 + u) < 256 := fun u hu => (htp u (by omega)).2
  have hb : ∀ u, u < E → (kTp k).1 u &&& 255 = nI (sN o.1 (10 + u)) := fun u hu => ((hkp.2 u (by omega)).1).trans (htp u (by omega)).1
  have ht : tpS (fun u => sN o.1 (10 + u)) E (upd (upd s1 4 0) (325 + a) 0) := fun u hu => by
    rw [pk_un (by omega), pk_un (by omega), lo _ (by omega)]
    exact (htp u (by omega)).1
  have J0 : JT law a (upd (upd s1 4 0) (325 + a) 0) (clr (kTx k j)) [] 0 := by
    refine ⟨⟨trivial, pk_us, Nat.le_refl _⟩, ⟨rfl, rfl, trivial, Nat.le_refl _⟩, (fun c hc => by cases hc), ?_⟩
    unfold JH
    rw [pk_un (show 315 + a ≠ 325 + a by omega), pk_un (show 315 + a ≠ 4 by omega), pk_un (show 310 + a ≠ 325 + a by omega), pk_un (show 310 + a ≠ 4 by omega)]
    by_cases h : law = true
    · rw [if_pos h] at hd ⊢
      exact ⟨hd, 0, by omega, rfl⟩
    · rw [if_neg h] at hd ⊢
      exact ⟨⟨hd.1, 0, by omega, rfl⟩, hd.2, 1, by omega, rfl⟩
  obtain ⟨fin, p', w, s', y', r1, r2, r3, r4, r5⟩ := J_loop (m := n + 65) (n := n) (o := o) (c := cI (cI c 4 (nI a)) 6 (nI E)) (C := C) (B := B') (k := k) (s0 := upd (upd s1 4 0) (325 + a) 0) hρ hj10 hjl (show nI a = nI a from rfl) (show nI E = nI E from rfl) ha10 hal n4 hT hb 7 0 0 FU FU _ _ [] rfl (by show 8 < 100000; omega) (by show 8 < 100000; omega) (Nat.zero_le _) ht J0 (Nat.le_refl _) (fun _ _ _ _ _ => rfl)
  refine ⟨fin, p', s', sc (cI (cI c 4 (nI a)) 6 (nI E)) p' w 0, y', ?_, ?_, by omega, ⟨?_, fun u q1 q2 q3 q4 q5 => ?_⟩, fun h => ?_⟩
  · rw [M_reads g4 ha10]
    exact r1
  · rw [C_into hj10 e5]
    exact r2
  · rw [r4 4 (by omega) (by omega) (Or.inr (by omega)) (by omega), pk_un (by omega), pk_us]
  · rw [r4 u q2 q3 q4 q5, pk_un q2, pk_un q1]
    exact h1 u q4 q5
  · obtain ⟨cls, j1, j2⟩ := r5 h
    exact ⟨cls, E, n4, j1, j2⟩
theorem Sim_plan (hρ : rhoOk ρ) : Sim n ρ (fun S => f_X11_plan ρ S n) (fun S => f_X12_plan ρ S (n + 65)) := by
  refine Sim_of fun o c tx gx k B hR C => ?_
  have hs := hR.1.1
  have hk := hR.2.1
  have n2 := hs.2.2.2.1
  have e2 : o.1 2 = nI (sN o.1 2) := hs.1 2 (by omega)
  generalize hA : sN o.1 2 = A at *
  have k5 : k.1 5 = nI A := hk.2.2.1.trans e2
  by_cases h5 : A = 5
  · refine ⟨-4, o, c, tx, gx, k, ?_, ?_, hR⟩
    · show f_X11_plan ρ (hK n ρ k (hM (n + 65) o c B)) n = _
      unfold f_X11_plan
      rw [KI_5, ob, k5, h5, if_neg (by decide)]
    · show f_X12_plan ρ (hM (n + 65) o c C) (n + 65) = _
      unfold f_X12_plan
      rw [mR_1, ob, mA_2, ob, e2, h5, if_pos (by decide)]
  · have hA5 : A < 5 := by omega
    obtain ⟨fin, p', s', c', y', M1, C1, r3, r4, r5⟩ := J_text (law := false) (a := A) (j := 2 * A) (c := c) (C := C) (B' := hM (n + 65) o c B) (s1 := upd (upd o.1 (310 + A) 0) (315 + A) 1) hρ hR hA5 rfl rfl (fun u q1 q2 => by
      have q1 : u ≠ 310 + A := q1.elim (fun h => by cases h) id
      rw [pk_un q2, pk_un q1]) ⟨by rw [pk_un (by omega), pk_us], pk_us⟩
    have R1 := Rel_pre (law := false) (a := A) hR hA5 rfl (by show sN o.1 2 ≤ A; omega) rfl r4 y' (kTp k).1 (nI p')
    have R1 : Rel n (oS o s') tx gx (kuTp (kuTx k (2 * A) y') ((kTp k).1, 0, nI p')) B := R1
    have s2 : s' 2 = nI A := (r4.2 2 (by omega) (by omega) (by omega) (Or.inr (by omega)) (by omega)).trans e2
    have S12 : f_X12_plan ρ (hM (n + 65) o c C) (n + 65) = some (if fin = true then nI A else -10 - nI p', hM (n + 65) (oS o (if fin = true then upd s' 2 (nI (A + 1)) else s')) c' C) := by
      unfold f_X12_plan
      rw [mR_1, ob, mA_2, ob, e2, if_neg (show ¬ nI A = (5 : Int32) from fun q => h5 ((nI_eq (b := 5) (by omega) (by omega)).mp q)), ob, mS_s (n + 65) o c C (k := 310 + A) (by rw [show (310 : Int32) = nI 310 from rfl, nI_add]) (by omega), ob, mR_1, ob, mS_s (n + 65) _ c C (k := 315 + A) (by rw [show (315 : Int32) = nI 315 from rfl, nI_add]) (by omega), ob, hM_C, if_pos rfl]
      rw [show hM (n + 65) (oS (oS o (upd o.1 (310 + A) 0)) (upd (oS o (upd o.1 (310 + A) 0)).1 (315 + A) 1)) c C = hM (n + 65) (oS o (upd (upd o.1 (310 + A) 0) (315 + A) 1)) c C from rfl, M1, bd2_some]
      cases fin
      · rw [show (if false = true then nI A else -10 - nI p') = -10 - nI p' from rfl, if_neg (show ¬ (0 : Int32) ≤ -10 - nI p' from by
          have : ∀ p, p < 121 → ¬ (0 : Int32) ≤ -10 - nI p := by decide +kernel
          exact this p' (by omega))]
        rfl
      · rw [show (if true = true then nI A else -10 - nI p') = nI A from rfl, if_pos (show (0 : Int32) ≤ nI A from nI_le (a := 0) (by omega) (by omega)), mR_1, ob, mA_2, ob, mS_s (n + 65) _ c' C (i := 2) (k := 2) rfl (by omega), ob, show (oS o s').1 2 = nI A from s2, nI_1]
        rfl
    have S11 : f_X11_plan ρ (hK n ρ k (hM (n + 65) o c B)) n = some (if fin = true then nI A else -10 - nI p', hK n ρ (if fin = true then kuI (kuTp (kuTx k (2 * A) y') ((kTp k).1, 0, nI p')) 5 (nI (A + 1)) else kuTp (kuTx k (2 * A) y') ((kTp k).1, 0, nI p')) (hM (n + 65) o c B)) := by
      unfold f_X11_plan
      rw [KI_5, ob, k5, if_pos (show nI A < (5 : Int32) from nI_lt (b := 5) hA5 (by omega)), KR_3, ob, KR_4, ob, ob, KA_4 _ _ _ _ rfl hA5, ob, oC_some, gC_tp, if_pos rfl, C1, bd2_some]
      cases fin
      · rw [show (if false = true then (-1 : Int32) else nI p') = nI p' from rfl, if_neg (nI_m1 (b := p') (by omega))]
        rfl
      · rw [show (if true = true then (-1 : Int32) else nI p') = -1 from rfl, if_pos rfl, KI_5, ob, show (kuTp (kuTx k (2 * A) y') ((kTp k).1, 0, nI p')).1 5 = k.1 5 from rfl, k5, nI_1, KP_5, ob]
        rfl
    refine ⟨if fin = true then nI A else -10 - nI p', oS o (if fin = true then upd s' 2 (nI (A + 1)) else s'), c', ?_⟩
    cases fin
    · exact ⟨tx, gx, _, S11, S12, R1⟩
    · obtain ⟨cls, E, hE, j1, j2⟩ := r5 rfl
      refine ⟨fun u => if u = A then cls else tx u, gx, _, S11, S12, ?_⟩
      have c2 : sN s' 2 = A := by unfold sN; rw [s2, nN_nI (by omega)]
      exact Rel_more (law := false) (a := A) (i := A) (j := 2 * A) (y := y') (cls := cls) R1 hA5 rfl c2 rfl (if_pos rfl) j1 hE j2
theorem Sim_law (hρ : rhoOk ρ) : Sim n ρ (fun S => f_X11_law ρ S n) (fun S => f_X12_law ρ S (n + 65)) := by
  refine Sim_of fun o c tx gx k B hR C => ?_
  have hs := hR.1.1
  have hk := hR.2.1
  have n3 := hs.2.2.2.2.1
  have e3 : o.1 3 = nI (sN o.1 3) := hs.1 3 (by omega)
  generalize hA : sN o.1 3 = A at *
  have k7 : k.1 7 = nI A := hk.2.2.2.1.trans e3
  by_cases h5 : A = 5
  · refine ⟨-4, o, c, tx, gx, k, ?_, ?_, hR⟩
    · show f_X11_law ρ (hK n ρ k (hM (n + 65) o c B)) n = _
      unfold f_X11_law
      rw [KI_7, ob, k7, h5, if_neg (by decide)]
    · show f_X12_law ρ (hM (n + 65) o c C) (n + 65) = _
      unfold f_X12_law
      rw [mR_1, ob, mA_3, ob, e3, h5, if_pos (by decide)]
  · have hA5 : A < 5 := by omega
    have eq5 : ∀ u : Nat, 315 + (5 + u) = 320 + u := fun u => by omega
    obtain ⟨fin, p', s', c', y', M1, C1, r3, r4, r5⟩ := J_text (law := true) (a := 5 + A) (j := 2 * A + 1) (c := c) (C := C) (B' := hM (n + 65) o c B) (s1 := upd o.1 (320 + A) 0) hρ hR hA5 rfl rfl (fun u q1 q2 => by
      rw [pk_un (by omega)]) (by rw [if_pos rfl, eq5, pk_us])
    have R1 := Rel_pre (law := true) (a := 5 + A) hR hA5 rfl (by show sN o.1 3 ≤ A; omega) rfl r4 y' (kTp k).1 (nI p')
    have R1 : Rel n (oS o s') tx gx (kuTp (kuTx k (2 * A + 1) y') ((kTp k).1, 0, nI p')) B := R1
    have s3 : s' 3 = nI A := (r4.2 3 (by omega) (by omega) (by omega) (Or.inl rfl) (by omega)).trans e3
    have S12 : f_X12_law ρ (hM (n + 65) o c C) (n + 65) = some (if fin = true then nI A else -10 - nI p', hM (n + 65) (oS o (if fin = true then upd s' 3 (nI (A + 1)) else s')) c' C) := by
      unfold f_X12_law
      rw [mR_1, ob, mA_3, ob, e3, if_neg (show ¬ nI A = (5 : Int32) from fun q => h5 ((nI_eq (b := 5) (by omega) (by omega)).mp q)), ob, mS_s (n + 65) o c C (k := 320 + A) (by rw [show (320 : Int32) = nI 320 from rfl, nI_add]) (by omega), ob, hM_C, if_pos rfl, show (5 : Int32) + nI A = nI (5 + A) by rw [show (5 : Int32) = nI 5 from rfl, nI_add], M1, bd2_some]
      cases fin
      · rw [show (if false = true then nI (5 + A) else -10 - nI p') = -10 - nI p' from rfl, if_neg (show ¬ (0 : Int32) ≤ -10 - nI p' from by
          have : ∀ p, p < 121 → ¬ (0 : Int32) ≤ -10 - nI p := by decide +kernel
          exact this p' (by omega))]
        rfl
      · rw [show (if true = true then nI (5 + A) else -10 - nI p') = nI (5 + A) from rfl, if_pos (show (0 : Int32) ≤ nI (5 + A) from nI_le (a := 0) (by omega) (by omega)), mR_1, ob, mA_3, ob, mS_s (n + 65) _ c' C (i := 3) (k := 3) rfl (by omega), ob, show (oS o s').1 3 = nI A from s3, nI_1]
        rfl
    have S11 : f_X11_law ρ (hK n ρ k (hM (n + 65) o c B)) n = some (if fin = true then nI A else -10 - nI p', hK n ρ (if fin = true then kuI (kuTp (kuTx k (2 * A + 1) y') ((kTp k).1, 0, nI p')) 7 (nI (A + 1)) else kuTp (kuTx k (2 * A + 1) y') ((kTp k).1, 0, nI p')) (hM (n + 65) o c B)) := by
      unfold f_X11_law
      rw [KI_7, ob, k7, if_pos (show nI A < (5 : Int32) from nI_lt (b := 5) hA5 (by omega)), KR_3, ob, KR_6, ob, ob, KA_5 _ _ _ _ rfl hA5, ob, oC_some, gC_tp, if_pos rfl, C1, bd2_some]
      cases fin
      · rw [show (if false = true then (-1 : Int32) else nI p') = nI p' from rfl, if_neg (nI_m1 (b := p') (by omega))]
        rfl
      · rw [show (if true = true then (-1 : Int32) else nI p') = -1 from rfl, if_pos rfl, KI_7, ob, show (kuTp (kuTx k (2 * A + 1) y') ((kTp k).1, 0, nI p')).1 7 = k.1 7 from rfl, k7, nI_1, KP_7, ob]
        rfl
    refine ⟨if fin = true then nI A else -10 - nI p', oS o (if fin = true then upd s' 3 (nI (A + 1)) else s'), c', ?_⟩
    cases fin
    · exact ⟨tx, gx, _, S11, S12, R1⟩
    · obtain ⟨cls, E, hE, j1, j2⟩ := r5 rfl
      refine ⟨fun u => if u = 5 + A then cls else tx u, gx, _, S11, S12, ?_⟩
      have c2 : sN s' 3 = A := by unfold sN; rw [s3, nN_nI (by omega)]
      exact Rel_more (law := true) (a := 5 + A) (i := A) (j := 2 * A + 1) (y := y') (cls := cls) R1 hA5 rfl c2 rfl (if_pos rfl) j1 hE j2
end PL2
