/-! BOTH: barn, excuse, tryout -/
theorem IMG_cong {s s' g : Nat → Int32} {tx tx' gx : Nat → List Cl} {k k' : KK} (hi : k'.1 12 = k.1 12 ∧ k'.1 13 = k.1 13 ∧ k'.1 14 = k.1 14 ∧ k'.1 15 = k.1 15) (ht : kIt k' = kIt k) (he : kIe k' = kIe k) (h1 : sN s 1 ≤ sN s' 1) (hc : ∀ t, t < sN g 1 → s' (130 + t) = s (130 + t) ∧ s' (160 + t) = s (160 + t) ∧ s' (190 + t) = s (190 + t) ∧ s' (220 + t) = s (220 + t) ∧ s' (250 + t) = s (250 + t)) (h2 : sN s 2 ≤ sN s' 2) (hp : ∀ p, p < sN g 2 → tx' p = tx p ∧ s' (310 + p) = s (310 + p) ∧ s' (315 + p) = s (315 + p)) (h3 : sN s 3 ≤ sN s' 3) (hl : ∀ l, l < sN g 3 → tx' (5 + l) = tx (5 + l) ∧ s' (320 + l) = s (320 + l)) (h : IMG s g tx gx k) : IMG s' g tx' gx k' := by
  obtain ⟨a1, ⟨a2, a3, a4, a5⟩, a6, ⟨a7, a8⟩, ⟨a9, a10⟩, ⟨a11, a12⟩⟩ := h
  refine ⟨a1, ⟨by rw [hi.1]; exact a2, by rw [hi.2.1]; exact a3, by rw [hi.2.2.1]; exact a4, by rw [hi.2.2.2]; exact a5⟩, by rw [ht]; exact a6, ⟨by omega, fun t htt => ?_⟩, ⟨by omega, fun p hpp => ?_⟩, ⟨by omega, fun l hll => ?_⟩⟩
  · obtain ⟨b1, b2, b3, b4, b5, b6⟩ := a8 t htt
    obtain ⟨c1, c2, c3, c4, c5⟩ := hc t htt
    rw [c1, c2, c3, c4, c5, he]
    exact ⟨b1, b2, b3, b4, b5, b6⟩
  · obtain ⟨b1, b2, b3⟩ := a10 p hpp
    obtain ⟨c1, c2, c3⟩ := hp p hpp
    rw [c1, c2, c3]
    exact ⟨b1, b2, b3⟩
  · obtain ⟨b1, b2⟩ := a12 l hll
    obtain ⟨c1, c2⟩ := hl l hll
    rw [c1, c2]
    exact ⟨b1, b2⟩
section MOVES
variable {n : Nat} {ρ : Nat → Nat}
theorem Sim_barn (v : Int32) : Sim n ρ (fun S => f_X11_barn S n v) (fun S => f_X12_barn S (n + 65) v) := by
  intro o c tx gx k B hR
  obtain ⟨⟨hs, ho, htp, hz⟩, hk, hx, hkp, hB, htc, him⟩ := hR
  have hk' := KR_hM o c hk
  have e1 := hs.1 1 (by omega)
  have e0 := hs.1 0 (by omega)
  have F0 : f_X11_barn (hK n ρ k (hM (n + 65) o c B)) n v = if 2 ≤ v ∧ v ≤ 100 then (if nI (sN o.1 1) ≤ 0 then some (o.1 0, hK n ρ (kuI k 0 v) (hM (n + 65) o c B)) else some (-3, hK n ρ k (hM (n + 65) o c B))) else some (-2, hK n ρ k (hM (n + 65) o c B)) := by
    unfold f_X11_barn
    rw [lh2, KI_2, ob, hk.2.1, e1, KI_0, ob, KP_0, ob, hk.1]
  have G0 : ∀ C : HSt, f_X12_barn (hM (n + 65) o c C) (n + 65) v = if 2 ≤ v ∧ v ≤ 100 then (if nI (sN o.1 1) ≤ 0 then some (o.1 0, hM (n + 65) (oS o (upd o.1 0 v)) c C) else some (-3, hM (n + 65) o c C)) else some (-2, hM (n + 65) o c C) := fun C => by
    unfold f_X12_barn
    rw [X12_in, bd2_some, lh3, mR_1, ob, mA_1, ob, e1, ob, mA_0, ob, ob, mS_s (n + 65) o c C (i := 0) (k := 0) rfl (by omega), ob]
  by_cases h1 : 2 ≤ v ∧ v ≤ 100
  · by_cases h2 : nI (sN o.1 1) ≤ 0
    · refine ⟨o.1 0, oS o (upd o.1 0 v), c, tx, gx, kuI k 0 v, B, F0.trans (by rw [if_pos h1, if_pos h2]), (G0 _).trans (by rw [if_pos h1, if_pos h2]), ?_⟩
      obtain ⟨j, hj1, hj2, rfl⟩ := btw (n := 100) (m := 2) (by omega) rfl (by omega) h1
      have hn0 : sN o.1 1 = 0 := by
        have := (nI_leI (b := 0) (by have := hs.2.2.1; omega) (by omega)).mp h2
        omega
      have z0 : ∀ i, i ≠ 0 → upd o.1 0 (nI j) i = o.1 i := fun i hi => pk_un hi
      have y0 : ∀ i, i ≠ 0 → upd k.1 0 (nI j) i = k.1 i := fun i hi => pk_un hi
      have hs' : sOk (upd o.1 0 (nI j)) := by
        refine ⟨fun i hi => ?_, ?_, ?_, ?_, ?_, ?_, ?_⟩
        · by_cases hi0 : i = 0
          · subst hi0; rw [sN_us (by omega), pk_us]
          · rw [sN_un hi0, z0 i hi0]; exact hs.1 i hi
        · rw [sN_us (by omega)]; omega
        · rw [sN_un (by omega)]; exact hs.2.2.1
        · rw [sN_un (by omega)]; exact hs.2.2.2.1
        · rw [sN_un (by omega)]; exact hs.2.2.2.2.1
        · rw [sN_un (by omega)]; exact hs.2.2.2.2.2.1
        · intro t ht
          rw [sN_un (by omega)] at ht
          omega
      refine ⟨⟨hs', txOk_cong hs (fun i h3 h4 => z0 i (by omega)) (z0 2 (by omega)) (z0 3 (by omega)) ho, tpOk_cong hs (fun i hi => z0 _ (by omega)) (z0 4 (by omega)) htp, zOk_up (by omega) _ hz⟩, ?_, KX_cong hs (fun i h3 h4 => z0 i (by omega)) (z0 2 (by omega)) (z0 3 (by omega)) rfl hx, KP_cong hs (fun i hi => z0 _ (by omega)) (z0 4 (by omega)) hkp, hB, htc, ?_⟩
      · refine ⟨?_, ?_, ?_, ?_, fun t ht => ?_⟩
        · show upd k.1 0 (nI j) 0 = upd o.1 0 (nI j) 0
          rw [pk_us, pk_us]
        · show upd k.1 0 (nI j) 2 = upd o.1 0 (nI j) 1
          rw [y0 2 (by omega), z0 1 (by omega)]; exact hk.2.1
        · show upd k.1 0 (nI j) 5 = upd o.1 0 (nI j) 2
          rw [y0 5 (by omega), z0 2 (by omega)]; exact hk.2.2.1
        · show upd k.1 0 (nI j) 7 = upd o.1 0 (nI j) 3
          rw [y0 7 (by omega), z0 3 (by omega)]; exact hk.2.2.2.1
        · have ht : t < sN (upd o.1 0 (nI j)) 1 := ht
          rw [sN_un (by omega)] at ht
          omega
      · obtain ⟨h, i1, i2, i3⟩ := him
        refine ⟨h, i1, ?_, fun hh => IMG_cong ⟨y0 12 (by omega), y0 13 (by omega), y0 14 (by omega), y0 15 (by omega)⟩ rfl rfl ?_ (fun t _ => ⟨z0 _ (by omega), z0 _ (by omega), z0 _ (by omega), z0 _ (by omega), z0 _ (by omega)⟩) ?_ (fun p _ => ⟨rfl, z0 _ (by omega), z0 _ (by omega)⟩) ?_ (fun l _ => ⟨rfl, z0 _ (by omega)⟩) (i3 hh)⟩
        · show upd k.1 0 (nI j) 11 = bI h
          rw [y0 11 (by omega)]; exact i2
        · show sN o.1 1 ≤ sN (upd o.1 0 (nI j)) 1
          rw [sN_un (by omega)]; exact Nat.le_refl _
        · show sN o.1 2 ≤ sN (upd o.1 0 (nI j)) 2
          rw [sN_un (by omega)]; exact Nat.le_refl _
        · show sN o.1 3 ≤ sN (upd o.1 0 (nI j)) 3
          rw [sN_un (by omega)]; exact Nat.le_refl _
    · exact ⟨-3, o, c, tx, gx, k, B, F0.trans (by rw [if_pos h1, if_neg h2]), (G0 _).trans (by rw [if_pos h1, if_neg h2]), ⟨hs, ho, htp, hz⟩, hk, hx, hkp, hB, htc, him⟩
  · exact ⟨-2, o, c, tx, gx, k, B, F0.trans (by rw [if_neg h1]), (G0 _).trans (by rw [if_neg h1]), ⟨hs, ho, htp, hz⟩, hk, hx, hkp, hB, htc, him⟩
theorem pVT_B {k : KK} {B : HSt} {a ci j : Nat} {fs : List Value} {v : Value} (ha : n + 65 ≤ a) (hB : B.1 a = some (.inr (ci, fs))) (hc : hKin ci = true) (hj : j < fs.length) : pVT (hK n ρ k B) a j v = some (hK n ρ k (hUp B a (.inr (ci, fs.set j v)))) := by
  unfold pVT
  rw [hK_out n ρ k B (Or.inr ha), hB]
  simp only [hc, true_and]
  rw [if_pos hj, hK_up n ρ k B (Or.inr ha)]
theorem Sim_excuse (u v : Int32) : Sim n ρ (fun S => f_X11_excuse S n u v) (fun S => f_X12_excuse S (n + 65) u v) := by
  intro o c tx gx k B hR
  obtain ⟨⟨hs, ho, htp, hz⟩, hk, hx, hkp, hB, htc, him⟩ := hR
  have hn := hs.2.2.1
  have hk' := KR_hM o c hk
  show ∃ (v : _) (o' : MO) (c' : MC) (tx' gx' : Nat → List Cl) (k' : KK) (B' : HSt), f_X11_excuse (hK n ρ k (hM (n + 65) o c B)) n u _ = some (v, hK n ρ k' (hM (n + 65) o c B')) ∧ f_X12_excuse (hM (n + 65) o c (hK n ρ k' B')) (n + 65) u _ = some (v, hM (n + 65) o' c' (hK n ρ k' B')) ∧ Rel n o' tx' gx' k' B'
  by_cases h1 : ¬ isN u (sN o.1 1) = true
  · refine ⟨-1, o, c, tx, gx, k, B, ?_, ?_, ⟨hs, ho, htp, hz⟩, hk, hx, hkp, hB, htc, him⟩
    · unfold f_X11_excuse
      rw [hK_C, if_pos rfl, X11_tryX hs hk' h1, bd2_some, oC_none]
    · unfold f_X12_excuse
      rw [hM_C, if_pos rfl, X12_isTry hs, bd2_some, bI_if, if_neg h1]
  replace h1 := Decidable.not_not.mp h1
  obtain ⟨t, ht, rfl⟩ := isN_of (by omega) h1
  obtain ⟨a, ha, hA⟩ := hk.2.2.2.2 t ht
  obtain ⟨a', ha', hA'⟩ := hk'.2.2.2.2 t ht
  have : a = a' := by rw [ha] at ha'; exact Option.some.inj ha'
  subst this
  by_cases h2 : ¬ isN v 3 = true
  · refine ⟨-2, o, c, tx, gx, k, B, ?_, ?_, ⟨hs, ho, htp, hz⟩, hk, hx, hkp, hB, htc, him⟩
    · unfold f_X11_excuse
      rw [hK_C, if_pos rfl, X11_tryN hs hk' ht ha, bd2_some, oC_some]
      rcases isN_false (by omega) h2 with h0 | ⟨h0, h5⟩
      · rw [if_pos h0]
      · rw [if_neg h0, if_neg (show ¬ v < 3 from Int32.not_lt.mpr h5)]
    · unfold f_X12_excuse
      rw [hM_C, if_pos rfl, X12_isTry hs, bd2_some, bI_if, if_pos h1, X12_inN v 3 (by omega) (by decide), bd2_some, bI_if, if_neg h2]
  replace h2 := Decidable.not_not.mp h2
  obtain ⟨e, he, rfl⟩ := isN_of (by omega) h2
  have hcol := hs.2.2.2.2.2.2 t ht
  obtain ⟨-, -, -, -, -, e6, -, -, -, -, -, hex⟩ := hcol
  have z0 : ∀ i, i ≠ 280 + t → upd o.1 (280 + t) (nI e) i = o.1 i := fun i hi => pk_un hi
  have hEx : tExc (upd o.1 (280 + t) (nI e)) t = e := sN_us (by omega)
  have hF : (tyF (n + 10) o.1 t).set 8 (.int (nI e)) = tyF (n + 10) (upd o.1 (280 + t) (nI e)) t := by
    have q1 : tMan (upd o.1 (280 + t) (nI e)) t = tMan o.1 t := sN_un (by omega)
    have q2 : tDay (upd o.1 (280 + t) (nI e)) t = tDay o.1 t := sN_un (by omega)
    have q3 : tKind (upd o.1 (280 + t) (nI e)) t = tKind o.1 t := sN_un (by omega)
    have q4 : tPipe (upd o.1 (280 + t) (nI e)) t = tPipe o.1 t := sN_un (by omega)
    have q5 : tSaid (upd o.1 (280 + t) (nI e)) t = tSaid o.1 t := sN_un (by omega)
    unfold tyF tNear
    rw [q1, q2, q3, q4, q5, hEx]
    rfl
  have hK3 : tKind (upd o.1 (280 + t) (nI e)) t = tKind o.1 t := sN_un (by omega)
  refine ⟨nI (tExc o.1 t), oS o (upd o.1 (280 + t) (nI e)), c, tx, gx, k, hUp B a (.inr (kcN (tKind o.1 t), tyF (n + 10) (upd o.1 (280 + t) (nI e)) t)), ?_, ?_, ?_⟩
  · unfold f_X11_excuse
    rw [hK_C, if_pos rfl, X11_tryN hs hk' ht ha, bd2_some, oC_some, if_neg (nI_pos (by omega)), if_pos (show nI e < (3 : Int32) from nI_lt (b := 3) he (by omega)), tyI_8 hA', ob, pVT_B (by have := hA.1; omega) hA'.2.2 (kcN_kin _) (by simp [tyF]), ob, hF, hM_up2 B (Or.inr (by have := hA.1; omega))]
  · unfold f_X12_excuse
    rw [hM_C, if_pos rfl, X12_isTry hs, bd2_some, bI_if, if_pos h1, X12_inN (nI e) 3 (by omega) (by decide), bd2_some, bI_if, if_pos h2, mR_1, ob, mA_s (n + 65) o c _ (i := 280 + nI t) (k := 280 + t) (nI_add 280 t) (by omega), ob, ob, mS_s (n + 65) o c _ (i := 280 + nI t) (k := 280 + t) (nI_add 280 t) (by omega), ob, e6]
  · have colT : ∀ t', t' ≠ t → t' < 30 → colE o.1 (upd o.1 (280 + t) (nI e)) t' := fun t' h3 h4 => ⟨z0 _ (by omega), z0 _ (by omega), z0 _ (by omega), z0 _ (by omega), z0 _ (by omega), z0 _ (by omega)⟩
    have hs' : sOk (upd o.1 (280 + t) (nI e)) := by
      refine ⟨fun i hi => ?_, ?_, ?_, ?_, ?_, ?_, ?_⟩
      · rw [sN_un (by omega), z0 i (by omega)]; exact hs.1 i hi
      · rw [sN_un (by omega)]; exact hs.2.1
      · rw [sN_un (by omega)]; exact hs.2.2.1
      · rw [sN_un (by omega)]; exact hs.2.2.2.1
      · rw [sN_un (by omega)]; exact hs.2.2.2.2.1
      · rw [sN_un (by omega)]; exact hs.2.2.2.2.2.1
      · intro t' ht'
        rw [sN_un (by omega)] at ht'
        by_cases h3 : t' = t
        · subst h3
          obtain ⟨a1, a2, a3, a4, a5, a6, a7, a8, a9, a10, a11, a12⟩ := hs.2.2.2.2.2.2 t' ht'
          have q1 : tMan (upd o.1 (280 + t') (nI e)) t' = tMan o.1 t' := sN_un (by omega)
          have q2 : tDay (upd o.1 (280 + t') (nI e)) t' = tDay o.1 t' := sN_un (by omega)
          have q4 : tPipe (upd o.1 (280 + t') (nI e)) t' = tPipe o.1 t' := sN_un (by omega)
          have q5 : tSaid (upd o.1 (280 + t') (nI e)) t' = tSaid o.1 t' := sN_un (by omega)
          unfold tOk
          rw [q1, q2, hK3, q4, q5, hEx, z0 _ (by omega), z0 _ (by omega), z0 _ (by omega), z0 _ (by omega), z0 _ (by omega), pk_us, sN_un (show (0 : Nat) ≠ 280 + t' by omega)]
          exact ⟨a1, a2, a3, a4, a5, rfl, a7, a8, a9, a10, a11, he⟩
        · exact colE_ok (colT t' h3 (by omega)) (z0 0 (by omega)) (hs.2.2.2.2.2.2 t' ht')
    refine ⟨⟨hs', txOk_cong hs (fun i h3 h4 => z0 i (by omega)) (z0 2 (by omega)) (z0 3 (by omega)) ho, tpOk_cong hs (fun i hi => z0 _ (by omega)) (z0 4 (by omega)) htp, zOk_up (by omega) _ hz⟩, ?_, KX_cong hs (fun i h3 h4 => z0 i (by omega)) (z0 2 (by omega)) (z0 3 (by omega)) rfl hx, KP_cong hs (fun i hi => z0 _ (by omega)) (z0 4 (by omega)) hkp, hB, htc, ?_⟩
    · refine ⟨?_, ?_, ?_, ?_, fun t' ht' => ?_⟩
      · show k.1 0 = upd o.1 (280 + t) (nI e) 0
        rw [z0 0 (by omega)]; exact hk.1
      · show k.1 2 = upd o.1 (280 + t) (nI e) 1
        rw [z0 1 (by omega)]; exact hk.2.1
      · show k.1 5 = upd o.1 (280 + t) (nI e) 2
        rw [z0 2 (by omega)]; exact hk.2.2.1
      · show k.1 7 = upd o.1 (280 + t) (nI e) 3
        rw [z0 3 (by omega)]; exact hk.2.2.2.1
      · have ht' : t' < sN (upd o.1 (280 + t) (nI e)) 1 := ht'
        rw [sN_un (by omega)] at ht'
        show ∃ b, kTr k t' = some b ∧ TA n (upd o.1 (280 + t) (nI e)) (hUp B a (.inr (kcN (tKind o.1 t), tyF (n + 10) (upd o.1 (280 + t) (nI e)) t))) t' b
        by_cases h3 : t' = t
        · subst h3
          refine ⟨a, ha, hA.1, hA.2.1, ?_⟩
          rw [hK3]
          exact if_pos rfl
        · obtain ⟨b, hb, hb2⟩ := hk.2.2.2.2 t' ht'
          refine ⟨b, hb, TA_cong (B := B) (colT t' h3 (by omega)) (Nat.le_refl B.2) ?_ hb2⟩
          refine if_neg (fun hba => ?_)
          subst hba
          have e1 := hb2.2.2
          rw [hA.2.2] at e1
          have e2 := congrArg (fun z : Option HC => match z with | some (.inr (_, fs)) => fs[1]? | _ => none) e1
          have e3 : some (Value.int (nI t)) = some (Value.int (nI t')) := e2
          have e4 : nI t = nI t' := Value.int.inj (Option.some.inj e3)
          exact h3 ((nI_eq (by omega) (by omega)).mp e4).symm
    · obtain ⟨h, i1, i2, i3⟩ := him
      refine ⟨h, i1, i2, fun hh => IMG_cong ⟨rfl, rfl, rfl, rfl⟩ rfl rfl ?_ (fun t' ht' => ?_) ?_ (fun p hp => ⟨rfl, z0 _ (by omega), z0 _ (by omega)⟩) ?_ (fun l _ => ⟨rfl, z0 _ (by omega)⟩) (i3 hh)⟩
      · show sN o.1 1 ≤ sN (upd o.1 (280 + t) (nI e)) 1
        rw [sN_un (by omega)]; exact Nat.le_refl _
      · have := (i3 hh).1.1.2.2.1
        have ht' : t' < sN o.2.1 1 := ht'
        exact ⟨z0 _ (by omega), z0 _ (by omega), z0 _ (by omega), z0 _ (by omega), z0 _ (by omega)⟩
      · show sN o.1 2 ≤ sN (upd o.1 (280 + t) (nI e)) 2
        rw [sN_un (by omega)]; exact Nat.le_refl _
      · show sN o.1 3 ≤ sN (upd o.1 (280 + t) (nI e)) 3
        rw [sN_un (by omega)]; exact Nat.le_refl _
end MOVES
