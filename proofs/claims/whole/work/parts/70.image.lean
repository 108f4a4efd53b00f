/-! BOTH: image, undo -/
section IMAGE
variable {n m : Nat} {ρ : Nat → Nat}
theorem sOk_exc {s : Nat → Int32} (hs : sOk s) {t e : Nat} (ht : t < sN s 1) (he : e < 3) : sOk (upd s (280 + t) (nI e)) := by
  have hn := hs.2.2.1
  have z0 : ∀ i, i ≠ 280 + t → upd s (280 + t) (nI e) i = s i := fun i hi => pk_un hi
  have hEx : tExc (upd s (280 + t) (nI e)) t = e := sN_us (by omega)
  have hK3 : tKind (upd s (280 + t) (nI e)) t = tKind s t := sN_un (by omega)
  have colT : ∀ t', t' ≠ t → t' < 30 → colE s (upd s (280 + t) (nI e)) t' := fun t' h3 h4 => ⟨z0 _ (by omega), z0 _ (by omega), z0 _ (by omega), z0 _ (by omega), z0 _ (by omega), z0 _ (by omega)⟩
  refine ⟨fun i hi => ?_, ?_, ?_, ?_, ?_, ?_, ?_⟩
  · rw [sN_un (by omega), z0 i (by omega)]; exact hs.1 i hi
  · rw [sN_un (by omega)]; exact hs.2.1
  · rw [sN_un (by omega)]; exact hs.2.2.1
  · rw [sN_un (by omega)]; exact hs.2.2.2.1
  · rw [sN_un (by omega)]; exact hs.2.2.2.2.1
  · rw [sN_un (by omega)]; exact hs.2.2.2.2.2.1
  · intro t' ht'
    rw [sN_un (by omega)] at ht'
    by_cases h3 : t' = t
    · subst h3
      obtain ⟨a1, a2, a3, a4, a5, a6, a7, a8, a9, a10, a11, a12⟩ := hs.2.2.2.2.2.2 t' ht'
      have q1 : tMan (upd s (280 + t') (nI e)) t' = tMan s t' := sN_un (by omega)
      have q2 : tDay (upd s (280 + t') (nI e)) t' = tDay s t' := sN_un (by omega)
      have q4 : tPipe (upd s (280 + t') (nI e)) t' = tPipe s t' := sN_un (by omega)
      have q5 : tSaid (upd s (280 + t') (nI e)) t' = tSaid s t' := sN_un (by omega)
      unfold tOk
      rw [q1, q2, hK3, q4, q5, hEx, z0 _ (by omega), z0 _ (by omega), z0 _ (by omega), z0 _ (by omega), z0 _ (by omega), pk_us, sN_un (show (0 : Nat) ≠ 280 + t' by omega)]
      exact ⟨a1, a2, a3, a4, a5, rfl, a7, a8, a9, a10, a11, he⟩
    · exact colE_ok (colT t' h3 (by omega)) (z0 0 (by omega)) (hs.2.2.2.2.2.2 t' ht')
theorem exc_F {s : Nat → Int32} {t e : Nat} (ht : t < 30) (he : e < 3) (q : Nat) : (tyF q s t).set 8 (.int (nI e)) = tyF q (upd s (280 + t) (nI e)) t := by
  have hEx : tExc (upd s (280 + t) (nI e)) t = e := sN_us (by omega)
  have q1 : tMan (upd s (280 + t) (nI e)) t = tMan s t := sN_un (by omega)
  have q2 : tDay (upd s (280 + t) (nI e)) t = tDay s t := sN_un (by omega)
  have q3 : tKind (upd s (280 + t) (nI e)) t = tKind s t := sN_un (by omega)
  have q4 : tPipe (upd s (280 + t) (nI e)) t = tPipe s t := sN_un (by omega)
  have q5 : tSaid (upd s (280 + t) (nI e)) t = tSaid s t := sN_un (by omega)
  unfold tyF tNear
  rw [q1, q2, q3, q4, q5, hEx]
  rfl
theorem KR_exc {s : Nat → Int32} {k : KK} {B : HSt} (hs : sOk s) (hk : KR n s k B) {t e a : Nat} (ht : t < sN s 1) (he : e < 3) (ha : kTr k t = some a) (hA : TA n s B t a) : KR n (upd s (280 + t) (nI e)) k (hUp B a (.inr (kcN (tKind s t), tyF (n + 10) (upd s (280 + t) (nI e)) t))) := by
  have hn := hs.2.2.1
  have z0 : ∀ i, i ≠ 280 + t → upd s (280 + t) (nI e) i = s i := fun i hi => pk_un hi
  have hK3 : tKind (upd s (280 + t) (nI e)) t = tKind s t := sN_un (by omega)
  have colT : ∀ t', t' ≠ t → t' < 30 → colE s (upd s (280 + t) (nI e)) t' := fun t' h3 h4 => ⟨z0 _ (by omega), z0 _ (by omega), z0 _ (by omega), z0 _ (by omega), z0 _ (by omega), z0 _ (by omega)⟩
  refine ⟨?_, ?_, ?_, ?_, fun t' ht' => ?_⟩
  · rw [z0 0 (by omega)]; exact hk.1
  · rw [z0 1 (by omega)]; exact hk.2.1
  · rw [z0 2 (by omega)]; exact hk.2.2.1
  · rw [z0 3 (by omega)]; exact hk.2.2.2.1
  · rw [sN_un (by omega)] at ht'
    by_cases h3 : t' = t
    · subst h3
      refine ⟨a, ha, hA.1, hA.2.1, ?_⟩
      rw [hK3]
      exact if_pos rfl
    · obtain ⟨b, hb, hb2⟩ := hk.2.2.2.2 t' ht'
      refine ⟨b, hb, TA_cong (B := B) (colT t' h3 (by omega)) (Nat.le_refl B.2) ?_ hb2⟩
      refine if_neg (fun hba => ?_)
      subst hba
      have e1 := hb2.2.2
      rw [hA.2.2] at e1
      have e2 := congrArg (fun z : Option HC => match z with | some (.inr (_, fs)) => fs[1]? | _ => none) e1
      have e3 : some (Value.int (nI t)) = some (Value.int (nI t')) := e2
      have e4 : nI t = nI t' := Value.int.inj (Option.some.inj e3)
      exact h3 ((nI_eq (by omega) (by omega)).mp e4).symm
/-- a tape is copied -/
theorem cpB_K {S : HSt} {a b : Nat} {f g : Nat → Int32} {T : Nat} (ha : S.1 a = some (.inl (1, 120, .inl f))) (hb : S.1 b = some (.inl (1, 120, .inl g))) (hT : T ≤ 120) (hf : ∀ i, i < T → fits .byte (.int (f i)) = true) : cpB S a 0 b 0 (nI T) = some (hUp S b (.inl (1, 120, .inl (va_cpy f g 0 0 T)))) := by
  have ec : (nI T).toNatClampNeg = T := nI_clamp (by omega)
  have e0 : (0 : Int32).toNatClampNeg = 0 := rfl
  unfold cpB
  rw [ha, hb]
  simp only []
  rw [ec, e0, if_pos]
  refine ⟨trivial, trivial, by decide, by decide, nI_pos (by omega), by omega, by omega, ?_⟩
  rw [List.all_eq_true]
  intro i hi
  rw [Nat.zero_add]
  exact hf i (List.mem_range.mp hi)
theorem min120 {T : Nat} (hT : T ≤ 120) : (if (if (120 : Int32) < 120 then (120 : Int32) else 120) < nI T then (if (120 : Int32) < 120 then (120 : Int32) else 120) else nI T) = nI T := by
  rw [ite_self, if_neg (show ¬ (120 : Int32) < nI T from nI_nlt (b := T) (a := 120) hT (by omega))]
theorem K_copyI {k : KK} {B : HSt} {T : Nat} (hT : T ≤ 120) (hx : (kTp k).2.1 = nI T) (hf : ∀ i, i < T → fits .byte (.int ((kTp k).1 i)) = true) : f_X6_copyOf (hK n ρ k B) (n + 13) (n + 2) = some (hK n ρ (kuIt k (va_cpy (kTp k).1 (kIt k).1 0 0 T, nI T, (kIt k).2.2)) B) := by
  have i1 : ∀ k : KK, gI (hK n ρ k B) (n + 2) 6 1 = some ((kTp k).2.1) := fun k => by
    have e := PI_1 (n + 2) (kTp k) (hK n ρ k B)
    rw [← hK_tp0 n ρ k B] at e
    exact e
  have r1 : ∀ k : KK, gR (hK n ρ k B) (n + 2) 6 0 = some (n + 2 + 1) := fun k => by
    have e := PR_0 (n + 2) (kTp k) (hK n ρ k B)
    rw [← hK_tp0 n ρ k B] at e
    exact e
  have a1 : ∀ k : KK, aN (hK n ρ k B) (n + 2 + 1) = some 120 := fun k => by
    have e := PN_1 (n + 2) (kTp k) (hK n ρ k B)
    rw [← hK_tp0 n ρ k B] at e
    exact e
  have c1 : ∀ k : KK, (hK n ρ k B).1 (n + 2 + 1) = some (.inl (1, 120, .inl (kTp k).1)) := fun k => by
    have e := hP_1 (n + 2) (kTp k) (hK n ρ k B)
    rw [← hK_tp0 n ρ k B] at e
    exact e
  have i2 : ∀ k : KK, gI (hK n ρ k B) (n + 13) 6 1 = some ((kIt k).2.1) := fun k => by
    have e := PI_1 (n + 13) (kIt k) (hK n ρ k B)
    rw [← hK_it0 n ρ k B] at e
    exact e
  have r2 : ∀ k : KK, gR (hK n ρ k B) (n + 13) 6 0 = some (n + 13 + 1) := fun k => by
    have e := PR_0 (n + 13) (kIt k) (hK n ρ k B)
    rw [← hK_it0 n ρ k B] at e
    exact e
  have a2 : ∀ k : KK, aN (hK n ρ k B) (n + 13 + 1) = some 120 := fun k => by
    have e := PN_1 (n + 13) (kIt k) (hK n ρ k B)
    rw [← hK_it0 n ρ k B] at e
    exact e
  have c2 : ∀ k : KK, (hK n ρ k B).1 (n + 13 + 1) = some (.inl (1, 120, .inl (kIt k).1)) := fun k => by
    have e := hP_1 (n + 13) (kIt k) (hK n ρ k B)
    rw [← hK_it0 n ρ k B] at e
    exact e
  have p2 : ∀ (k : KK) (v : Int32), pV (hK n ρ k B) (n + 13) 6 1 (.int v) = some (hK n ρ (kuIt k ((kIt k).1, v, (kIt k).2.2)) B) := fun k v => by
    have e := PP_1 (n + 13) (kIt k) (hK n ρ k B) v
    rw [← hK_it0 n ρ k B, hK_it] at e
    exact e
  have u2 : ∀ (k : KK) (g : Nat → Int32), hUp (hK n ρ k B) (n + 13 + 1) (.inl (1, 120, .inl g)) = hK n ρ (kuIt k (g, (kIt k).2)) B := fun k g => by
    have e : hUp (hP (n + 13) (kIt k) (hK n ρ k B)) (n + 13 + 1) (.inl (1, 120, .inl g)) = hP (n + 13) (g, (kIt k).2) (hK n ρ k B) := hOv_put ⟨by omega, by omega⟩ (by simp [PCell]) (fun b h1 h2 h3 => by
      have h3 : ¬ b = n + 13 + 1 := h3
      simp only [PCell]
      by_cases h4 : b = n + 13
      · simp [h4, PF]
      · simp [h4, h3])
    rw [← hK_it0 n ρ k B, hK_it] at e
    exact e
  have e := cpB_K (S := hK n ρ (kuIt k ((kIt k).1, nI T, (kIt k).2.2)) B) (f := (kTp k).1) (g := (kIt k).1) (T := T) (c1 _) (c2 _) hT hf
  unfold f_X6_copyOf
  rw [i1, ob, r2, ob, a2, ob, r1, ob, a1, ob, hqn_eq, hqn_eq, hx, min120 hT, p2, ob, r1, ob, r2, ob, i2, ob, show (kIt (kuIt k ((kIt k).1, nI T, (kIt k).2.2))).2.1 = nI T from rfl, e, ob, u2]
theorem K_copyU {k : KK} {B : HSt} {T : Nat} (hT : T ≤ 120) (hx : (kIt k).2.1 = nI T) (hf : ∀ i, i < T → fits .byte (.int ((kIt k).1 i)) = true) : f_X6_copyOf (hK n ρ k B) (n + 2) (n + 13) = some (hK n ρ (kuTp k (va_cpy (kIt k).1 (kTp k).1 0 0 T, nI T, (kTp k).2.2)) B) := by
  have i1 : ∀ k : KK, gI (hK n ρ k B) (n + 2) 6 1 = some ((kTp k).2.1) := fun k => by
    have e := PI_1 (n + 2) (kTp k) (hK n ρ k B)
    rw [← hK_tp0 n ρ k B] at e
    exact e
  have r1 : ∀ k : KK, gR (hK n ρ k B) (n + 2) 6 0 = some (n + 2 + 1) := fun k => by
    have e := PR_0 (n + 2) (kTp k) (hK n ρ k B)
    rw [← hK_tp0 n ρ k B] at e
    exact e
  have a1 : ∀ k : KK, aN (hK n ρ k B) (n + 2 + 1) = some 120 := fun k => by
    have e := PN_1 (n + 2) (kTp k) (hK n ρ k B)
    rw [← hK_tp0 n ρ k B] at e
    exact e
  have c1 : ∀ k : KK, (hK n ρ k B).1 (n + 2 + 1) = some (.inl (1, 120, .inl (kTp k).1)) := fun k => by
    have e := hP_1 (n + 2) (kTp k) (hK n ρ k B)
    rw [← hK_tp0 n ρ k B] at e
    exact e
  have i2 : ∀ k : KK, gI (hK n ρ k B) (n + 13) 6 1 = some ((kIt k).2.1) := fun k => by
    have e := PI_1 (n + 13) (kIt k) (hK n ρ k B)
    rw [← hK_it0 n ρ k B] at e
    exact e
  have r2 : ∀ k : KK, gR (hK n ρ k B) (n + 13) 6 0 = some (n + 13 + 1) := fun k => by
    have e := PR_0 (n + 13) (kIt k) (hK n ρ k B)
    rw [← hK_it0 n ρ k B] at e
    exact e
  have a2 : ∀ k : KK, aN (hK n ρ k B) (n + 13 + 1) = some 120 := fun k => by
    have e := PN_1 (n + 13) (kIt k) (hK n ρ k B)
    rw [← hK_it0 n ρ k B] at e
    exact e
  have c2 : ∀ k : KK, (hK n ρ k B).1 (n + 13 + 1) = some (.inl (1, 120, .inl (kIt k).1)) := fun k => by
    have e := hP_1 (n + 13) (kIt k) (hK n ρ k B)
    rw [← hK_it0 n ρ k B] at e
    exact e
  have p2 : ∀ (k : KK) (v : Int32), pV (hK n ρ k B) (n + 2) 6 1 (.int v) = some (hK n ρ (kuTp k ((kTp k).1, v, (kTp k).2.2)) B) := fun k v => by
    have e := PP_1 (n + 2) (kTp k) (hK n ρ k B) v
    rw [← hK_tp0 n ρ k B, hK_tp] at e
    exact e
  have u2 : ∀ (k : KK) (g : Nat → Int32), hUp (hK n ρ k B) (n + 2 + 1) (.inl (1, 120, .inl g)) = hK n ρ (kuTp k (g, (kTp k).2)) B := fun k g => by
    have e : hUp (hP (n + 2) (kTp k) (hK n ρ k B)) (n + 2 + 1) (.inl (1, 120, .inl g)) = hP (n + 2) (g, (kTp k).2) (hK n ρ k B) := hOv_put ⟨by omega, by omega⟩ (by simp [PCell]) (fun b h1 h2 h3 => by
      have h3 : ¬ b = n + 2 + 1 := h3
      simp only [PCell]
      by_cases h4 : b = n + 2
      · simp [h4, PF]
      · simp [h4, h3])
    rw [← hK_tp0 n ρ k B, hK_tp] at e
    exact e
  have e := cpB_K (S := hK n ρ (kuTp k ((kTp k).1, nI T, (kTp k).2.2)) B) (f := (kIt k).1) (g := (kTp k).1) (T := T) (c2 _) (c1 _) hT hf
  unfold f_X6_copyOf
  rw [i2, ob, r1, ob, a1, ob, r2, ob, a2, ob, hqn_eq, hqn_eq, hx, min120 hT, p2, ob, r2, ob, r1, ob, i1, ob, show (kTp (kuTp k ((kTp k).1, nI T, (kTp k).2.2))).2.1 = nI T from rfl, e, ob, u2]
theorem cpy_at {f g : Nat → Int32} {T i : Nat} (h : i < T) : va_cpy f g 0 0 T i = f i := by
  rw [pk_cpy_in (Nat.zero_le _) (by omega)]
  congr 1
  omega
/-- s and its image of the reference -/
theorem X12_image {m : Nat} {o : MO} {c : MC} {C : HSt} (hz : zOk o.1) (hg : zOk o.2.1) : f_X12_image (hM m o c C) m = some (o.1 1, hM m (o.1, o.1, 1, o.2.2.2) c C) := by
  unfold f_X12_image
  have L : ∀ (d i f : Nat), i + d = 1735 → d < f → f_X12_image_L2 m (f_X12_image_K27 m) f (nI i) (hM m (oG o (fun k => if k < i then o.1 k else o.2.1 k)) c C) = some (o.1 1, hM m (o.1, o.1, 1, o.2.2.2) c C) := by
    intro d
    induction d with
    | zero =>
      intro i f hi hf
      obtain ⟨f, rfl⟩ : ∃ e, f = e + 1 := ⟨f - 1, by omega⟩
      have e : (fun k => if k < i then o.1 k else o.2.1 k) = o.1 := funext fun k => by
        by_cases h : k < i
        · rw [if_pos h]
        · rw [if_neg h, hg k (by omega), hz k (by omega)]
      rw [e, f_X12_image_L2]
      unfold f_X12_image_B2
      rw [if_pos (show (1735 : Int32) ≤ nI i from nI_le (a := 1735) (by omega) (by omega))]
      unfold f_X12_image_K27
      rw [mP_3, ob, mR_1, ob, mA_1, ob]
      rfl
    | succ d ih =>
      intro i f hi hf
      obtain ⟨f, rfl⟩ : ∃ e, f = e + 1 := ⟨f - 1, by omega⟩
      have e : upd (fun k => if k < i then o.1 k else o.2.1 k) i (o.1 i) = (fun k => if k < i + 1 then o.1 k else o.2.1 k) := funext fun k => by
        by_cases h : k = i
        · subst h; rw [pk_us, if_pos (by omega)]
        · rw [pk_un h]
          by_cases h2 : k < i
          · rw [if_pos h2, if_pos (by omega)]
          · rw [if_neg h2, if_neg (by omega)]
      rw [f_X12_image_L2]
      unfold f_X12_image_B2
      rw [if_neg (show ¬ (1735 : Int32) ≤ nI i from nI_ge (b := 1735) (by omega) (by omega)), mR_2, ob, mR_1, ob, mA_s m _ c C (k := i) rfl (by omega), ob, mS_g m _ c C (k := i) rfl (by omega), ob, nI_1, ← ih (i + 1) f (by omega) (by omega), ← e]
      rfl
  have e0 : oG o (fun k => if k < 0 then o.1 k else o.2.1 k) = o := by
    have : (fun k => if k < 0 then o.1 k else o.2.1 k) = o.2.1 := funext fun k => if_neg (by omega)
    rw [this]
    rfl
  have L0 := L 1735 0 FU (by omega) (by show 1735 < 100000; omega)
  rw [e0] at L0
  exact L0
theorem X12_undo {m : Nat} {o : MO} {c : MC} {C : HSt} (hz : zOk o.1) (hg : zOk o.2.1) : f_X12_undo (hM m o c C) m = if o.2.2.1 = 0 then some (-3, hM m o c C) else some (o.2.1 1, hM m (o.2.1, o.2) c C) := by
  unfold f_X12_undo
  have L : ∀ (d i f : Nat), i + d = 1735 → d < f → f_X12_undo_L12 m (f_X12_undo_K37 m) f (nI i) (hM m (oS o (fun k => if k < i then o.2.1 k else o.1 k)) c C) = some (o.2.1 1, hM m (o.2.1, o.2) c C) := by
    intro d
    induction d with
    | zero =>
      intro i f hi hf
      obtain ⟨f, rfl⟩ : ∃ e, f = e + 1 := ⟨f - 1, by omega⟩
      have e : (fun k => if k < i then o.2.1 k else o.1 k) = o.2.1 := funext fun k => by
        by_cases h : k < i
        · rw [if_pos h]
        · rw [if_neg h, hg k (by omega), hz k (by omega)]
      rw [e, f_X12_undo_L12]
      unfold f_X12_undo_B12
      rw [if_pos (show (1735 : Int32) ≤ nI i from nI_le (a := 1735) (by omega) (by omega))]
      unfold f_X12_undo_K37
      rw [mR_1, ob, mA_1, ob]
      rfl
    | succ d ih =>
      intro i f hi hf
      obtain ⟨f, rfl⟩ : ∃ e, f = e + 1 := ⟨f - 1, by omega⟩
      have e : upd (fun k => if k < i then o.2.1 k else o.1 k) i (o.2.1 i) = (fun k => if k < i + 1 then o.2.1 k else o.1 k) := funext fun k => by
        by_cases h : k = i
        · subst h; rw [pk_us, if_pos (by omega)]
        · rw [pk_un h]
          by_cases h2 : k < i
          · rw [if_pos h2, if_pos (by omega)]
          · rw [if_neg h2, if_neg (by omega)]
      rw [f_X12_undo_L12]
      unfold f_X12_undo_B12
      rw [if_neg (show ¬ (1735 : Int32) ≤ nI i from nI_ge (b := 1735) (by omega) (by omega)), mR_1, ob, mR_2, ob, mA_g m _ c C (k := i) rfl (by omega), ob, mS_s m _ c C (k := i) rfl (by omega), ob, nI_1, ← ih (i + 1) f (by omega) (by omega), ← e]
      rfl
  have e0 : oS o (fun k => if k < 0 then o.2.1 k else o.1 k) = o := by
    have : (fun k => if k < 0 then o.2.1 k else o.1 k) = o.1 := funext fun k => if_neg (by omega)
    rw [this]
    rfl
  have L0 := L 1735 0 FU (by omega) (by show 1735 < 100000; omega)
  rw [e0] at L0
  rw [mI_3, ob]
  by_cases h : o.2.2.1 = 0
  · rw [if_pos h, if_pos h]
  · rw [if_neg h, if_neg h]
    exact L0
theorem Sim_image : Sim n ρ (fun S => f_X11_image S n) (fun S => f_X12_image S (n + 65)) := by
  intro o c tx gx k B hR
  obtain ⟨⟨hs, ho, htp, hz⟩, hk, hx, hkp, hB, ⟨hzg, q, r, c1, c2, c3, c4, c5⟩, him⟩ := hR
  have hn := hs.2.2.1
  have n4 := hs.2.2.2.2.2.1
  have e4 := hs.1 4 (by omega)
  have e1 := hs.1 1 (by omega)
  have hk' := KR_hM o c hk
  generalize hBB : hM (n + 65) o c B = BB at *
  have L : ∀ (d i f : Nat) (k2 : KK), KR n o.1 k2 BB → (∀ t, t < i → kIe k2 t = o.1 (280 + t)) → kTp k2 = kTp k → i + d = sN o.1 1 → d < f → ∃ fe, f_X11_image_L39 n (f_X11_image_K82 n) f (nI i) (hK n ρ k2 BB) = some (o.1 1, hK n ρ (kuIt (kuIe k2 fe) (va_cpy (kTp k).1 (kIt k2).1 0 0 (sN o.1 4), nI (sN o.1 4), (kIt k2).2.2)) BB) ∧ ∀ t, t < sN o.1 1 → fe t = o.1 (280 + t) := by
    intro d
    induction d with
    | zero =>
      intro i f k2 hk2 hie htk hi hf
      obtain ⟨f, rfl⟩ : ∃ e, f = e + 1 := ⟨f - 1, by omega⟩
      refine ⟨kIe k2, ?_, fun t ht => hie t (by omega)⟩
      have gc13 : gC (hK n ρ k2 BB) (n + 13) = some 6 := by
        have e := hP_C (n + 13) (kIt k2) (hK n ρ k2 BB)
        rw [← hK_it0 n ρ k2 BB] at e
        exact e
      have cp := K_copyI (n := n) (ρ := ρ) (k := k2) (B := BB) (T := sN o.1 4) n4 (by rw [htk, hkp.1]; exact e4) (fun i hi => by rw [htk]; exact (hkp.2 i hi).2)
      rw [f_X11_image_L39]
      unfold f_X11_image_B39
      rw [KI_2, ob, hk2.2.1, e1, if_pos (nI_le (by omega) (by omega))]
      unfold f_X11_image_K82
      rw [KR_17, ob, KR_3, ob, gc13, if_pos rfl, cp, ob, KI_2, ob, htk]
      have : (kuIt k2 (va_cpy (kTp k).1 (kIt k2).1 0 0 (sN o.1 4), nI (sN o.1 4), (kIt k2).2.2)).1 2 = o.1 1 := hk2.2.1
      rw [this, e1]
    | succ d ih =>
      intro i f k2 hk2 hie htk hi hf
      obtain ⟨f, rfl⟩ : ∃ e, f = e + 1 := ⟨f - 1, by omega⟩
      obtain ⟨a, ha, hA⟩ := hk2.2.2.2.2 i (by omega)
      obtain ⟨-, -, -, -, -, e6, -⟩ := hs.2.2.2.2.2.2 i (by omega)
      obtain ⟨fe, w1, w2⟩ := ih (i + 1) f (kuIe k2 (upd (kIe k2) i (nI (tExc o.1 i)))) hk2 (fun t ht => by
        show upd (kIe k2) i (nI (tExc o.1 i)) t = _
        by_cases hti : t = i
        · subst hti; rw [pk_us, e6]
        · rw [pk_un hti]; exact hie t (by omega)) htk (by omega) (by omega)
      refine ⟨fe, ?_, w2⟩
      rw [f_X11_image_L39]
      unfold f_X11_image_B39
      rw [KI_2, ob, hk2.2.1, e1, if_neg (nI_ge (by omega) (by omega)), KR_16, ob, KN_12, ob, if_neg (show ¬ (30 : Int32) ≤ nI i from nI_ge (b := 30) (by omega) (by omega)), hK_C, if_pos rfl, X11_tryN hs hk2 (show i < sN o.1 1 by omega) ha, bd2_some, oC_some, KR_16, ob, tyI_8 hA, ob, KS_12 n ρ k2 BB (j := i) rfl (by omega), ob, nI_1]
      rw [w1, e1]
  obtain ⟨fe, w1, w2⟩ := L (sN o.1 1) 0 FU (kuI (kuI (kuI (kuI (kuI k 11 1) 12 (o.1 0)) 13 (o.1 1)) 14 (o.1 2)) 15 (o.1 3)) (by
    refine ⟨?_, ?_, ?_, ?_, hk'.2.2.2.2⟩
    · show upd (upd (upd (upd (upd k.1 11 1) 12 (o.1 0)) 13 (o.1 1)) 14 (o.1 2)) 15 (o.1 3) 0 = _
      rw [pk_un (by omega), pk_un (by omega), pk_un (by omega), pk_un (by omega), pk_un (by omega)]; exact hk.1
    · show upd (upd (upd (upd (upd k.1 11 1) 12 (o.1 0)) 13 (o.1 1)) 14 (o.1 2)) 15 (o.1 3) 2 = _
      rw [pk_un (by omega), pk_un (by omega), pk_un (by omega), pk_un (by omega), pk_un (by omega)]; exact hk.2.1
    · show upd (upd (upd (upd (upd k.1 11 1) 12 (o.1 0)) 13 (o.1 1)) 14 (o.1 2)) 15 (o.1 3) 5 = _
      rw [pk_un (by omega), pk_un (by omega), pk_un (by omega), pk_un (by omega), pk_un (by omega)]; exact hk.2.2.1
    · show upd (upd (upd (upd (upd k.1 11 1) 12 (o.1 0)) 13 (o.1 1)) 14 (o.1 2)) 15 (o.1 3) 7 = _
      rw [pk_un (by omega), pk_un (by omega), pk_un (by omega), pk_un (by omega), pk_un (by omega)]; exact hk.2.2.2.1) (fun t ht => absurd ht (by omega)) rfl (by omega) (by show _ < 100000; omega)
  refine ⟨o.1 1, (o.1, o.1, 1, o.2.2.2), c, tx, tx, kuIt (kuIe (kuI (kuI (kuI (kuI (kuI k 11 1) 12 (o.1 0)) 13 (o.1 1)) 14 (o.1 2)) 15 (o.1 3)) fe) (va_cpy (kTp k).1 (kIt k).1 0 0 (sN o.1 4), nI (sN o.1 4), (kIt k).2.2), B, ?_, ?_, ?_⟩
  · show f_X11_image (hK n ρ k BB) n = _
    rw [hBB]
    have z0 : upd k.1 11 1 0 = o.1 0 := by rw [pk_un (by omega)]; exact hk.1
    have z2 : upd (upd k.1 11 1) 12 (o.1 0) 2 = o.1 1 := by rw [pk_un (by omega), pk_un (by omega)]; exact hk.2.1
    have z5 : upd (upd (upd k.1 11 1) 12 (o.1 0)) 13 (o.1 1) 5 = o.1 2 := by rw [pk_un (by omega), pk_un (by omega), pk_un (by omega)]; exact hk.2.2.1
    have z7 : upd (upd (upd (upd k.1 11 1) 12 (o.1 0)) 13 (o.1 1)) 14 (o.1 2) 7 = o.1 3 := by rw [pk_un (by omega), pk_un (by omega), pk_un (by omega), pk_un (by omega)]; exact hk.2.2.2.1
    unfold f_X11_image
    rw [KP_11, ob, KI_0, ob, show (kuI k 11 1).1 0 = o.1 0 from z0, KP_12, ob, KI_2, ob, show (kuI (kuI k 11 1) 12 (o.1 0)).1 2 = o.1 1 from z2, KP_13, ob, KI_5, ob, show (kuI (kuI (kuI k 11 1) 12 (o.1 0)) 13 (o.1 1)).1 5 = o.1 2 from z5, KP_14, ob, KI_7, ob, show (kuI (kuI (kuI (kuI k 11 1) 12 (o.1 0)) 13 (o.1 1)) 14 (o.1 2)).1 7 = o.1 3 from z7, KP_15, ob]
    exact w1
  · show f_X12_image (hM (n + 65) o c _) (n + 65) = _
    exact X12_image hz hzg
  · refine ⟨⟨hs, ho, htp, hz⟩, ?_, hx, hkp, hB, ⟨hz, q, r, c1, c2, c3, c4, c5⟩, true, rfl, ?_, fun _ => ?_⟩
    · refine ⟨?_, ?_, ?_, ?_, hk.2.2.2.2⟩
      · show upd (upd (upd (upd (upd k.1 11 1) 12 (o.1 0)) 13 (o.1 1)) 14 (o.1 2)) 15 (o.1 3) 0 = _
        rw [pk_un (by omega), pk_un (by omega), pk_un (by omega), pk_un (by omega), pk_un (by omega)]; exact hk.1
      · show upd (upd (upd (upd (upd k.1 11 1) 12 (o.1 0)) 13 (o.1 1)) 14 (o.1 2)) 15 (o.1 3) 2 = _
        rw [pk_un (by omega), pk_un (by omega), pk_un (by omega), pk_un (by omega), pk_un (by omega)]; exact hk.2.1
      · show upd (upd (upd (upd (upd k.1 11 1) 12 (o.1 0)) 13 (o.1 1)) 14 (o.1 2)) 15 (o.1 3) 5 = _
        rw [pk_un (by omega), pk_un (by omega), pk_un (by omega), pk_un (by omega), pk_un (by omega)]; exact hk.2.2.1
      · show upd (upd (upd (upd (upd k.1 11 1) 12 (o.1 0)) 13 (o.1 1)) 14 (o.1 2)) 15 (o.1 3) 7 = _
        rw [pk_un (by omega), pk_un (by omega), pk_un (by omega), pk_un (by omega), pk_un (by omega)]; exact hk.2.2.2.1
    · show upd (upd (upd (upd (upd k.1 11 1) 12 (o.1 0)) 13 (o.1 1)) 14 (o.1 2)) 15 (o.1 3) 11 = _
      rw [pk_un (by omega), pk_un (by omega), pk_un (by omega), pk_un (by omega), pk_us]; rfl
    · refine ⟨⟨hs, ho, htp, hz⟩, ⟨?_, ?_, ?_, ?_⟩, ⟨e4.symm, fun i hi => ?_⟩, ⟨Nat.le_refl _, fun t ht => ⟨rfl, rfl, rfl, rfl, rfl, w2 t ht⟩⟩, ⟨Nat.le_refl _, fun p hp => ⟨rfl, rfl, rfl⟩⟩, ⟨Nat.le_refl _, fun l hl => ⟨rfl, rfl⟩⟩⟩
      · show upd (upd (upd (upd (upd k.1 11 1) 12 (o.1 0)) 13 (o.1 1)) 14 (o.1 2)) 15 (o.1 3) 12 = _
        rw [pk_un (by omega), pk_un (by omega), pk_un (by omega), pk_us]
      · show upd (upd (upd (upd (upd k.1 11 1) 12 (o.1 0)) 13 (o.1 1)) 14 (o.1 2)) 15 (o.1 3) 13 = _
        rw [pk_un (by omega), pk_un (by omega), pk_us]
      · show upd (upd (upd (upd (upd k.1 11 1) 12 (o.1 0)) 13 (o.1 1)) 14 (o.1 2)) 15 (o.1 3) 14 = _
        rw [pk_un (by omega), pk_us]
      · show upd (upd (upd (upd (upd k.1 11 1) 12 (o.1 0)) 13 (o.1 1)) 14 (o.1 2)) 15 (o.1 3) 15 = _
        rw [pk_us]
      · have hi : i < sN o.1 4 := hi
        show va_cpy (kTp k).1 (kIt k).1 0 0 (sN o.1 4) i &&& 255 = _ ∧ fits .byte (.int (va_cpy (kTp k).1 (kIt k).1 0 0 (sN o.1 4) i)) = true
        rw [cpy_at hi]
        exact hkp.2 i hi
end IMAGE
