/-! THE REFERENCE LOOKS AT A TRY through a text's steps -/
/-- the stack stands in a row of booleans, its bottom first -/
def StR (tr : Nat → Int32) : List Bool → Prop
  | [] => True
  | b :: st => tr st.length = bI b ∧ StR tr st
theorem StR_up {tr : Nat → Int32} {x : Int32} {k : Nat} : ∀ {st : List Bool}, st.length ≤ k → StR tr st → StR (upd tr k x) st := by
  intro st
  induction st with
  | nil => intro _ _; trivial
  | cons b st ih =>
    intro h g
    simp only [List.length_cons] at h
    exact ⟨by rw [pk_un (by omega)]; exact g.1, ih (by omega) g.2⟩
theorem Iof_ts {w h v : Nat} (hw : w < 8) (hh : h < 3) (hv : v < 100) : (nI (w + 8 * h + 32 * v) - nI (w + 8 * h + 32 * v) / 8 * 8 = nI w) ∧ ((nI (w + 8 * h + 32 * v) / 8) - (nI (w + 8 * h + 32 * v) / 8) / 4 * 4 = nI h) ∧ nI (w + 8 * h + 32 * v) / 32 = nI v := by
  have e8 : (8 : Int32) = nI 8 := rfl
  have e4 : (4 : Int32) = nI 4 := rfl
  have e32 : (32 : Int32) = nI 32 := rfl
  rw [e8, e4, e32, pk_rem (by omega) (by omega) (by omega), pk_div (by omega) (by omega) (by omega), pk_rem (by omega) (by omega) (by omega), pk_div (by omega) (by omega) (by omega)]
  refine ⟨congrArg nI (by omega), congrArg nI (by omega), congrArg nI (by omega)⟩
section LOOKS
variable {m : Nat} {o : MO} {c : MC} {B : HSt}
theorem tst0 (vl : Nat → Nat) (w v : Nat) : tst vl w 0 v = decide (vl w < v) := rfl
theorem tst1 (vl : Nat → Nat) (w v : Nat) : tst vl w 1 v = decide (vl w = v) := rfl
theorem tst2 (vl : Nat → Nat) (w v : Nat) : tst vl w 2 v = decide (v < vl w) := rfl
theorem bI_if (b : Bool) {α : Type} (x y : α) : (if bI b = 0 then x else y) = if b = true then y else x := by cases b <;> simp [bI]
theorem sN_if {α : Type} {f : Int32 → α} {p : Prop} [Decidable p] : (if p then f 0 else f 1) = f (bI (!decide p)) := by
  by_cases h : p <;> simp [h, bI]
/-- one token -/
theorem looks_tok (hs : sOk o.1) {a t q e : Nat} (ha : a < 10) (ht : t < sN o.1 1) (k : Tk) (st : List Bool) {d : Nat} (hk : o.1 q = encS k) (hc : o.1 (325 + a) = nI e) (he : e ≤ 140) (hq : q < 335 + 140 * a + e) (hst : StR c.2.2.1 st) (hl : st.length ≤ 20) (hd : dep1 k st.length = some d) (K : HSt → Option HSt) (f : Nat) :
    ∃ st' T', run1 (valT o.1 a t) k st = some st' ∧ st'.length = d ∧ StR T' st' ∧ f_X12_looks_L45 m (nI a) (nI t) K (f + 1) (nI st.length) (nI q) (hM m o c B) = f_X12_looks_L45 m (nI a) (nI t) K f (nI st'.length) (nI (q + 1)) (hM m o (cT c T') B) := by
  have e1 : (335 : Int32) + 140 * nI a + nI e = nI (335 + 140 * a + e) := by
    rw [show (335 : Int32) = nI 335 from rfl, show (140 : Int32) = nI 140 from rfl, pk_mul, nI_add, nI_add]
  rcases k with ⟨w, h, v⟩ | _ | _ | _
  ·
    replace hk : o.1 q = nI (w + 8 * h + 32 * v) := hk
    simp only [dep1] at hd
    split at hd
    · rename_i hh
      obtain ⟨h1, h2, h3, h4⟩ := hh
      cases hd
      refine ⟨tst (valT o.1 a t) w h v :: st, upd c.2.2.1 st.length (bI (tst (valT o.1 a t) w h v)), rfl, rfl, ⟨pk_us, StR_up (Nat.le_refl _) hst⟩, ?_⟩
      show f_X12_looks_B45 _ _ _ _ _ _ _ _ = _
      unfold f_X12_looks_B45
      rw [mR_1]
      simp only [ob]
      rw [mA_s m o c B (i := 325 + nI a) (k := 325 + a) (nI_add 325 a) (by omega), hc]
      simp only [ob]
      rw [e1, if_neg (nI_ge hq (by omega)), mA_s m o c B (i := nI q) (k := q) rfl (by omega), hk]
      simp only [ob]
      obtain ⟨g1, g2, g3⟩ := Iof_ts h2 h3 h4
      rw [if_neg (nI_pos (by omega)), g1, g2, g3]
      simp only [hM_C, if_true]
      rw [X12_letter hs ht ha h2]
      have hv := valT_lt hs a ht w
      simp only [bd2_some, mR_9, ob]
      rw [mS_t m o c B (i := nI st.length) (k := st.length) rfl (by omega), mS_t m o c B (i := nI st.length) (k := st.length) rfl (by omega)]
      simp only [ob, nI_1]
      rcases (show h = 0 ∨ h = 1 ∨ h = 2 by omega) with rfl | rfl | rfl
      · rw [if_pos (show nI 0 = 0 from rfl), tst0]
        by_cases hx : valT o.1 a t w < v
        · rw [if_neg (nI_ge hx (by omega)), decide_eq_true hx]; rfl
        · rw [if_pos (nI_le (Nat.not_lt.mp hx) (by omega)), decide_eq_false hx]; rfl
      · rw [if_neg (show ¬ nI 1 = 0 by decide), if_pos (show nI 1 = 1 from rfl), tst1]
        by_cases hx : valT o.1 a t w = v
        · rw [if_pos (by rw [hx]), decide_eq_true hx]; rfl
        · rw [if_neg (fun q => hx ((nI_eq (by omega) (by omega)).mp q)), decide_eq_false hx]; rfl
      · rw [if_neg (show ¬ nI 2 = 0 by decide), if_neg (show ¬ nI 2 = 1 by decide), tst2]
        by_cases hx : v < valT o.1 a t w
        · rw [if_neg (nI_ge hx (by omega)), decide_eq_true hx]; rfl
        · rw [if_pos (nI_le (Nat.not_lt.mp hx) (by omega)), decide_eq_false hx]; rfl
    · cases hd
  ·
    replace hk : o.1 q = -1 := hk
    rcases st with _ | ⟨b, st⟩
    · cases hd
    · cases hd
      refine ⟨(!b) :: st, upd c.2.2.1 st.length (bI (!b)), rfl, rfl, ⟨pk_us, StR_up (Nat.le_refl _) hst.2⟩, ?_⟩
      show f_X12_looks_B45 _ _ _ _ _ _ _ _ = _
      unfold f_X12_looks_B45
      rw [mR_1]
      simp only [ob]
      rw [mA_s m o c B (i := 325 + nI a) (k := 325 + a) (nI_add 325 a) (by omega), hc]
      simp only [ob]
      rw [e1, if_neg (nI_ge hq (by omega)), mA_s m o c B (i := nI q) (k := q) rfl (by omega), hk]
      simp only [ob]
      rw [if_pos (show (-1 : Int32) < 0 by decide), if_pos trivial]
      simp only [List.length_cons] at hl ⊢
      simp only [mR_9, ob, nI_pred]
      rw [mA_t m o c B (i := nI st.length) (k := st.length) rfl (by omega), hst.1]
      simp only [ob]
      rw [mS_t m o c B (i := nI st.length) (k := st.length) rfl (by omega), mS_t m o c B (i := nI st.length) (k := st.length) rfl (by omega), bI_if, nI_1]
      cases b <;> simp [bI]
  ·
    replace hk : o.1 q = -2 := hk
    rcases st with _ | ⟨b, _ | ⟨b2, st⟩⟩
    · cases hd
    · cases hd
    · cases hd
      refine ⟨(b2 && b) :: st, upd c.2.2.1 st.length (bI (b2 && b)), rfl, rfl, ⟨pk_us, StR_up (Nat.le_refl _) hst.2.2⟩, ?_⟩
      show f_X12_looks_B45 _ _ _ _ _ _ _ _ = _
      unfold f_X12_looks_B45
      rw [mR_1]
      simp only [ob]
      rw [mA_s m o c B (i := 325 + nI a) (k := 325 + a) (nI_add 325 a) (by omega), hc]
      simp only [ob]
      rw [e1, if_neg (nI_ge hq (by omega)), mA_s m o c B (i := nI q) (k := q) rfl (by omega), hk]
      simp only [ob]
      rw [if_pos (show (-2 : Int32) < 0 by decide), if_neg (show ¬ (-2 : Int32) = -1 by decide), if_neg (show ¬ (-2 : Int32) ≤ -10 by decide)]
      simp only [List.length_cons] at hl ⊢
      rw [mR_9]
      simp only [ob]
      rw [if_pos trivial]
      simp only [pk_m1, nI_pred]
      have g1 := hst.1
      have g2 := hst.2.1
      simp only [List.length_cons] at g1
      rw [mA_t m o c B (i := nI st.length) (k := st.length) rfl (by omega), g2, mA_t m o c B (i := nI (st.length + 1)) (k := st.length + 1) rfl (by omega), g1]
      simp only [ob]
      rw [mS_t m o c B (i := nI st.length) (k := st.length) rfl (by omega), mS_t m o c B (i := nI st.length) (k := st.length) rfl (by omega), bI_if, bI_if, nI_1]
      cases b <;> cases b2 <;> simp [bI]
  ·
    replace hk : o.1 q = -3 := hk
    rcases st with _ | ⟨b, _ | ⟨b2, st⟩⟩
    · cases hd
    · cases hd
    · cases hd
      refine ⟨(b2 || b) :: st, upd c.2.2.1 st.length (bI (b2 || b)), rfl, rfl, ⟨pk_us, StR_up (Nat.le_refl _) hst.2.2⟩, ?_⟩
      show f_X12_looks_B45 _ _ _ _ _ _ _ _ = _
      unfold f_X12_looks_B45
      rw [mR_1]
      simp only [ob]
      rw [mA_s m o c B (i := 325 + nI a) (k := 325 + a) (nI_add 325 a) (by omega), hc]
      simp only [ob]
      rw [e1, if_neg (nI_ge hq (by omega)), mA_s m o c B (i := nI q) (k := q) rfl (by omega), hk]
      simp only [ob]
      rw [if_pos (show (-3 : Int32) < 0 by decide), if_neg (show ¬ (-3 : Int32) = -1 by decide), if_neg (show ¬ (-3 : Int32) ≤ -10 by decide)]
      simp only [List.length_cons] at hl ⊢
      rw [mR_9]
      simp only [ob]
      rw [if_neg (show ¬ (-3 : Int32) = -2 by decide)]
      simp only [pk_m1, nI_pred]
      have g1 := hst.1
      have g2 := hst.2.1
      simp only [List.length_cons] at g1
      rw [mA_t m o c B (i := nI st.length) (k := st.length) rfl (by omega), g2, mA_t m o c B (i := nI (st.length + 1)) (k := st.length + 1) rfl (by omega), g1]
      simp only [ob]
      rw [mS_t m o c B (i := nI st.length) (k := st.length) rfl (by omega), mS_t m o c B (i := nI st.length) (k := st.length) rfl (by omega), bI_if, bI_if, nI_1]
      cases b <;> cases b2 <;> simp [bI]
end LOOKS
