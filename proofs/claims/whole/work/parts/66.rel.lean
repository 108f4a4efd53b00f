/-! THE RELATION of both states; what a change leaves -/
def zOk (s : Nat → Int32) : Prop := ∀ k, 1735 ≤ k → s k = 0
def tpOk (s : Nat → Int32) : Prop := ∀ i, i < sN s 4 → s (10 + i) = nI (sN s (10 + i)) ∧ sN s (10 + i) < 256
def aOk (s : Nat → Int32) (tx : Nat → List Cl) : Prop := sOk s ∧ txOk s tx ∧ tpOk s ∧ zOk s
def KP (s : Nat → Int32) (x : XP) : Prop := x.2.1 = s 4 ∧ ∀ i, i < sN s 4 → x.1 i &&& 255 = s (10 + i) ∧ fits .byte (.int (x.1 i)) = true
/-- the image: g; the class keeps of it counts, excused, the tape -/
def IMG (s g : Nat → Int32) (tx gx : Nat → List Cl) (k : KK) : Prop :=
  aOk g gx ∧ (k.1 12 = g 0 ∧ k.1 13 = g 1 ∧ k.1 14 = g 2 ∧ k.1 15 = g 3) ∧ KP g (kIt k) ∧
  (sN g 1 ≤ sN s 1 ∧ ∀ t, t < sN g 1 → s (130 + t) = g (130 + t) ∧ s (160 + t) = g (160 + t) ∧ s (190 + t) = g (190 + t) ∧ s (220 + t) = g (220 + t) ∧ s (250 + t) = g (250 + t) ∧ kIe k t = g (280 + t)) ∧
  (sN g 2 ≤ sN s 2 ∧ ∀ p, p < sN g 2 → tx p = gx p ∧ s (310 + p) = g (310 + p) ∧ s (315 + p) = g (315 + p)) ∧
  (sN g 3 ≤ sN s 3 ∧ ∀ l, l < sN g 3 → tx (5 + l) = gx (5 + l) ∧ s (320 + l) = g (320 + l))
def Rel (n : Nat) (o : MO) (tx gx : Nat → List Cl) (k : KK) (B : HSt) : Prop :=
  aOk o.1 tx ∧ KR n o.1 k B ∧ KX o.1 tx k ∧ KP o.1 (kTp k) ∧ n + 73 ≤ B.2 ∧
  (zOk o.2.1 ∧ ∃ q r : TQ, o.2.2.2 = (nI q.2, q.1) ∧ kTc k = (r.1, nI r.2) ∧ q.2 = r.2 ∧ q.2 ≤ 20 ∧ ∀ i, i < q.2 → q.1 i = r.1 i) ∧
  ∃ h : Bool, o.2.2.1 = bI h ∧ k.1 11 = bI h ∧ (h = true → IMG o.1 o.2.1 tx gx k)
theorem sN_us {s : Nat → Int32} {j v : Nat} (hv : v < 2 ^ 31) : sN (upd s j (nI v)) j = v := by
  unfold sN
  rw [pk_us, nN_nI hv]
theorem sN_un {s : Nat → Int32} {j i : Nat} {v : Int32} (h : i ≠ j) : sN (upd s j v) i = sN s i := by
  unfold sN
  rw [pk_un h]
theorem sN_e {s s' : Nat → Int32} {i : Nat} (h : s' i = s i) : sN s' i = sN s i := by
  unfold sN
  rw [h]
/-- a try's columns are the same -/
def colE (s s' : Nat → Int32) (t : Nat) : Prop := s' (130 + t) = s (130 + t) ∧ s' (160 + t) = s (160 + t) ∧ s' (190 + t) = s (190 + t) ∧ s' (220 + t) = s (220 + t) ∧ s' (250 + t) = s (250 + t) ∧ s' (280 + t) = s (280 + t)
theorem colE_t {s s' : Nat → Int32} {t : Nat} (h : colE s s' t) : tMan s' t = tMan s t ∧ tDay s' t = tDay s t ∧ tKind s' t = tKind s t ∧ tPipe s' t = tPipe s t ∧ tSaid s' t = tSaid s t ∧ tExc s' t = tExc s t := ⟨sN_e h.1, sN_e h.2.1, sN_e h.2.2.1, sN_e h.2.2.2.1, sN_e h.2.2.2.2.1, sN_e h.2.2.2.2.2⟩
theorem colE_F {s s' : Nat → Int32} {t : Nat} (h : colE s s' t) (q : Nat) : tyF q s' t = tyF q s t ∧ tKind s' t = tKind s t := by
  obtain ⟨h1, h2, h3, h4, h5, h6⟩ := colE_t h
  refine ⟨?_, h3⟩
  unfold tyF tNear
  rw [h1, h2, h3, h4, h5, h6]
theorem colE_ok {s s' : Nat → Int32} {t : Nat} (h : colE s s' t) (h0 : s' 0 = s 0) (ht : tOk s t) : tOk s' t := by
  obtain ⟨a1, a2, a3, a4, a5, a6, a7, a8, a9, a10, a11, a12⟩ := ht
  obtain ⟨h1, h2, h3, h4, h5, h6⟩ := colE_t h
  unfold tOk
  rw [h1, h2, h3, h4, h5, h6, h.1, h.2.1, h.2.2.1, h.2.2.2.1, h.2.2.2.2.1, h.2.2.2.2.2, sN_e h0]
  exact ⟨a1, a2, a3, a4, a5, a6, a7, a8, a9, a10, a11, a12⟩
theorem TxtS_cong {s s' : Nat → Int32} {a : Nat} (ha : a < 10) {l : List Cl} (h : ∀ k, 310 ≤ k → k < 1735 → s' k = s k) (hx : TxtS s a l) : TxtS s' a l := by
  obtain ⟨x1, x2, x3, x4, x5⟩ := hx
  exact ⟨by rw [h _ (by omega) (by omega)]; exact x1, x2, At_cong _ _ (fun i h1 h2 => h i (by omega) (by omega)) x3, x4, x5⟩
theorem txOk_cong {s s' : Nat → Int32} {tx : Nat → List Cl} (hs : sOk s) (h : ∀ k, 310 ≤ k → k < 1735 → s' k = s k) (h2 : s' 2 = s 2) (h3 : s' 3 = s 3) (ho : txOk s tx) : txOk s' tx := by
  have n2 := hs.2.2.2.1
  have n3 := hs.2.2.2.2.1
  refine ⟨fun p hp => ?_, fun l hl => ?_⟩
  · rw [sN_e h2] at hp
    obtain ⟨y1, y2, y3, y4, y5⟩ := ho.1 p hp
    have e1 := h (310 + p) (by omega) (by omega)
    have e2 := h (315 + p) (by omega) (by omega)
    refine ⟨TxtS_cong (by omega) h y1, ?_, ?_, ?_, ?_⟩
    · unfold hitN; rw [sN_e e1, e1]; exact y2
    · unfold hitN; rw [sN_e e1]; exact y3
    · unfold needN; rw [sN_e e2, e2]; exact y4
    · unfold needN; rw [sN_e e2]; exact y5
  · rw [sN_e h3] at hl
    obtain ⟨y1, y2, y3⟩ := ho.2 l hl
    have e1 := h (320 + l) (by omega) (by omega)
    refine ⟨TxtS_cong (by omega) h y1, ?_, ?_⟩
    · unfold nearN; rw [sN_e e1, e1]; exact y2
    · unfold nearN; rw [sN_e e1]; exact y3
theorem KX_cong {s s' : Nat → Int32} {tx : Nat → List Cl} {k k' : KK} (hs : sOk s) (h : ∀ k, 310 ≤ k → k < 1735 → s' k = s k) (h2 : s' 2 = s 2) (h3 : s' 3 = s 3) (hk : kTx k' = kTx k) (hx : KX s tx k) : KX s' tx k' := by
  have n2 := hs.2.2.2.1
  have n3 := hs.2.2.2.2.1
  refine ⟨fun p hp => ?_, fun l hl => ?_⟩
  · rw [sN_e h2] at hp
    rw [hk, h (310 + p) (by omega) (by omega), h (315 + p) (by omega) (by omega)]
    exact hx.1 p hp
  · rw [sN_e h3] at hl
    rw [hk, h (320 + l) (by omega) (by omega)]
    exact hx.2 l hl
theorem tpOk_cong {s s' : Nat → Int32} (hs : sOk s) (h : ∀ i, i < 120 → s' (10 + i) = s (10 + i)) (h4 : s' 4 = s 4) (ho : tpOk s) : tpOk s' := by
  have n4 := hs.2.2.2.2.2.1
  intro i hi
  rw [sN_e h4] at hi
  have e := h i (by omega)
  rw [sN_e e, e]
  exact ho i hi
theorem KP_cong {s s' : Nat → Int32} {x : XP} (hs : sOk s) (h : ∀ i, i < 120 → s' (10 + i) = s (10 + i)) (h4 : s' 4 = s 4) (hx : KP s x) : KP s' x := by
  have n4 := hs.2.2.2.2.2.1
  refine ⟨by rw [h4]; exact hx.1, fun i hi => ?_⟩
  rw [sN_e h4] at hi
  rw [h i (by omega)]
  exact hx.2 i hi
theorem zOk_up {s : Nat → Int32} {j : Nat} (hj : j < 1735) (v : Int32) (h : zOk s) : zOk (upd s j v) := fun k hk => by
  rw [pk_un (by omega)]
  exact h k hk
theorem TA_cong {n : Nat} {s s' : Nat → Int32} {B B' : HSt} {t a : Nat} (h : colE s s' t) (h2 : B.2 ≤ B'.2) (hB : B'.1 a = B.1 a) (hA : TA n s B t a) : TA n s' B' t a := by
  obtain ⟨e1, e2⟩ := colE_F h (n + 10)
  refine ⟨hA.1, Nat.lt_of_lt_of_le hA.2.1 h2, ?_⟩
  rw [hB, e1, e2]
  exact hA.2.2
theorem KR_hM {n : Nat} {s : Nat → Int32} {k : KK} {B : HSt} (o : MO) (c : MC) (h : KR n s k B) : KR n s k (hM (n + 65) o c B) := by
  refine ⟨h.1, h.2.1, h.2.2.1, h.2.2.2.1, fun t ht => ?_⟩
  obtain ⟨a, ha, hA⟩ := h.2.2.2.2 t ht
  refine ⟨a, ha, hA.1, hA.2.1, ?_⟩
  have : (hM (n + 65) o c B).1 a = B.1 a := if_neg (by have := hA.1; omega)
  rw [this]
  exact hA.2.2
/-- one call on both -/
def Sim {α : Type} (n : Nat) (ρ : Nat → Nat) (F G : HSt → Option (α × HSt)) : Prop := ∀ (o : MO) (c : MC) (tx gx : Nat → List Cl) (k : KK) (B : HSt), Rel n o tx gx k B → ∃ (v : α) (o' : MO) (c' : MC) (tx' gx' : Nat → List Cl) (k' : KK) (B' : HSt), F (hK n ρ k (hM (n + 65) o c B)) = some (v, hK n ρ k' (hM (n + 65) o c B')) ∧ G (hM (n + 65) o c (hK n ρ k' B')) = some (v, hM (n + 65) o' c' (hK n ρ k' B')) ∧ Rel n o' tx' gx' k' B'
/-- a question: only scratch changes -/
theorem Sim_ask {α : Type} {n : Nat} {ρ : Nat → Nat} {F G : HSt → Option (α × HSt)} (h : ∀ (o : MO) (c : MC) (tx : Nat → List Cl) (k : KK) (B : HSt), aOk o.1 tx → KR n o.1 k B → KX o.1 tx k → ∃ (v : α) (c' : MC) (x y : XO), F (hK n ρ k (hM (n + 65) o c B)) = some (v, hK n ρ (kuFe (kuOd k x) y) (hM (n + 65) o c B)) ∧ G (hM (n + 65) o c (hK n ρ (kuFe (kuOd k x) y) B)) = some (v, hM (n + 65) o c' (hK n ρ (kuFe (kuOd k x) y) B))) : Sim n ρ F G := by
  intro o c tx gx k B hR
  obtain ⟨v, c', x, y, h1, h2⟩ := h o c tx k B hR.1 hR.2.1 hR.2.2.1
  exact ⟨v, o, c', tx, gx, kuFe (kuOd k x) y, B, h1, h2, hR⟩
