/-! BOTH READ: a plan, a law -/
section PLW
variable {n m j a E : Nat} {law : Bool} {ρ : Nat → Nat}
def txj (law : Bool) (i : Nat) : Nat := if law then 2 * i + 1 else 2 * i
/-- s1 is s0 but where text a stands, and the tape is emptied -/
def OUTt (law : Bool) (a : Nat) (s0 s1 : Nat → Int32) : Prop := s1 4 = 0 ∧ ∀ i, i ≠ 4 → i ≠ 325 + a → ¬ (335 + 140 * a ≤ i ∧ i < 475 + 140 * a) → (law = true ∨ i ≠ 310 + a) → i ≠ 315 + a → s1 i = s0 i
theorem Rel_pre {o : MO} {tx gx : Nat → List Cl} {k : KK} {B : HSt} (hR : Rel n o tx gx k B) {s1 : Nat → Int32} {i : Nat} (hi : i < 5) (ha : a = if law then 5 + i else i) (hc : sN o.1 (if law then 3 else 2) ≤ i) (hj : j = txj law i) (hO : OUTt law a o.1 s1) (y : XT) (b : Nat → Int32) (at' : Int32) : Rel n (oS o s1) tx gx (kuTp (kuTx k j y) (b, 0, at')) B := by
  obtain ⟨⟨hs, ho, htp, hz⟩, hk, hx, hkp, hB, htc, him⟩ := hR
  obtain ⟨h4, hO⟩ := hO
  have ha10 : a < 10 := by cases law <;> simp at ha <;> omega
  have aF : law = false → a = i := fun h => by rw [h] at ha; exact ha
  have aT : law = true → a = 5 + i := fun h => by rw [h] at ha; exact ha
  have lo : ∀ u, u < 310 → u ≠ 4 → s1 u = o.1 u := fun u h1 h2 => hO u h2 (by omega) (by omega) (Or.inr (by omega)) (by omega)
  have q0 := sN_e (lo 0 (by omega) (by omega))
  have q1 := sN_e (lo 1 (by omega) (by omega))
  have q2 := sN_e (lo 2 (by omega) (by omega))
  have q3 := sN_e (lo 3 (by omega) (by omega))
  have q4 : sN s1 4 = 0 := by
    unfold sN
    rw [h4]
    rfl
  have n2 := hs.2.2.2.1
  have n3 := hs.2.2.2.2.1
  have hn := hs.2.2.1
  have npl : ∀ p, p < sN o.1 2 → p ≠ a := fun p hp => by
    rcases Bool.eq_false_or_eq_true law with h | h
    · have := aT h; omega
    · have := aF h
      rw [h] at hc
      have hc : sN o.1 2 ≤ i := hc
      omega
  have nla : ∀ l, l < sN o.1 3 → 5 + l ≠ a := fun l hl => by
    rcases Bool.eq_false_or_eq_true law with h | h
    · have := aT h
      rw [h] at hc
      have hc : sN o.1 3 ≤ i := hc
      omega
    · have := aF h; omega
  have lF : ¬ law = true → a < 5 := fun h => by have := aF (by simpa using h); omega
  have lT : law = true ∨ a < 5 := (Decidable.em (law = true)).imp id lF
  have lT5 : law = true → 5 ≤ a := fun h => by have := aT h; omega
  have hit : ∀ p, p < 5 → p ≠ a → s1 (310 + p) = o.1 (310 + p) ∧ s1 (315 + p) = o.1 (315 + p) := fun p h1 h2 => ⟨hO _ (by omega) (by omega) (by omega) (Or.inr (by omega)) (by omega), hO _ (by omega) (by omega) (by omega) (lT.imp id (fun h => by omega)) (by omega)⟩
  have nr : ∀ l, l < 5 → 5 + l ≠ a → s1 (320 + l) = o.1 (320 + l) := fun l h1 h2 => hO _ (by omega) (by omega) (by omega) (lT.imp id (fun h => by omega)) (by omega)
  have TX : ∀ b l, b < 10 → b ≠ a → TxtS o.1 b l → TxtS s1 b l := fun b l hb hba h => by
    obtain ⟨x1, x2, x3, x4, x5⟩ := h
    exact ⟨by rw [hO _ (by omega) (by omega) (by omega) (Or.inr (by omega)) (by omega)]; exact x1, x2, At_cong _ _ (fun u h1 h2 => hO u (by omega) (by omega) (by omega) (Or.inr (by omega)) (by omega)) x3, x4, x5⟩
  have hs' : sOk s1 := by
    refine ⟨fun u hu => ?_, ?_, ?_, ?_, ?_, ?_, ?_⟩
    · by_cases hu4 : u = 4
      · subst hu4; rw [q4, h4]; rfl
      · rw [sN_e (lo u (by omega) hu4), lo u (by omega) hu4]; exact hs.1 u hu
    · rw [q0]; exact hs.2.1
    · rw [q1]; exact hs.2.2.1
    · rw [q2]; exact hs.2.2.2.1
    · rw [q3]; exact hs.2.2.2.2.1
    · rw [q4]; omega
    · intro t' ht'
      rw [q1] at ht'
      exact colE_ok ⟨lo _ (by omega) (by omega), lo _ (by omega) (by omega), lo _ (by omega) (by omega), lo _ (by omega) (by omega), lo _ (by omega) (by omega), lo _ (by omega) (by omega)⟩ (lo 0 (by omega) (by omega)) (hs.2.2.2.2.2.2 t' ht')
  have hj2 : ∀ p, p < sN o.1 2 → 2 * p ≠ j := fun p hp => by
    have := npl p hp
    rw [hj]
    unfold txj
    by_cases h : law = true
    · rw [if_pos h]; omega
    · rw [if_neg h]; have := aF (by simpa using h); omega
  have hj3 : ∀ l, l < sN o.1 3 → 2 * l + 1 ≠ j := fun l hl => by
    have := nla l hl
    rw [hj]
    unfold txj
    by_cases h : law = true
    · rw [if_pos h]; have := aT h; omega
    · rw [if_neg h]; omega
  have ktx : ∀ u, u ≠ j → kTx (kuTp (kuTx k j y) (b, 0, at')) u = kTx k u := fun u hu => if_neg hu
  refine ⟨⟨hs', ⟨fun p hp => ?_, fun l hl => ?_⟩, fun u hu => ?_, fun u hu => (hO u (by omega) (by omega) (by omega) (Or.inr (by omega)) (by omega)).trans (hz u hu)⟩, ⟨?_, ?_, ?_, ?_, fun t' ht' => ?_⟩, ⟨fun p hp => ?_, fun l hl => ?_⟩, ⟨h4.symm, fun u hu => ?_⟩, hB, htc, ?_⟩
  · have hp : p < sN s1 2 := hp
    rw [q2] at hp
    obtain ⟨y1, y2, y3, y4, y5⟩ := ho.1 p hp
    obtain ⟨e1, e2⟩ := hit p (by omega) (npl p hp)
    refine ⟨TX p _ (by omega) (npl p hp) y1, ?_, ?_, ?_, ?_⟩
    · show s1 (310 + p) = nI (sN s1 (310 + p))
      rw [sN_e e1, e1]; exact y2
    · show sN s1 (310 + p) < 100
      rw [sN_e e1]; exact y3
    · show s1 (315 + p) = nI (sN s1 (315 + p))
      rw [sN_e e2, e2]; exact y4
    · show sN s1 (315 + p) < 100
      rw [sN_e e2]; exact y5
  · have hl : l < sN s1 3 := hl
    rw [q3] at hl
    obtain ⟨y1, y2, y3⟩ := ho.2 l hl
    have e1 := nr l (by omega) (nla l hl)
    refine ⟨TX (5 + l) _ (by omega) (nla l hl) y1, ?_, ?_⟩
    · show s1 (320 + l) = nI (sN s1 (320 + l))
      rw [sN_e e1, e1]; exact y2
    · show sN s1 (320 + l) < 100
      rw [sN_e e1]; exact y3
  · have hu : u < sN s1 4 := hu
    omega
  · show k.1 0 = s1 0
    rw [lo 0 (by omega) (by omega)]; exact hk.1
  · show k.1 2 = s1 1
    rw [lo 1 (by omega) (by omega)]; exact hk.2.1
  · show k.1 5 = s1 2
    rw [lo 2 (by omega) (by omega)]; exact hk.2.2.1
  · show k.1 7 = s1 3
    rw [lo 3 (by omega) (by omega)]; exact hk.2.2.2.1
  · have ht' : t' < sN s1 1 := ht'
    rw [q1] at ht'
    obtain ⟨u, hu, hA⟩ := hk.2.2.2.2 t' ht'
    exact ⟨u, hu, TA_cong (B := B) ⟨lo _ (by omega) (by omega), lo _ (by omega) (by omega), lo _ (by omega) (by omega), lo _ (by omega) (by omega), lo _ (by omega) (by omega), lo _ (by omega) (by omega)⟩ (Nat.le_refl _) rfl hA⟩
  · have hp : p < sN s1 2 := hp
    rw [q2] at hp
    obtain ⟨e1, e2⟩ := hit p (by omega) (npl p hp)
    rw [ktx _ (hj2 p hp)]
    show _ ∧ _ = s1 (310 + p) ∧ _ = s1 (315 + p)
    rw [e1, e2]
    exact hx.1 p hp
  · have hl : l < sN s1 3 := hl
    rw [q3] at hl
    have e1 := nr l (by omega) (nla l hl)
    rw [ktx _ (hj3 l hl)]
    show _ ∧ _ = s1 (320 + l)
    rw [e1]
    exact hx.2 l hl
  · have hu : u < sN s1 4 := hu
    omega
  · obtain ⟨h, i1, i2, i3⟩ := him
    refine ⟨h, i1, i2, fun hh => ?_⟩
    obtain ⟨z1, z2, z3, ⟨z4, z5⟩, ⟨z6, z7⟩, ⟨z8, z9⟩⟩ := i3 hh
    have pp : ∀ p, p < sN o.2.1 2 → p < 5 ∧ p < sN o.1 2 := fun p hp => ⟨by omega, by omega⟩
    have ll : ∀ p, p < sN o.2.1 3 → p < 5 ∧ p < sN o.1 3 := fun p hp => ⟨by omega, by omega⟩
    refine IMG_cong (s := o.1) (tx := tx) (k := k) ⟨rfl, rfl, rfl, rfl⟩ rfl rfl ?_ (fun t' ht' => ?_) ?_ (fun p hp => ⟨rfl, hit p (pp p hp).1 (npl p (pp p hp).2)⟩) ?_ (fun l hl => ⟨rfl, nr l (ll l hl).1 (nla l (ll l hl).2)⟩) (i3 hh)
    · show sN o.1 1 ≤ sN s1 1
      rw [q1]; exact Nat.le_refl _
    · have ht' : t' < sN o.2.1 1 := ht'
      exact ⟨lo _ (by omega) (by omega), lo _ (by omega) (by omega), lo _ (by omega) (by omega), lo _ (by omega) (by omega), lo _ (by omega) (by omega)⟩
    · show sN o.1 2 ≤ sN s1 2
      rw [q2]; exact Nat.le_refl _
    · show sN o.1 3 ≤ sN s1 3
      rw [q3]; exact Nat.le_refl _
/-- a text more -/
theorem Rel_more {o : MO} {tx gx : Nat → List Cl} {k : KK} {B : HSt} (hR : Rel n o tx gx k B) {i : Nat} {cls : List Cl} {y : XT} (hi : i < 5) (ha : a = if law then 5 + i else i) (hc : sN o.1 (if law then 3 else 2) = i) (hj : j = txj law i) (hy : kTx k j = y) (hJ : JT law a o.1 y cls E) (hE : E ≤ 120) (hl8 : cls.length ≤ 8) : Rel n (oS o (upd o.1 (if law then 3 else 2) (nI (i + 1)))) (fun u => if u = a then cls else tx u) gx (kuI k (if law then 7 else 5) (nI (i + 1))) B := by
  obtain ⟨⟨hs, ho, htp, hz⟩, hk, hx, hkp, hB, htc, him⟩ := hR
  obtain ⟨⟨a1, a2, a3⟩, ⟨b1, b2, b3, b4⟩, c1, d1⟩ := hJ
  have n2 := hs.2.2.2.1
  have n3 := hs.2.2.2.2.1
  have hn := hs.2.2.1
  have ha10 : a < 10 := by cases law <;> simp at ha <;> omega
  have hT : TxtS o.1 a cls := ⟨a2, by omega, a1, hl8, fun c hc => (c1 c hc).1⟩
  have hTC : TxC law y cls := ⟨b2, hl8, b3, by omega, c1⟩
  unfold JH at d1
  generalize hq : (if law then 3 else 2 : Nat) = q at *
  generalize hq5 : (if law then 7 else 5 : Nat) = q5 at *
  have hq23 : q = 2 ∨ q = 3 := by cases law <;> simp at hq <;> omega
  have hi' : sN (upd o.1 q (nI (i + 1))) q = i + 1 := sN_us (by omega)
  have lo : ∀ u, u ≠ q → upd o.1 q (nI (i + 1)) u = o.1 u := fun u hu => pk_un hu
  have lo' : ∀ u, 4 ≤ u → upd o.1 q (nI (i + 1)) u = o.1 u := fun u hu => pk_un (by omega)
  generalize hs1 : upd o.1 q (nI (i + 1)) = s1 at *
  have eq : s1 q = nI (i + 1) := by rw [← hs1]; exact pk_us
  have q0 := sN_e (lo 0 (by omega))
  have q1 := sN_e (lo 1 (by omega))
  have q4 := sN_e (lo 4 (by omega))
  have hs' : sOk s1 := by
    refine ⟨fun u hu => ?_, ?_, ?_, ?_, ?_, ?_, ?_⟩
    · by_cases huq : u = q
      · subst huq; rw [hi', eq]
      · rw [sN_e (lo u huq), lo u huq]; exact hs.1 u hu
    · rw [q0]; exact hs.2.1
    · rw [q1]; exact hs.2.2.1
    · by_cases h : q = 2
      · subst h; omega
      · rw [sN_e (lo 2 (by omega))]; exact n2
    · by_cases h : q = 3
      · subst h; omega
      · rw [sN_e (lo 3 (by omega))]; exact n3
    · rw [q4]; exact hs.2.2.2.2.2.1
    · intro t' ht'
      rw [q1] at ht'
      exact colE_ok ⟨lo' _ (by omega), lo' _ (by omega), lo' _ (by omega), lo' _ (by omega), lo' _ (by omega), lo' _ (by omega)⟩ (lo 0 (by omega)) (hs.2.2.2.2.2.2 t' ht')
  have TX : ∀ b l, b < 10 → TxtS o.1 b l → TxtS s1 b l := fun b l hb h => by
    obtain ⟨x1, x2, x3, x4, x5⟩ := h
    exact ⟨by rw [lo' _ (by omega)]; exact x1, x2, At_cong _ _ (fun u h1 h2 => lo' u (by omega)) x3, x4, x5⟩
  have p2 : ∀ p, p < sN s1 2 → (law = false ∧ p = i ∧ p = a ∧ 2 * p = j) ∨ (p < sN o.1 2 ∧ p ≠ a) := fun p hp => by
    rcases Bool.eq_false_or_eq_true law with h | h
    · rw [h] at hq ha
      have hq : 3 = q := hq
      have ha : a = 5 + i := ha
      rw [sN_e (lo 2 (by omega))] at hp
      exact Or.inr ⟨hp, by omega⟩
    · rw [h] at hq ha hj
      have hq : 2 = q := hq
      have ha : a = i := ha
      have hj : j = 2 * i := hj
      subst hq
      rw [hi'] at hp
      by_cases hpi : p = i
      · exact Or.inl ⟨h, hpi, by omega, by omega⟩
      · exact Or.inr ⟨by omega, by omega⟩
  have p3 : ∀ l, l < sN s1 3 → (law = true ∧ l = i ∧ 5 + l = a ∧ 2 * l + 1 = j) ∨ (l < sN o.1 3 ∧ 5 + l ≠ a) := fun p hp => by
    rcases Bool.eq_false_or_eq_true law with h | h
    · rw [h] at hq ha hj
      have hq : 3 = q := hq
      have ha : a = 5 + i := ha
      have hj : j = 2 * i + 1 := hj
      subst hq
      rw [hi'] at hp
      by_cases hpi : p = i
      · exact Or.inl ⟨h, hpi, by omega, by omega⟩
      · exact Or.inr ⟨by omega, by omega⟩
    · rw [h] at hq ha
      have hq : 2 = q := hq
      have ha : a = i := ha
      rw [sN_e (lo 3 (by omega))] at hp
      exact Or.inr ⟨hp, by omega⟩
  have tx1 : ∀ u, u ≠ a → (if u = a then cls else tx u) = tx u := fun u hu => if_neg hu
  refine ⟨⟨hs', ⟨fun p hp => ?_, fun l hl => ?_⟩, fun u hu => ?_, fun u hu => (lo' u (by omega)).trans (hz u hu)⟩, ⟨?_, ?_, ?_, ?_, fun t' ht' => ?_⟩, ⟨fun p hp => ?_, fun l hl => ?_⟩, ⟨?_, fun u hu => ?_⟩, hB, htc, ?_⟩
  · show TxtS s1 p (if p = a then cls else tx p) ∧ s1 (310 + p) = nI (sN s1 (310 + p)) ∧ sN s1 (310 + p) < 100 ∧ s1 (315 + p) = nI (sN s1 (315 + p)) ∧ sN s1 (315 + p) < 100
    rw [sN_e (lo' (310 + p) (by omega)), sN_e (lo' (315 + p) (by omega)), lo' (310 + p) (by omega), lo' (315 + p) (by omega)]
    rcases p2 p hp with ⟨h1, h2, h3, h4⟩ | ⟨h1, h2⟩
    · rw [if_pos h3, h3]
      rw [if_neg (by rw [h1]; decide)] at d1
      obtain ⟨⟨e1, v1, e2, e3⟩, e4, v2, e5, e6⟩ := d1
      have s10 : sN o.1 (310 + a) = v1 := by
        unfold sN
        rw [e1, e3, nN_nI (by omega)]
      have s15 : sN o.1 (315 + a) = v2 := by
        unfold sN
        rw [e4, e6, nN_nI (by omega)]
      rw [s10, s15]
      exact ⟨TX _ _ ha10 hT, e1.trans e3, e2, e4.trans e6, e5⟩
    · rw [if_neg h2]
      obtain ⟨y1, y2⟩ := ho.1 p h1
      exact ⟨TX _ _ (by omega) y1, y2⟩
  · show TxtS s1 (5 + l) (if 5 + l = a then cls else tx (5 + l)) ∧ s1 (320 + l) = nI (sN s1 (320 + l)) ∧ sN s1 (320 + l) < 100
    rw [sN_e (lo' (320 + l) (by omega)), lo' (320 + l) (by omega)]
    rcases p3 l hl with ⟨h1, h2, h3, h4⟩ | ⟨h1, h2⟩
    · rw [if_pos h3, show 320 + l = 315 + a by omega, h3]
      rw [if_pos h1] at d1
      obtain ⟨e4, v2, e5, e6⟩ := d1
      have s15 : sN o.1 (315 + a) = v2 := by
        unfold sN
        rw [e4, e6, nN_nI (by omega)]
      rw [s15]
      exact ⟨TX _ _ ha10 hT, e4.trans e6, e5⟩
    · rw [if_neg h2]
      obtain ⟨y1, y2⟩ := ho.2 l h1
      exact ⟨TX _ _ (by omega) y1, y2⟩
  · have hu : u < sN s1 4 := hu
    rw [q4] at hu
    have n4 := hs.2.2.2.2.2.1
    show s1 (10 + u) = nI (sN s1 (10 + u)) ∧ sN s1 (10 + u) < 256
    rw [sN_e (lo' (10 + u) (by omega)), lo' (10 + u) (by omega)]
    exact htp u hu
  · show upd k.1 q5 (nI (i + 1)) 0 = s1 0
    rw [lo 0 (by omega), pk_un (by cases law <;> simp at hq5 <;> omega)]; exact hk.1
  · show upd k.1 q5 (nI (i + 1)) 2 = s1 1
    rw [lo 1 (by omega), pk_un (by cases law <;> simp at hq5 <;> omega)]; exact hk.2.1
  · show upd k.1 q5 (nI (i + 1)) 5 = s1 2
    rcases Bool.eq_false_or_eq_true law with h | h
    · rw [h] at hq hq5
      have hq : 3 = q := hq
      have hq5 : 7 = q5 := hq5
      rw [lo 2 (by omega), pk_un (by omega)]; exact hk.2.2.1
    · rw [h] at hq hq5
      have hq : 2 = q := hq
      have hq5 : 5 = q5 := hq5
      subst hq hq5
      rw [eq, pk_us]
  · show upd k.1 q5 (nI (i + 1)) 7 = s1 3
    rcases Bool.eq_false_or_eq_true law with h | h
    · rw [h] at hq hq5
      have hq : 3 = q := hq
      have hq5 : 7 = q5 := hq5
      subst hq hq5
      rw [eq, pk_us]
    · rw [h] at hq hq5
      have hq : 2 = q := hq
      have hq5 : 5 = q5 := hq5
      rw [lo 3 (by omega), pk_un (by omega)]; exact hk.2.2.2.1
  · have ht' : t' < sN s1 1 := ht'
    rw [q1] at ht'
    obtain ⟨u, hu, hA⟩ := hk.2.2.2.2 t' ht'
    exact ⟨u, hu, TA_cong (B := B) ⟨lo' _ (by omega), lo' _ (by omega), lo' _ (by omega), lo' _ (by omega), lo' _ (by omega), lo' _ (by omega)⟩ (Nat.le_refl _) rfl hA⟩
  · show TxC false (kTx k (2 * p)) (if p = a then cls else tx p) ∧ (kTx k (2 * p)).1 8 = s1 (310 + p) ∧ (kTx k (2 * p)).1 9 = s1 (315 + p)
    rw [lo' (310 + p) (by omega), lo' (315 + p) (by omega)]
    rcases p2 p hp with ⟨h1, h2, h3, h4⟩ | ⟨h1, h2⟩
    · rw [if_pos h3, h4, hy, h3]
      rw [if_neg (by rw [h1]; decide)] at d1
      rw [h1] at hTC
      exact ⟨hTC, d1.1.1.symm, d1.2.1.symm⟩
    · rw [if_neg h2]
      exact hx.1 p h1
  · show TxC true (kTx k (2 * l + 1)) (if 5 + l = a then cls else tx (5 + l)) ∧ (kTx k (2 * l + 1)).1 10 = s1 (320 + l)
    rw [lo' (320 + l) (by omega)]
    rcases p3 l hl with ⟨h1, h2, h3, h4⟩ | ⟨h1, h2⟩
    · rw [if_pos h3, h4, hy, show 320 + l = 315 + a by omega]
      rw [if_pos h1] at d1
      rw [h1] at hTC
      exact ⟨hTC, d1.1.symm⟩
    · rw [if_neg h2]
      exact hx.2 l h1
  · show (kTp k).2.1 = s1 4
    rw [lo' 4 (by omega)]; exact hkp.1
  · have hu : u < sN s1 4 := hu
    rw [q4] at hu
    show (kTp k).1 u &&& 255 = s1 (10 + u) ∧ _
    rw [lo' (10 + u) (by omega)]
    exact hkp.2 u hu
  · obtain ⟨h, i1, i2, i3⟩ := him
    refine ⟨h, i1, ?_, fun hh => ?_⟩
    · show upd k.1 q5 (nI (i + 1)) 11 = bI h
      rw [pk_un (by cases law <;> simp at hq5 <;> omega)]; exact i2
    obtain ⟨z1, z2, z3, ⟨z4, z5⟩, ⟨z6, z7⟩, ⟨z8, z9⟩⟩ := i3 hh
    have w2 : ∀ u, 12 ≤ u → upd k.1 q5 (nI (i + 1)) u = k.1 u := fun u hu => pk_un (by cases law <;> simp at hq5 <;> omega)
    have c2 : sN o.1 2 ≤ sN s1 2 := by
      by_cases h : q = 2
      · subst h; omega
      · rw [sN_e (lo 2 (by omega))]; exact Nat.le_refl _
    have c3 : sN o.1 3 ≤ sN s1 3 := by
      by_cases h : q = 3
      · subst h; omega
      · rw [sN_e (lo 3 (by omega))]; exact Nat.le_refl _
    have aF : law = false → a = i ∧ sN o.1 2 = i := fun h => by rw [h] at ha hq; subst hq; exact ⟨ha, hc⟩
    have aT : law = true → a = 5 + i ∧ sN o.1 3 = i := fun h => by rw [h] at ha hq; subst hq; exact ⟨ha, hc⟩
    refine IMG_cong (s := o.1) (tx := tx) (k := k) ⟨w2 12 (by omega), w2 13 (by omega), w2 14 (by omega), w2 15 (by omega)⟩ rfl rfl ?_ (fun t' ht' => ?_) c2 (fun p hp => ⟨tx1 p ?_, lo' _ (by omega), lo' _ (by omega)⟩) c3 (fun l hl => ⟨tx1 _ ?_, lo' _ (by omega)⟩) (i3 hh)
    · show sN o.1 1 ≤ sN s1 1
      rw [q1]; exact Nat.le_refl _
    · exact ⟨lo' _ (by omega), lo' _ (by omega), lo' _ (by omega), lo' _ (by omega), lo' _ (by omega)⟩
    · have hp : p < sN o.2.1 2 := hp
      rcases Bool.eq_false_or_eq_true law with h | h
      · have := aT h; omega
      · have := aF h; omega
    · have hl : l < sN o.2.1 3 := hl
      rcases Bool.eq_false_or_eq_true law with h | h
      · have := aT h; omega
      · have := aF h; omega
end PLW
