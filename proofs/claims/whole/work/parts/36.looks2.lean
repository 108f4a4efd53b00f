/-! THE REFERENCE LOOKS: clauses, the whole text -/
theorem endS_ok : ∀ Q, Q < 500 → endS Q < 0 ∧ ¬ endS Q = -1 ∧ endS Q ≤ -10 ∧ (-10 - endS Q) = nI Q ∧ (-10 - endS Q) / 100 = nI (Q / 100) := by decide +kernel
theorem cI_1 (c : MC) (k : Nat) (x : Int32) : (cI c k x).1 = upd c.1 k x := rfl
theorem cI_T (c : MC) (k : Nat) (x : Int32) : (cI c k x).2.2.1 = c.2.2.1 := rfl
theorem cI_N (c : MC) (k : Nat) (x : Int32) : (cI c k x).2.2.2.1 = c.2.2.2.1 := rfl
theorem cI_H (c : MC) (k : Nat) (x : Int32) : (cI c k x).2.2.2.2.1 = c.2.2.2.2.1 := rfl
theorem cN_1 (c : MC) (f : Nat → Int32) : (cN c f).1 = c.1 := rfl
theorem cN_T (c : MC) (f : Nat → Int32) : (cN c f).2.2.1 = c.2.2.1 := rfl
theorem cN_N (c : MC) (f : Nat → Int32) : (cN c f).2.2.2.1 = f := rfl
theorem cN_H (c : MC) (f : Nat → Int32) : (cN c f).2.2.2.2.1 = c.2.2.2.2.1 := rfl
theorem cH_1 (c : MC) (f : Nat → Int32) : (cH c f).1 = c.1 := rfl
theorem cH_T (c : MC) (f : Nat → Int32) : (cH c f).2.2.1 = c.2.2.1 := rfl
theorem cH_N (c : MC) (f : Nat → Int32) : (cH c f).2.2.2.1 = c.2.2.2.1 := rfl
theorem cH_H (c : MC) (f : Nat → Int32) : (cH c f).2.2.2.2.1 = f := rfl
theorem cT_1 (c : MC) (f : Nat → Int32) : (cT c f).1 = c.1 := rfl
theorem cT_T (c : MC) (f : Nat → Int32) : (cT c f).2.2.1 = f := rfl
theorem cT_N (c : MC) (f : Nat → Int32) : (cT c f).2.2.2.1 = c.2.2.2.1 := rfl
theorem cT_H (c : MC) (f : Nat → Int32) : (cT c f).2.2.2.2.1 = c.2.2.2.2.1 := rfl
def cntC (k : Nat) : List Cl → Nat
  | [] => 0
  | c :: l => cntC k l + if c.1 = k then 1 else 0
def anyC (vl : Nat → Nat) (k : Nat) (l : List Cl) : Bool := l.any (fun c => decide (c.1 = k) && evC vl c)
def fstC (vl : Nat → Nat) : List Cl → Int32
  | [] => -1
  | c :: l => if evC vl c = true then nI (100 * c.1 + c.2.1) else fstC vl l
section LOOKS2
variable {m : Nat} {o : MO} {c : MC} {B : HSt}
/-- all tokens of a clause -/
theorem looks_toks (hs : sOk o.1) {a t e : Nat} (ha : a < 10) (ht : t < sN o.1 1) (hc : o.1 (325 + a) = nI e) (he : e ≤ 140) (K : HSt → Option HSt) : ∀ (l : List Tk) (st : List Bool) (c : MC) (q d f : Nat), At o.1 q (l.map encS) → q + l.length ≤ 335 + 140 * a + e → StR c.2.2.1 st → st.length ≤ 20 → dep l st.length = some d →
    ∃ st' T', run (valT o.1 a t) l st = some st' ∧ st'.length = d ∧ StR T' st' ∧ f_X12_looks_L45 m (nI a) (nI t) K (f + l.length) (nI st.length) (nI q) (hM m o c B) = f_X12_looks_L45 m (nI a) (nI t) K f (nI st'.length) (nI (q + l.length)) (hM m o (cT c T') B) := by
  intro l
  induction l with
  | nil =>
    intro st c q d f _ _ hst _ hd
    cases hd
    exact ⟨st, c.2.2.1, rfl, rfl, hst, rfl⟩
  | cons k l ih =>
    intro st c q d f hA hq hst hl hd
    simp only [List.length_cons] at hq
    obtain ⟨d1, hd1, hd2⟩ := Option.bind_eq_some_iff.mp hd
    obtain ⟨st1, T1, g1, g2, g3, g4⟩ := looks_tok (B := B) hs ha ht k st hA.1 hc he (by omega) hst hl hd1 K (f + l.length)
    have hd20 : d1 ≤ 20 := by
      rcases k with ⟨w, h, v⟩ | _ | _ | _
      ·
        simp only [dep1] at hd1
        split at hd1
        · cases hd1; omega
        · cases hd1
      · rcases hh : st.length with _ | n <;> rw [hh] at hd1 <;> cases hd1; omega
      · rcases hh : st.length with _ | _ | n <;> rw [hh] at hd1 <;> cases hd1; omega
      · rcases hh : st.length with _ | _ | n <;> rw [hh] at hd1 <;> cases hd1; omega
    subst g2
    obtain ⟨st2, T2, k1, k2, k3, k4⟩ := ih st1 (cT c T1) (q + 1) d f hA.2 (by omega) g3 hd20 hd2
    refine ⟨st2, T2, ?_, k2, k3, ?_⟩
    · unfold run
      rw [g1]
      exact k1
    · simp only [List.length_cons]
      rw [show f + (l.length + 1) = f + l.length + 1 by omega, g4, k4, show q + 1 + l.length = q + (l.length + 1) by omega]
      rfl
/-- what has been told of a text so far -/
def LkS (c : MC) (n : Nat → Nat) (h : Nat → Bool) (ft : Int32) : Prop := (∀ k, k < 5 → c.2.2.2.1 k = nI (n k)) ∧ (∀ k, k < 5 → c.2.2.2.2.1 k = bI (h k)) ∧ c.1 12 = ft
theorem looks_J {E : Int32} {a t q : Nat} (K : HSt → Option HSt) {k n : Nat} (hk : k < 5) (hn : n < 100) (z4 : -10 - E = nI (100 * k + n)) (z5 : (-10 - E) / 100 = nI k) {b : Bool} (hT : c.2.2.1 0 = bI b) {N : Nat → Nat} {H : Nat → Bool} {ft : Int32} (hL : LkS c N H ft) (f : Nat) (y : Bool) : f_X12_looks_J351 m (m + 5) (f_X12_looks_L45 m (nI a) (nI t) K f) E (nI q) (bI y) (hM m o (cN c (upd c.2.2.2.1 k (nI (N k + 1)))) B) = f_X12_looks_L45 m (nI a) (nI t) K f 0 (nI (q + 1)) (hM m o (cI (cH (cN c (upd c.2.2.2.1 k (nI (N k + 1)))) (upd c.2.2.2.2.1 k (bI y))) 12 (if ft = -1 then (if b = true then nI (100 * k + n) else -1) else ft)) B) := by
  obtain ⟨l1, l2, l3⟩ := hL
  unfold f_X12_looks_J351
  rw [if_pos (bI_01 y), z5, mS_h m o _ B (i := nI k) (k := k) rfl hk]
  simp only [ob, mI_12, cH_1, cN_1, l3]
  simp only [mR_9, ob, mP_12, z4, nI_1]
  by_cases hf : ft = -1
  · rw [if_pos hf, mA_t m o _ B (i := 0) (k := 0) rfl (by omega)]
    simp only [ob, cH_T, cN_T, hT, cN_H]
    rw [bI_if, if_pos hf, hf]
    cases b <;> simp
  · rw [if_neg hf]
    simp only [if_neg hf, cN_H]
theorem looks_succ (a0 : Nat) (a1 a2 : Int32) (K : HSt → Option HSt) (n : Nat) (x y : Int32) (S : HSt) : f_X12_looks_L45 a0 a1 a2 K (n + 1) x y S = f_X12_looks_B45 a0 a1 a2 K (f_X12_looks_L45 a0 a1 a2 K n) x y S := rfl
/-- a clause's end -/
theorem looks_end (hs : sOk o.1) {a t e q : Nat} (ha : a < 10) (ht : t < sN o.1 1) (hc : o.1 (325 + a) = nI e) (he : e ≤ 140) (hq : q < 335 + 140 * a + e) (K : HSt → Option HSt) {k n : Nat} (hk : k < 5) (hn : n < 100) (hend : o.1 q = endS (100 * k + n)) {b : Bool} {x : Int32} (hT : c.2.2.1 0 = bI b) {N : Nat → Nat} {H : Nat → Bool} {ft : Int32} (hL : LkS c N H ft) (f : Nat) :
    ∃ c', LkS c' (fun j => if j = k then N k + 1 else N j) (fun j => if j = k then H k || b else H j) (if ft = -1 then (if b = true then nI (100 * k + n) else -1) else ft) ∧ f_X12_looks_L45 m (nI a) (nI t) K (f + 1) x (nI q) (hM m o c B) = f_X12_looks_L45 m (nI a) (nI t) K f 0 (nI (q + 1)) (hM m o c' B) := by
  obtain ⟨z1, z2, z3, z4, z5⟩ := endS_ok (100 * k + n) (by omega)
  rw [show (100 * k + n) / 100 = k by omega] at z5
  generalize endS (100 * k + n) = E at *
  obtain ⟨l1, l2, l3⟩ := hL
  have e1 : (335 : Int32) + 140 * nI a + nI e = nI (335 + 140 * a + e) := by
    rw [show (335 : Int32) = nI 335 from rfl, show (140 : Int32) = nI 140 from rfl, pk_mul, nI_add, nI_add]
  have c1 := l1 k hk
  have c2 := l2 k hk
  refine ⟨cI (cH (cN c (upd c.2.2.2.1 k (nI (N k + 1)))) (upd c.2.2.2.2.1 k (bI (H k || b)))) 12 (if ft = -1 then (if b = true then nI (100 * k + n) else -1) else ft), ⟨?_, ?_, ?_⟩, ?_⟩
  · intro j hj
    rw [cI_N, cH_N, cN_N]
    by_cases h : j = k
    · subst h; rw [pk_us]; simp
    · rw [pk_un h, l1 j hj]; simp [h]
  · intro j hj
    rw [cI_H, cH_H]
    by_cases h : j = k
    · subst h; rw [pk_us]; simp
    · rw [pk_un h, l2 j hj]; simp [h]
  · rw [cI_1, pk_us]
  have J := fun y : Bool => looks_J (m := m) (o := o) (B := B) (q := q) K (a := a) (t := t) hk hn z4 z5 hT ⟨l1, l2, l3⟩ f y
  rw [looks_succ]
  unfold f_X12_looks_B45
  rw [mR_1]
  simp only [ob]
  rw [mA_s m o c B (i := 325 + nI a) (k := 325 + a) (nI_add 325 a) (by omega), hc]
  simp only [ob]
  rw [e1, if_neg (nI_ge hq (by omega)), mA_s m o c B (i := nI q) (k := q) rfl (by omega), hend]
  simp only [ob]
  rw [if_pos z1, if_neg z2, if_pos z3, mR_10]
  simp only [ob]
  rw [z5, mA_n m o c B (i := nI k) (k := k) rfl hk, c1]
  simp only [ob]
  rw [mS_n m o c B (i := nI k) (k := k) rfl hk, nI_1]
  simp only [ob]
  rw [mR_11]
  simp only [ob]
  rw [mA_h m o _ B (i := nI k) (k := k) rfl hk, cN_H, c2]
  simp only [ob]
  rw [mR_9]
  simp only [ob]
  rw [mA_t m o _ B (i := 0) (k := 0) rfl (by omega), cN_T, hT]
  simp only [ob]
  rw [bI_if, bI_if]
  have J0 := J false
  have J1 := J true
  rw [show bI false = 0 from rfl] at J0
  rw [show bI true = 1 from rfl] at J1
  rw [J0, J1]
  cases hHk : H k
  · cases b
    · simp [bI]
    · simp [bI]
  · simp [bI]
theorem flat_pos (c : Cl) (l : List Cl) : (flat (c :: l)).length = c.2.2.length + 1 + (flat l).length := by
  simp only [flat, flC, List.length_append, List.length_map, List.length_cons, List.length_nil]
/-- all clauses -/
theorem looks_cls (hs : sOk o.1) {a t e : Nat} (ha : a < 10) (ht : t < sN o.1 1) (hc : o.1 (325 + a) = nI e) (he : e ≤ 140) (K : HSt → Option HSt) : ∀ (l : List Cl) (c : MC) (q f : Nat) (N : Nat → Nat) (H : Nat → Bool) (ft : Int32), At o.1 q (flat l) → q + (flat l).length ≤ 335 + 140 * a + e → (∀ x ∈ l, clOk x) → LkS c N H ft →
    ∃ c', LkS c' (fun j => N j + cntC j l) (fun j => H j || anyC (valT o.1 a t) j l) (if ft = -1 then fstC (valT o.1 a t) l else ft) ∧ f_X12_looks_L45 m (nI a) (nI t) K (f + (flat l).length) 0 (nI q) (hM m o c B) = f_X12_looks_L45 m (nI a) (nI t) K f 0 (nI (q + (flat l).length)) (hM m o c' B) := by
  intro l
  induction l with
  | nil =>
    intro c q f N H ft _ _ _ hL
    refine ⟨c, ⟨fun k hk => hL.1 k hk, fun k hk => ?_, ?_⟩, rfl⟩
    · rw [hL.2.1 k hk]; simp [anyC]
    · rw [hL.2.2]
      by_cases h : ft = -1 <;> simp [h, fstC]
  | cons y l ih =>
    intro c q f N H ft hA hq hok hL
    obtain ⟨y1, y2, y3⟩ := hok y (List.mem_cons_self)
    have hA1 : At o.1 q (y.2.2.map encS ++ ([endS (100 * y.1 + y.2.1)] ++ flat l)) := by
      have := hA
      simp only [flat, flC, List.append_assoc] at this
      exact this
    obtain ⟨hA2, hA3⟩ := (At_append o.1 _ _ q).mp hA1
    rw [List.length_map] at hA3
    have hq2 := hq
    rw [flat_pos] at hq2
    obtain ⟨st1, T1, g1, g2, g3, g4⟩ := looks_toks (m := m) (B := B) hs ha ht hc he K y.2.2 [] c q 1 (f + (flat l).length + 1) hA2 (by omega) trivial (by simp) y3
    have hr := evC_run (valT o.1 a t) y y3
    rw [hr] at g1
    cases g1
    obtain ⟨c2, k1, k2⟩ := looks_end (m := m) (B := B) (c := cT c T1) hs ha ht hc he (q := q + y.2.2.length) (by omega) K y1 y2 hA3.1 (b := evC (valT o.1 a t) y) (x := nI [evC (valT o.1 a t) y].length) g3.1 (show LkS (cT c T1) N H ft from hL) (f + (flat l).length)
    obtain ⟨c3, j1, j2⟩ := ih c2 (q + y.2.2.length + 1) f _ _ _ hA3.2 (by omega) (fun x hx => hok x (List.mem_cons_of_mem _ hx)) k1
    refine ⟨c3, ⟨fun k hk => ?_, fun k hk => ?_, ?_⟩, ?_⟩
    · rw [j1.1 k hk]
      by_cases h : k = y.1
      · subst h; simp only [cntC, if_true]; exact congrArg nI (by omega)
      · simp [cntC, h, Ne.symm h]
    · rw [j1.2.1 k hk]
      by_cases h : k = y.1
      · subst h; simp [anyC, Bool.or_assoc]
      · simp [anyC, h, Ne.symm h]
    · rw [j1.2.2]
      by_cases h : ft = -1
      · simp only [h, if_true, fstC]
        by_cases hb : evC (valT o.1 a t) y = true
        · have : ¬ nI (100 * y.1 + y.2.1) = -1 := fun q => by
            have h2 : (nI (100 * y.1 + y.2.1)).toInt = -1 := by rw [q]; rfl
            rw [nI_toInt (by omega)] at h2
            omega
          simp [hb, this]
        · simp [hb]
      · simp [h]
    · rw [flat_pos, show f + (y.2.2.length + 1 + (flat l).length) = f + (flat l).length + 1 + y.2.2.length by omega]
      have g4' := g4
      rw [show nI ([] : List Bool).length = (0 : Int32) from rfl] at g4'
      rw [g4', k2, j2, show q + y.2.2.length + 1 + (flat l).length = q + (y.2.2.length + 1 + (flat l).length) by omega]
/-- a look at a try through a text -/
theorem X12_looks (hs : sOk o.1) {a t : Nat} (ha : a < 10) (ht : t < sN o.1 1) {l : List Cl} (hx : TxtS o.1 a l) : ∃ c', f_X12_looks (hM m o c B) m (nI a) (nI t) = some (hM m o c' B) ∧ (∀ k, k < 5 → c'.2.2.2.1 k = nI (cntC k l)) ∧ (∀ k, k < 5 → c'.2.2.2.2.1 k = bI (anyC (valT o.1 a t) k l)) ∧ c'.1 12 = fstC (valT o.1 a t) l := by
  obtain ⟨x1, x2, x3, x4, x5⟩ := hx
  unfold f_X12_looks
  have L : ∀ (d i f : Nat) (c : MC), i + d = 5 → d < f → (∀ k, k < i → c.2.2.2.1 k = 0 ∧ c.2.2.2.2.1 k = 0) → ∃ c', (∀ k, k < 5 → c'.2.2.2.1 k = 0 ∧ c'.2.2.2.2.1 k = 0) ∧ f_X12_looks_L2 m (f_X12_looks_K27 m (nI a) (nI t)) f (nI i) (hM m o c B) = f_X12_looks_K27 m (nI a) (nI t) (hM m o c' B) := by
    intro d
    induction d with
    | zero =>
      intro i f c hi hf h
      obtain ⟨f, rfl⟩ : ∃ g, f = g + 1 := ⟨f - 1, by omega⟩
      refine ⟨c, fun k hk => h k (by omega), ?_⟩
      show f_X12_looks_B2 _ _ _ _ _ = _
      unfold f_X12_looks_B2
      rw [if_pos (show (5 : Int32) ≤ nI i from (nI_leI (a := 5) (b := i) (by omega) (by omega)).mpr (by omega))]
    | succ d ih =>
      intro i f c hi hf h
      obtain ⟨f, rfl⟩ : ∃ g, f = g + 1 := ⟨f - 1, by omega⟩
      obtain ⟨c', k1, k2⟩ := ih (i + 1) f (cH (cN c (upd c.2.2.2.1 i 0)) (upd c.2.2.2.2.1 i 0)) (by omega) (by omega) (fun k hk => by
        show upd c.2.2.2.1 i 0 k = 0 ∧ upd c.2.2.2.2.1 i 0 k = 0
        by_cases hki : k = i
        · subst hki; exact ⟨pk_us, pk_us⟩
        · rw [pk_un hki, pk_un hki]; exact h k (by omega))
      refine ⟨c', k1, ?_⟩
      rw [← k2]
      show f_X12_looks_B2 _ _ _ _ _ = _
      unfold f_X12_looks_B2
      rw [if_neg (show ¬ (5 : Int32) ≤ nI i from fun q => by have := (nI_leI (a := 5) (b := i) (by omega) (by omega)).mp q; omega), mR_10]
      simp only [ob]
      rw [mS_n m o c B (i := nI i) (k := i) rfl (by omega)]
      simp only [ob, mR_11]
      rw [mS_h m o _ B (i := nI i) (k := i) rfl (by omega), nI_1]
      rfl
  obtain ⟨c1, z1, z2⟩ := L 5 0 FU c (by omega) (by show 5 < 100000; omega) (fun k hk => absurd hk (by omega))
  rw [show (0 : Int32) = nI 0 from rfl, z2]
  unfold f_X12_looks_K27
  rw [mP_12]
  simp only [ob]
  obtain ⟨c2, k1, k2⟩ := looks_cls (m := m) (B := B) hs ha ht x1 x2 f_X12_looks_K388 l (cI c1 12 (-1)) (335 + 140 * a) (FU - (flat l).length) (fun _ => 0) (fun _ => false) (-1) x3 (Nat.le_refl _) x5 ⟨fun k hk => (z1 k hk).1, fun k hk => (z1 k hk).2, by rw [cI_1, pk_us]⟩
  refine ⟨c2, ?_, fun k hk => by rw [k1.1 k hk]; simp, fun k hk => by rw [k1.2.1 k hk]; simp, by rw [k1.2.2, if_pos rfl]⟩
  have e1 : (335 : Int32) + 140 * nI a = nI (335 + 140 * a) := by
    rw [show (335 : Int32) = nI 335 from rfl, show (140 : Int32) = nI 140 from rfl, pk_mul, nI_add]
  rw [e1]
  rw [show FU - (flat l).length + (flat l).length = FU by show 100000 - _ + _ = 100000; omega] at k2
  rw [show nI 0 = (0 : Int32) from rfl] at *
  rw [k2]
  obtain ⟨f, hf⟩ : ∃ g, FU - (flat l).length = g + 1 := ⟨100000 - (flat l).length - 1, by show 100000 - _ = _; omega⟩
  rw [hf]
  rw [looks_succ]
  unfold f_X12_looks_B45
  rw [mR_1]
  simp only [ob]
  rw [mA_s m o c2 B (i := 325 + nI a) (k := 325 + a) (nI_add 325 a) (by omega), x1]
  simp only [ob]
  rw [e1, nI_add, if_pos (nI_le (Nat.le_refl _) (by omega))]
  rfl
end LOOKS2
