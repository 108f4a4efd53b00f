/-! WHAT A TEXT MEANS: tokens, clauses, their truth by a stack of booleans -/
-- a test; or not (none), and (some false), or (some true)
abbrev Tk : Type := (Nat × Nat × Nat) ⊕ Option Bool
abbrev tkT (w h v : Nat) : Tk := .inl (w, h, v)
abbrev tkN : Tk := .inr none
abbrev tkA : Tk := .inr (some false)
abbrev tkO : Tk := .inr (some true)
/-- a test of one number against another -/
def tst (vl : Nat → Nat) (w h v : Nat) : Bool := if h = 0 then decide (vl w < v) else if h = 1 then decide (vl w = v) else decide (v < vl w)
def run1 (vl : Nat → Nat) : Tk → List Bool → Option (List Bool)
  | .inl (w, h, v), st => some (tst vl w h v :: st)
  | .inr none, b :: st => some ((!b) :: st)
  | .inr (some false), a :: b :: st => some ((b && a) :: st)
  | .inr (some true), a :: b :: st => some ((b || a) :: st)
  | _, _ => none
def run (vl : Nat → Nat) : List Tk → List Bool → Option (List Bool)
  | [], st => some st
  | k :: r, st => (run1 vl k st).bind (run vl r)
/-- how many wait, at most 20 -/
def dep1 : Tk → Nat → Option Nat
  | .inl (w, h, v), d => if d < 20 ∧ w < 8 ∧ h < 3 ∧ v < 100 then some (d + 1) else none
  | .inr none, d + 1 => some (d + 1)
  | .inr (some false), d + 2 => some (d + 1)
  | .inr (some true), d + 2 => some (d + 1)
  | _, _ => none
def dep : List Tk → Nat → Option Nat
  | [], d => some d
  | k :: r, d => (dep1 k d).bind (dep r)
theorem run1_dep (vl : Nat → Nat) (k : Tk) (st : List Bool) (d : Nat) (h : dep1 k st.length = some d) : ∃ st', run1 vl k st = some st' ∧ st'.length = d := by
  rcases k with ⟨w, x, v⟩ | _ | _ | _
  ·
    simp only [dep1] at h
    split at h
    · cases h
      exact ⟨_, rfl, rfl⟩
    · cases h
  ·
    rcases st with _ | ⟨b, st⟩
    · cases h
    · cases h
      exact ⟨_, rfl, rfl⟩
  ·
    rcases st with _ | ⟨a, _ | ⟨b, st⟩⟩
    · cases h
    · cases h
    · cases h
      exact ⟨_, rfl, rfl⟩
  ·
    rcases st with _ | ⟨a, _ | ⟨b, st⟩⟩
    · cases h
    · cases h
    · cases h
      exact ⟨_, rfl, rfl⟩
theorem run_dep (vl : Nat → Nat) : ∀ (r : List Tk) (st : List Bool) (d : Nat), dep r st.length = some d → ∃ st', run vl r st = some st' ∧ st'.length = d := by
  intro r
  induction r with
  | nil =>
    intro st d h
    cases h
    exact ⟨st, rfl, rfl⟩
  | cons k r ih =>
    intro st d h
    obtain ⟨e, h1, h2⟩ := Option.bind_eq_some_iff.mp h
    obtain ⟨st1, g1, g2⟩ := run1_dep vl k st e h1
    subst g2
    obtain ⟨st2, g3, g4⟩ := ih st1 d h2
    exact ⟨st2, by unfold run; rw [g1]; exact g3, g4⟩
theorem dep_append : ∀ (a b : List Tk) (d : Nat), dep (a ++ b) d = (dep a d).bind (dep b) := by
  intro a
  induction a with
  | nil => intro b d; rfl
  | cons k a ih =>
    intro b d
    show (dep1 k d).bind (dep (a ++ b)) = ((dep1 k d).bind (dep a)).bind (dep b)
    cases dep1 k d with
    | none => rfl
    | some e => exact ih b e
/-- a clause: its kind, its number, its tokens -/
abbrev Cl : Type := Nat × Nat × List Tk
def evC (vl : Nat → Nat) (c : Cl) : Bool := match run vl c.2.2 [] with
  | some (b :: _) => b
  | _ => false
theorem evC_run (vl : Nat → Nat) (c : Cl) (h : dep c.2.2 0 = some 1) : run vl c.2.2 [] = some [evC vl c] := by
  obtain ⟨st, h1, h2⟩ := run_dep vl c.2.2 [] 1 h
  unfold evC
  rw [h1]
  rcases st with _ | ⟨b, _ | ⟨b2, st⟩⟩
  · cases h2
  · rfl
  · simp at h2
/-- a list lies in a row from q on -/
def At (s : Nat → Int32) : Nat → List Int32 → Prop
  | _, [] => True
  | q, a :: l => s q = a ∧ At s (q + 1) l
theorem At_append (s : Nat → Int32) : ∀ (l l' : List Int32) (q : Nat), At s q (l ++ l') ↔ At s q l ∧ At s (q + l.length) l' := by
  intro l
  induction l with
  | nil => intro l' q; simp [At]
  | cons a l ih =>
    intro l' q
    simp only [List.cons_append, At, ih, List.length_cons]
    rw [show q + 1 + l.length = q + (l.length + 1) by omega]
    exact and_assoc.symm
theorem At_cong {s s' : Nat → Int32} : ∀ (l : List Int32) (q : Nat), (∀ i, q ≤ i → i < q + l.length → s' i = s i) → At s q l → At s' q l := by
  intro l
  induction l with
  | nil => intro q _ _; trivial
  | cons a l ih =>
    intro q h g
    exact ⟨by rw [h q (Nat.le_refl q) (by simp)]; exact g.1, ih (q + 1) (fun i h1 h2 => h i (by omega) (by simp only [List.length_cons]; omega)) g.2⟩
def encS : Tk → Int32
  | .inl (w, h, v) => nI (w + 8 * h + 32 * v)
  | .inr none => -1
  | .inr (some false) => -2
  | .inr (some true) => -3
def endS (q : Nat) : Int32 := -10 - nI q
def flC (c : Cl) : List Int32 := c.2.2.map encS ++ [endS (100 * c.1 + c.2.1)]
def flat : List Cl → List Int32
  | [] => []
  | c :: r => flC c ++ flat r
def clOk (c : Cl) : Prop := c.1 < 5 ∧ c.2.1 < 100 ∧ dep c.2.2 0 = some 1
/-- a text's steps stand in s -/
def TxtS (s : Nat → Int32) (a : Nat) (l : List Cl) : Prop := s (325 + a) = nI (flat l).length ∧ (flat l).length ≤ 140 ∧ At s (335 + 140 * a) (flat l) ∧ l.length ≤ 8 ∧ ∀ c ∈ l, clOk c
/-- what a letter stands for: texts 5 and up are laws -/
def valT (s : Nat → Int32) (a t w : Nat) : Nat :=
  if w = 0 then tMan s t else if w = 1 then tDay s t else if w = 2 then tKind s t else if w = 3 then (if 5 ≤ a then tPipe s t else tExc s t) else if w = 4 then (if 5 ≤ a then befN s t t else t) else if w = 5 then tSaid s t else tNear s t
theorem befN_le (s : Nat → Int32) (hs : sOk s) (t : Nat) : ∀ k, k ≤ sN s 1 → befN s t k ≤ 100 := by
  intro k
  induction k with
  | zero => intro _; exact Nat.le_refl _
  | succ k ih =>
    intro h
    unfold befN
    split
    · have := hs.2.2.2.2.2.2 k (by omega)
      have h2 := hs.2.1
      have := this.2.2.2.2.2.2.2.2.2.2.1
      omega
    · exact ih (by omega)
theorem valT_lt {s : Nat → Int32} (hs : sOk s) (a : Nat) {t : Nat} (ht : t < sN s 1) (w : Nat) : valT s a t w < 2 ^ 20 := by
  obtain ⟨-, -, -, -, -, -, h1, h2, h3, h4, h5, h6⟩ := hs.2.2.2.2.2.2 t ht
  have hp := hs.2.1
  have hn := hs.2.2.1
  have hb := befN_le s hs t t (by omega)
  have hd : tNear s t < 100 := dist_lt (by omega) (by omega)
  unfold valT
  repeat' split
  all_goals omega
section SEM
variable {m : Nat} {o : MO} {c : MC} {B : HSt}
theorem I8 : (8 : Int32) = nI 8 := rfl
theorem X12_letter (hs : sOk o.1) {a w t : Nat} (ht : t < sN o.1 1) (ha : a < 10) (hw : w < 8) : f_X12_letter (hM m o c B) m (nI a) (nI w) (nI t) = some (nI (valT o.1 a t w), hM m o c B) := by
  have hn := hs.2.2.1
  obtain ⟨e1, e2, e3, e4, e5, e6, -⟩ := hs.2.2.2.2.2.2 t ht
  unfold f_X12_letter valT
  simp only [mR_1, ob, hM_C, if_true]
  rw [X12_nearOf hs ht, X12_before hs ht, mA_s m o c B (i := 130 + nI t) (k := 130 + t) (nI_add 130 t) (by omega), mA_s m o c B (i := 160 + nI t) (k := 160 + t) (nI_add 160 t) (by omega), mA_s m o c B (i := 190 + nI t) (k := 190 + t) (nI_add 190 t) (by omega), mA_s m o c B (i := 220 + nI t) (k := 220 + t) (nI_add 220 t) (by omega), mA_s m o c B (i := 280 + nI t) (k := 280 + t) (nI_add 280 t) (by omega), mA_s m o c B (i := 250 + nI t) (k := 250 + t) (nI_add 250 t) (by omega), e1, e2, e3, e4, e5, e6]
  simp only [ob, bd2_some]
  have q0 : ∀ k : Nat, k < 8 → ((nI w = nI k) ↔ w = k) := fun k hk => nI_eq (by omega) (by omega)
  have h5 : ((5 : Int32) ≤ nI a) ↔ 5 ≤ a := nI_leI (a := 5) (by omega) (by omega)
  rw [show (0 : Int32) = nI 0 from rfl, show (1 : Int32) = nI 1 from rfl, show (2 : Int32) = nI 2 from rfl, show (3 : Int32) = nI 3 from rfl, show (4 : Int32) = nI 4 from rfl]
  have h55 : ((5 : Int32) ≤ nI a) = (5 ≤ a) := propext h5
  have hw5 : (nI w = (5 : Int32)) = (w = 5) := propext (q0 5 (by omega))
  simp only [q0 0 (by omega), q0 1 (by omega), q0 2 (by omega), q0 3 (by omega), q0 4 (by omega), hw5, h55]
  by_cases c0 : w = 0
  · simp only [c0, if_true]
  by_cases c1 : w = 1
  · simp only [c1, if_true]
    rfl
  by_cases c2 : w = 2
  · simp only [c2]
    rfl
  by_cases c3 : w = 3
  · simp only [c3]
    by_cases c5 : 5 ≤ a
    · simp only [c5]; rfl
    · simp only [c5]; rfl
  by_cases c4 : w = 4
  · simp only [c4]
    by_cases c5 : 5 ≤ a
    · simp only [c5]; rfl
    · simp only [c5]; rfl
  by_cases c5 : w = 5
  · simp only [c5]; rfl
  simp only [if_neg c0, if_neg c1, if_neg c2, if_neg c3, if_neg c4, if_neg c5]
end SEM
