/-! THE HEAP AS A FUNCTION: what lies at each address that the law's objects made; the machine's heap holds it; below the law's own start nothing changes. -/
/-- a cell: an array (its kind: 0 int, 1 byte, 2 boolean, 3 long, 4 Try, 5 Text) or an object (its class's number, its fields) -/
abbrev HC : Type := (Nat × vp_A) ⊕ (Nat × List Value)
/-- the cells by their addresses, and the next free address -/
abbrev HSt : Type := (Nat → Option HC) × Nat
def hcE (kA : Nat → ClassId) (x : HC) : va_E := match x with
  | .inl a => .inl (kA a.1, a.2)
  | .inr o => .inr o
def hTy (t : Nat) : FieldType := match t with
  | 0 => .int
  | 1 => .byte
  | 2 => .boolean
  | 3 => .long
  | 4 => .object "RodDips$Try"
  | _ => .object "RodDips$Text"
def hTys (kA : Nat → ClassId) : List (ClassId × FieldType) := [(kA 0, .int), (kA 1, .byte), (kA 2, .boolean), (kA 3, .long), (kA 4, .object "RodDips$Try"), (kA 5, .object "RodDips$Text")]
theorem hTys_at (kA : Nat → ClassId) {t : Nat} (h : t < 6) : (hTys kA)[t]? = some (kA t, hTy t) := by
  rcases t with _ | _ | _ | _ | _ | _ | t
  all_goals first | rfl | omega
def hUp (S : HSt) (a : Nat) (e : HC) : HSt := (fun b => if b = a then some e else S.1 b, S.2)
def hNew (S : HSt) (e : HC) : HSt := (fun b => if b = S.2 then some e else S.1 b, S.2 + 1)
def hqH (D : va_G) (kA : Nat → ClassId) (HB : Heap) (S : HSt) (H : Heap) : Prop :=
  H.size = S.2 ∧ (∀ q : Nat, q < HB.size → H[q]? = HB[q]?) ∧ HB.size ≤ H.size ∧ ∀ (a : Nat) (e : HC), S.1 a = some e → HB.size ≤ a ∧ va_at D vwCl (a, hcE kA e) H
/-- .. and what a method has written so far lies above; the next free address only grows -/
def hqX (D : va_G) (kA : Nat → ClassId) (HB : Heap) (n0 : Nat) (S : HSt) (H : Heap) (locs : List Loc) : Prop :=
  hqH D kA HB S H ∧ n0 ≤ S.2 ∧ ∀ l ∈ locs, HB.size ≤ l.base
abbrev hFree (HB : Heap) : Nat → Prop := fun q => HB.size ≤ q
theorem hqH.one {D : va_G} {kA : Nat → ClassId} {HB : Heap} {S : HSt} {H : Heap} (h : hqH D kA HB S H) {a : Nat} {e : HC} (ha : S.1 a = some e) : va_P D vwCl [(a, hcE kA e)] H := by
  intro k q hk
  have hz : k < 1 := (List.getElem?_eq_some_iff.mp hk).1
  rw [show k = 0 by omega] at hk
  cases hk
  exact (h.2.2.2 a e ha).2
theorem hqH.up {D : va_G} {kA : Nat → ClassId} {HB : Heap} {S : HSt} {H H1 : Heap} (h : hqH D kA HB S H) {a : Nat} {e0 e : HC} (ha : S.1 a = some e0) (h1 : va_at D vwCl (a, hcE kA e) H1) (z : H1.size = H.size) (o : ∀ q, q ≠ a → H1[q]? = H[q]?) : hqH D kA HB (hUp S a e) H1 := by
  obtain ⟨g1, g2, g3, g4⟩ := h
  have hb := (g4 a e0 ha).1
  refine ⟨by rw [z]; exact g1, fun q hq => by rw [o q (by omega)]; exact g2 q hq, by omega, fun b x hx => ?_⟩
  by_cases hba : b = a
  · subst hba
    simp only [hUp, if_pos rfl] at hx
    cases hx
    exact ⟨hb, h1⟩
  · simp only [hUp, if_neg hba] at hx
    exact ⟨(g4 b x hx).1, (g4 b x hx).2.kept (o b hba)⟩
theorem hqH.new {D : va_G} {kA : Nat → ClassId} {HB : Heap} {S : HSt} {H H1 : Heap} (h : hqH D kA HB S H) {e : HC} (h1 : va_at D vwCl (H.size, hcE kA e) H1) (z : H1.size = H.size + 1) (o : ∀ q, q < H.size → H1[q]? = H[q]?) : hqH D kA HB (hNew S e) H1 := by
  obtain ⟨g1, g2, g3, g4⟩ := h
  refine ⟨by rw [z, g1]; rfl, fun q hq => by rw [o q (by omega)]; exact g2 q hq, by omega, fun b x hx => ?_⟩
  by_cases hba : b = S.2
  · subst hba
    simp only [hNew, if_pos rfl] at hx
    cases hx
    exact ⟨by omega, by rw [← g1]; exact h1⟩
  · simp only [hNew, if_neg hba] at hx
    have := (g4 b x hx).2.lt
    exact ⟨(g4 b x hx).1, (g4 b x hx).2.kept (o b this)⟩
-- reading
def gI (S : HSt) (a ci k : Nat) : Option Int32 := match S.1 a with
  | some (.inr (c, fs)) => if c = ci then (match fs[k]? with | some (.int v) => some v | _ => none) else none
  | _ => none
def gL (S : HSt) (a ci k : Nat) : Option Int64 := match S.1 a with
  | some (.inr (c, fs)) => if c = ci then (match fs[k]? with | some (.long v) => some v | _ => none) else none
  | _ => none
def gR (S : HSt) (a ci k : Nat) : Option Nat := match S.1 a with
  | some (.inr (c, fs)) => if c = ci then (match fs[k]? with | some (.ref v) => some v | _ => none) else none
  | _ => none
def gC (S : HSt) (a : Nat) : Option Nat := match S.1 a with
  | some (.inr (c, _)) => some c
  | _ => none
def hKin (c : Nat) : Bool := c == 0 || c == 1 || c == 2 || c == 3 || c == 5 || c == 9 || c == 10
def gIT (S : HSt) (a k : Nat) : Option Int32 := match S.1 a with
  | some (.inr (c, fs)) => if hKin c = true then (match fs[k]? with | some (.int v) => some v | _ => none) else none
  | _ => none
def gRT (S : HSt) (a k : Nat) : Option (Option Nat) := match S.1 a with
  | some (.inr (c, fs)) => if hKin c = true then (match fs[k]? with | some (.ref v) => some (some v) | some .null => some none | _ => none) else none
  | _ => none
def aI (S : HSt) (a t : Nat) (i : Int32) : Option Int32 := match S.1 a with
  | some (.inl (t', n, .inl f)) => if t' = t ∧ ¬ (i < 0 ∨ n ≤ i.toNatClampNeg) then some (f i.toNatClampNeg) else none
  | _ => none
def aL (S : HSt) (a : Nat) (i : Int32) : Option Int64 := match S.1 a with
  | some (.inl (t', n, .inr (.inl f))) => if t' = 3 ∧ ¬ (i < 0 ∨ n ≤ i.toNatClampNeg) then some (f i.toNatClampNeg) else none
  | _ => none
def aQ (S : HSt) (a t : Nat) (i : Int32) : Option (Option Nat) := match S.1 a with
  | some (.inl (t', n, .inr (.inr (.inr (.inr f))))) => if t' = t ∧ ¬ (i < 0 ∨ n ≤ i.toNatClampNeg) then some (f i.toNatClampNeg) else none
  | _ => none
def aN (S : HSt) (a : Nat) : Option Int32 := match S.1 a with
  | some (.inl (t', n, _)) => if t' < 6 then some (Int32.ofNat n) else none
  | _ => none
-- writing
def pV (S : HSt) (a ci k : Nat) (v : Value) : Option HSt := match S.1 a with
  | some (.inr (c, fs)) => if c = ci ∧ k < fs.length then some (hUp S a (.inr (c, fs.set k v))) else none
  | _ => none
def pVT (S : HSt) (a k : Nat) (v : Value) : Option HSt := match S.1 a with
  | some (.inr (c, fs)) => if hKin c = true ∧ k < fs.length then some (hUp S a (.inr (c, fs.set k v))) else none
  | _ => none
def sI (S : HSt) (a t : Nat) (i x : Int32) : Option HSt := match S.1 a with
  | some (.inl (t', n, .inl f)) => if t' = t ∧ ¬ (i < 0 ∨ n ≤ i.toNatClampNeg) then some (hUp S a (.inl (t', n, .inl (upd f i.toNatClampNeg x)))) else none
  | _ => none
def sL (S : HSt) (a : Nat) (i : Int32) (x : Int64) : Option HSt := match S.1 a with
  | some (.inl (t', n, .inr (.inl f))) => if t' = 3 ∧ ¬ (i < 0 ∨ n ≤ i.toNatClampNeg) then some (hUp S a (.inl (t', n, .inr (.inl (vp_updL f i.toNatClampNeg x))))) else none
  | _ => none
def sQ (S : HSt) (a t : Nat) (i : Int32) (x : Nat) : Option HSt := match S.1 a with
  | some (.inl (t', n, .inr (.inr (.inr (.inr f))))) => if t' = t ∧ ¬ (i < 0 ∨ n ≤ i.toNatClampNeg) then some (hUp S a (.inl (t', n, .inr (.inr (.inr (.inr (va_up f i.toNatClampNeg (some x)))))))) else none
  | _ => none
theorem hq_bind {α β : Type} {x : Option α} {f : α → Option β} {r : β} (h : x.bind f = some r) : ∃ v, x = some v ∧ f v = some r := by
  cases x with
  | none => cases h
  | some v => exact ⟨v, rfl, h⟩
theorem hq_t {c : Prop} [Decidable c] {β : Type} {x y : Option β} {r : β} (h : (if c then x else y) = some r) (hc : c) : x = some r := by rwa [if_pos hc] at h
theorem hq_f {c : Prop} [Decidable c] {β : Type} {x y : Option β} {r : β} (h : (if c then x else y) = some r) (hc : ¬ c) : y = some r := by rwa [if_neg hc] at h
theorem hq_g {c : Prop} [Decidable c] {β : Type} {x : Option β} {r : β} (h : (if c then x else none) = some r) : c ∧ x = some r := by
  by_cases hc : c
  · exact ⟨hc, by rwa [if_pos hc] at h⟩
  · rw [if_neg hc] at h; cases h
theorem gI_at {S : HSt} {a ci k : Nat} {v : Int32} (h : gI S a ci k = some v) : ∃ fs, S.1 a = some (.inr (ci, fs)) ∧ fs[k]? = some (.int v) := by
  unfold gI at h
  split at h
  · rename_i c fs h1
    split at h
    · rename_i hc
      subst hc
      split at h
      · rename_i w h2
        cases h
        exact ⟨fs, h1, h2⟩
      · cases h
    · cases h
  · cases h
theorem gL_at {S : HSt} {a ci k : Nat} {v : Int64} (h : gL S a ci k = some v) : ∃ fs, S.1 a = some (.inr (ci, fs)) ∧ fs[k]? = some (.long v) := by
  unfold gL at h
  split at h
  · rename_i c fs h1
    split at h
    · rename_i hc
      subst hc
      split at h
      · rename_i w h2
        cases h
        exact ⟨fs, h1, h2⟩
      · cases h
    · cases h
  · cases h
theorem gR_at {S : HSt} {a ci k v : Nat} (h : gR S a ci k = some v) : ∃ fs, S.1 a = some (.inr (ci, fs)) ∧ fs[k]? = some (.ref v) := by
  unfold gR at h
  split at h
  · rename_i c fs h1
    split at h
    · rename_i hc
      subst hc
      split at h
      · rename_i w h2
        cases h
        exact ⟨fs, h1, h2⟩
      · cases h
    · cases h
  · cases h
theorem gC_at {S : HSt} {a ci : Nat} (h : gC S a = some ci) : ∃ fs, S.1 a = some (.inr (ci, fs)) := by
  unfold gC at h
  split at h
  · rename_i c fs h1
    cases h
    exact ⟨fs, h1⟩
  · cases h
theorem gIT_at {S : HSt} {a k : Nat} {v : Int32} (h : gIT S a k = some v) : ∃ c fs, hKin c = true ∧ S.1 a = some (.inr (c, fs)) ∧ fs[k]? = some (.int v) := by
  unfold gIT at h
  split at h
  · rename_i c fs h1
    split at h
    · rename_i hc
      split at h
      · rename_i w h2
        cases h
        exact ⟨c, fs, hc, h1, h2⟩
      · cases h
    · cases h
  · cases h
theorem gRT_at {S : HSt} {a k : Nat} {v : Option Nat} (h : gRT S a k = some v) : ∃ c fs, hKin c = true ∧ S.1 a = some (.inr (c, fs)) ∧ fs[k]? = some (va_rf v) := by
  unfold gRT at h
  split at h
  · rename_i c fs h1
    split at h
    · rename_i hc
      split at h
      · rename_i w h2
        cases h
        exact ⟨c, fs, hc, h1, h2⟩
      · rename_i h2
        cases h
        exact ⟨c, fs, hc, h1, h2⟩
      · cases h
    · cases h
  · cases h
theorem pV_at {S S1 : HSt} {a ci k : Nat} {v : Value} (h : pV S a ci k v = some S1) : ∃ fs, S.1 a = some (.inr (ci, fs)) ∧ k < fs.length ∧ S1 = hUp S a (.inr (ci, fs.set k v)) := by
  unfold pV at h
  split at h
  · rename_i c fs h1
    split at h
    · rename_i hc
      obtain ⟨rfl, hk⟩ := hc
      cases h
      exact ⟨fs, h1, hk, rfl⟩
    · cases h
  · cases h
theorem pVT_at {S S1 : HSt} {a k : Nat} {v : Value} (h : pVT S a k v = some S1) : ∃ c fs, hKin c = true ∧ S.1 a = some (.inr (c, fs)) ∧ k < fs.length ∧ S1 = hUp S a (.inr (c, fs.set k v)) := by
  unfold pVT at h
  split at h
  · rename_i c fs h1
    split at h
    · rename_i hc
      cases h
      exact ⟨c, fs, hc.1, h1, hc.2, rfl⟩
    · cases h
  · cases h
theorem aI_at {S : HSt} {a t : Nat} {i v : Int32} (h : aI S a t i = some v) : ∃ n f, S.1 a = some (.inl (t, n, .inl f)) ∧ vp_in i n ∧ v = f i.toNatClampNeg := by
  unfold aI at h
  split at h
  · rename_i t' n f h1
    split at h
    · rename_i hc
      obtain ⟨rfl, hk⟩ := hc
      cases h
      exact ⟨n, f, h1, hk, rfl⟩
    · cases h
  · cases h
theorem aL_at {S : HSt} {a : Nat} {i : Int32} {v : Int64} (h : aL S a i = some v) : ∃ n f, S.1 a = some (.inl (3, n, .inr (.inl f))) ∧ vp_in i n ∧ v = f i.toNatClampNeg := by
  unfold aL at h
  split at h
  · rename_i t' n f h1
    split at h
    · rename_i hc
      obtain ⟨rfl, hk⟩ := hc
      cases h
      exact ⟨n, f, h1, hk, rfl⟩
    · cases h
  · cases h
theorem aQ_at {S : HSt} {a t : Nat} {i : Int32} {v : Option Nat} (h : aQ S a t i = some v) : ∃ n f, S.1 a = some (.inl (t, n, .inr (.inr (.inr (.inr f))))) ∧ vp_in i n ∧ v = f i.toNatClampNeg := by
  unfold aQ at h
  split at h
  · rename_i t' n f h1
    split at h
    · rename_i hc
      obtain ⟨rfl, hk⟩ := hc
      cases h
      exact ⟨n, f, h1, hk, rfl⟩
    · cases h
  · cases h
theorem aN_at {S : HSt} {a : Nat} {v : Int32} (h : aN S a = some v) : ∃ t n x, S.1 a = some (.inl (t, n, x)) ∧ t < 6 ∧ v = Int32.ofNat n := by
  unfold aN at h
  split at h
  · rename_i t' n x h1
    split at h
    · rename_i hc
      cases h
      exact ⟨t', n, x, h1, hc, rfl⟩
    · cases h
  · cases h
theorem sI_at {S S1 : HSt} {a t : Nat} {i x : Int32} (h : sI S a t i x = some S1) : ∃ n f, S.1 a = some (.inl (t, n, .inl f)) ∧ vp_in i n ∧ S1 = hUp S a (.inl (t, n, .inl (upd f i.toNatClampNeg x))) := by
  unfold sI at h
  split at h
  · rename_i t' n f h1
    split at h
    · rename_i hc
      obtain ⟨rfl, hk⟩ := hc
      cases h
      exact ⟨n, f, h1, hk, rfl⟩
    · cases h
  · cases h
theorem sL_at {S S1 : HSt} {a : Nat} {i : Int32} {x : Int64} (h : sL S a i x = some S1) : ∃ n f, S.1 a = some (.inl (3, n, .inr (.inl f))) ∧ vp_in i n ∧ S1 = hUp S a (.inl (3, n, .inr (.inl (vp_updL f i.toNatClampNeg x)))) := by
  unfold sL at h
  split at h
  · rename_i t' n f h1
    split at h
    · rename_i hc
      obtain ⟨rfl, hk⟩ := hc
      cases h
      exact ⟨n, f, h1, hk, rfl⟩
    · cases h
  · cases h
theorem sQ_at {S S1 : HSt} {a t : Nat} {i : Int32} {x : Nat} (h : sQ S a t i x = some S1) : ∃ n f, S.1 a = some (.inl (t, n, .inr (.inr (.inr (.inr f))))) ∧ vp_in i n ∧ S1 = hUp S a (.inl (t, n, .inr (.inr (.inr (.inr (va_up f i.toNatClampNeg (some x))))))) := by
  unfold sQ at h
  split at h
  · rename_i t' n f h1
    split at h
    · rename_i hc
      obtain ⟨rfl, hk⟩ := hc
      cases h
      exact ⟨n, f, h1, hk, rfl⟩
    · cases h
  · cases h
