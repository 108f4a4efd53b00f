/-! HOW A TEXT IS READ: what both readers do, over the tape's bytes T, E of them -/
section SPEC
variable (T : Nat → Nat) (E : Nat) (law : Bool)
def cAt (p : Nat) : Nat := if p < E then T p else 256
def pNum (p : Nat) : Option (Nat × Nat) := if 48 ≤ cAt T E p ∧ cAt T E p ≤ 57 then (if cAt T E p ≠ 48 ∧ 48 ≤ cAt T E (p + 1) ∧ cAt T E (p + 1) ≤ 57 then some ((cAt T E p - 48) * 10 + (cAt T E (p + 1) - 48), p + 2) else some (cAt T E p - 48, p + 1)) else none
/-- read to its end, where, which tokens -/
abbrev PR : Type := Bool × Nat × List Tk
def ltI : Nat := if law then 14 else 1
def pTest (p : Nat) : PR := match idxN (ltI law) (cAt T E p) (lenN (ltI law)) 0 with
  | none => (false, p, [])
  | some w => match idxN 12 (cAt T E (p + 1)) 3 0 with
    | none => (false, p + 1, [])
    | some h => match pNum T E (p + 2) with
      | none => (false, p + 2, [])
      | some z => (true, z.2, [.inl (w, h, z.1)])
def seqL (f : Nat → PR) (ch : Nat) (tk : Tk) : Nat → PR → PR
  | 0, r => r
  | n + 1, r => if r.1 = true ∧ cAt T E r.2.1 = ch then seqL f ch tk n ((f (r.2.1 + 1)).1, (f (r.2.1 + 1)).2.1, r.2.2 ++ ((f (r.2.1 + 1)).2.2 ++ if (f (r.2.1 + 1)).1 = true then [tk] else [])) else r
def pT (f : Nat → PR) (p : Nat) : PR := seqL T E f 38 (.inr (some false)) 121 (f p)
def pE (f : Nat → PR) (p : Nat) : PR := seqL T E (pT T E f) 124 (.inr (some true)) 121 (pT T E f p)
def pF : Nat → Nat → Nat → PR
  | 0, _, p => (false, p, [])
  | g + 1, d, p => if cAt T E p = 33 then (if d < 5 then ((pF g (d + 1) (p + 1)).1, (pF g (d + 1) (p + 1)).2.1, (pF g (d + 1) (p + 1)).2.2 ++ if (pF g (d + 1) (p + 1)).1 = true then [.inr none] else []) else (false, p, []))
    else if cAt T E p = 40 then (if d < 5 then (if (pE T E (pF g (d + 1)) (p + 1)).1 = true ∧ cAt T E (pE T E (pF g (d + 1)) (p + 1)).2.1 = 41 then (true, (pE T E (pF g (d + 1)) (p + 1)).2.1 + 1, (pE T E (pF g (d + 1)) (p + 1)).2.2) else (false, (pE T E (pF g (d + 1)) (p + 1)).2.1, (pE T E (pF g (d + 1)) (p + 1)).2.2)) else (false, p, []))
    else pTest T E law p
/-- a word, from its j-th letter on -/
def pW (i : Nat) : Nat → Nat → Nat → Bool × Nat
  | 0, _, p => (true, p)
  | d + 1, j, p => if cAt T E p = chrN i j then pW i d (j + 1) (p + 1) else (false, p)
/-- what is so of what was read from p on, with N waiting at most -/
def Gd (p N : Nat) (r : PR) : Prop := p ≤ r.2.1 ∧ r.2.1 ≤ E ∧ r.2.2.length + p ≤ r.2.1 ∧ (r.1 = true → p < r.2.1 ∧ (∀ n, n ≤ N → dep r.2.2 n = some (n + 1)) ∧ ∀ k ∈ r.2.2, tkL law k)
end SPEC
section SPECF
variable {T : Nat → Nat} {E : Nat} {law : Bool}
theorem cAt_lt {p c : Nat} (h : cAt T E p = c) (hc : c < 256) : p < E := by
  unfold cAt at h
  split at h
  · assumption
  · omega
theorem idxN_lt {i c : Nat} : ∀ (d j w : Nat), idxN i c d j = some w → j ≤ w ∧ w < j + d ∧ chrN i w = c := by
  intro d
  induction d with
  | zero => intro j w h; cases h
  | succ d ih =>
    intro j w h
    unfold idxN at h
    split at h
    · rename_i h2
      cases h
      exact ⟨Nat.le_refl _, by omega, h2⟩
    · obtain ⟨h1, h2, h3⟩ := ih (j + 1) w h
      exact ⟨by omega, by omega, h3⟩
theorem pNum_ok {p : Nat} {z : Nat × Nat} (h : pNum T E p = some z) : z.1 < 100 ∧ p < z.2 ∧ z.2 ≤ E := by
  unfold pNum at h
  split at h
  · rename_i h1
    have e1 : p < E := cAt_lt (T := T) rfl (by omega)
    split at h
    · rename_i h2
      have e2 : p + 1 < E := cAt_lt (T := T) rfl (by omega)
      cases h
      refine ⟨?_, ?_, ?_⟩
      · show (cAt T E p - 48) * 10 + (cAt T E (p + 1) - 48) < 100
        omega
      · show p < p + 2
        omega
      · show p + 2 ≤ E
        omega
    · cases h
      refine ⟨?_, ?_, ?_⟩
      · show cAt T E p - 48 < 100
        omega
      · show p < p + 1
        omega
      · show p + 1 ≤ E
        omega
  · cases h
theorem lenI : lenN (ltI law) = if law then 5 else 7 := by cases law <;> rfl
theorem ltI_lt : ltI law < 15 := by cases law <;> decide
theorem pTest_Gd (p N : Nat) (hp : p ≤ E) (hN : N < 20) : Gd E law p N (pTest T E law p) := by
  unfold pTest
  split
  · exact ⟨Nat.le_refl _, hp, by simp, fun h => by cases h⟩
  · rename_i w hw
    obtain ⟨-, w1, w2⟩ := idxN_lt _ _ _ hw
    have hc : cAt T E p < 256 := by
      rw [← w2]
      have := (chr_tab (ltI law) ltI_lt w (by rw [lenI] at w1; cases law <;> simp at w1 <;> omega)).2
      omega
    have h1 : p < E := cAt_lt (T := T) rfl hc
    split
    · exact ⟨Nat.le_succ _, h1, by simp, fun h => by cases h⟩
    · rename_i h hh
      obtain ⟨-, v1, v2⟩ := idxN_lt _ _ _ hh
      have hc2 : cAt T E (p + 1) < 256 := by
        rw [← v2]
        have := (chr_tab 12 (by omega) h (by omega)).2
        omega
      have h2 : p + 1 < E := cAt_lt (T := T) rfl hc2
      split
      · exact ⟨by show p ≤ p + 2; omega, h2, by simp, fun h => by cases h⟩
      · rename_i z hz
        obtain ⟨z1, z2, z3⟩ := pNum_ok hz
        refine ⟨by show p ≤ z.2; omega, z3, by show 1 + p ≤ z.2; omega, fun _ => ⟨by show p < z.2; omega, fun n hn => ?_, fun k hk => ?_⟩⟩
        · show (dep1 (.inl (w, h, z.1)) n).bind (dep []) = _
          have : dep1 (.inl (w, h, z.1)) n = some (n + 1) := by
            show (if n < 20 ∧ w < 8 ∧ h < 3 ∧ z.1 < 100 then some (n + 1) else none) = _
            rw [lenI] at w1
            rw [if_pos ⟨by omega, by cases law <;> simp at w1 <;> omega, by omega, z1⟩]
          rw [this]
          rfl
        · have : k = .inl (w, h, z.1) := by simpa using hk
          subst this
          show w < (if law then 5 else 7)
          rw [lenI] at w1
          cases law <;> simp at w1 ⊢ <;> omega
theorem Gd_weak {p N M : Nat} {r : PR} (h : Gd E law p N r) (hM : M ≤ N) : Gd E law p M r := ⟨h.1, h.2.1, h.2.2.1, fun hr => ⟨(h.2.2.2 hr).1, fun n hn => (h.2.2.2 hr).2.1 n (by omega), (h.2.2.2 hr).2.2⟩⟩
theorem seq_Gd {f : Nat → PR} {ch : Nat} {b : Bool} {N : Nat} (hch : ch < 256) (hf : ∀ q, q ≤ E → Gd E law q (N + 1) (f q)) : ∀ (n : Nat) (r : PR) (p : Nat), Gd E law p N r → Gd E law p N (seqL T E f ch (.inr (some b)) n r) := by
  intro n
  induction n with
  | zero => intro r p h; exact h
  | succ n ih =>
    intro r p h
    unfold seqL
    split
    · rename_i hc
      have hq : r.2.1 < E := cAt_lt hc.2 hch
      obtain ⟨g1, g2, g3, g4⟩ := hf (r.2.1 + 1) hq
      obtain ⟨k1, k2, k3, k4⟩ := h
      obtain ⟨l1, l2, l3⟩ := k4 hc.1
      refine ih _ p ⟨by show p ≤ (f (r.2.1 + 1)).2.1; omega, g2, ?_, fun hr => ?_⟩
      · show (r.2.2 ++ ((f (r.2.1 + 1)).2.2 ++ if (f (r.2.1 + 1)).1 = true then [(Sum.inr (some b) : Tk)] else [])).length + p ≤ (f (r.2.1 + 1)).2.1
        rw [List.length_append, List.length_append]
        split
        · simp only [List.length_cons, List.length_nil]; omega
        · simp only [List.length_nil]; omega
      · have hr : (f (r.2.1 + 1)).1 = true := hr
        obtain ⟨j1, j2, j3⟩ := g4 hr
        refine ⟨by show p < (f (r.2.1 + 1)).2.1; omega, fun m hm => ?_, fun k hk => ?_⟩
        · show dep (r.2.2 ++ ((f (r.2.1 + 1)).2.2 ++ if (f (r.2.1 + 1)).1 = true then [(Sum.inr (some b) : Tk)] else [])) m = _
          rw [if_pos hr, dep_append, l2 m hm, ob, dep_append, j2 (m + 1) (by omega), ob]
          cases b <;> rfl
        · have hk : k ∈ r.2.2 ++ ((f (r.2.1 + 1)).2.2 ++ if (f (r.2.1 + 1)).1 = true then [(Sum.inr (some b) : Tk)] else []) := hk
          rw [if_pos hr, List.mem_append, List.mem_append] at hk
          rcases hk with hk | hk | hk
          · exact l3 k hk
          · exact j3 k hk
          · have : k = (Sum.inr (some b) : Tk) := by simpa using hk
            subst this
            trivial
    · exact h
theorem pT_Gd {f : Nat → PR} {N : Nat} (hf : ∀ q, q ≤ E → Gd E law q (N + 1) (f q)) (p : Nat) (hp : p ≤ E) : Gd E law p N (pT T E f p) := seq_Gd (by omega) hf _ _ p (Gd_weak (hf p hp) (by omega))
theorem pE_Gd {f : Nat → PR} {N : Nat} (hf : ∀ q, q ≤ E → Gd E law q (N + 2) (f q)) (p : Nat) (hp : p ≤ E) : Gd E law p N (pE T E f p) := seq_Gd (by omega) (fun q hq => pT_Gd (N := N + 1) hf q hq) _ _ p (Gd_weak (pT_Gd (N := N + 1) hf p hp) (by omega))
theorem pF_Gd : ∀ (g d p : Nat), d ≤ 5 → p ≤ E → Gd E law p (2 * d + 2) (pF T E law g d p) := by
  intro g
  induction g with
  | zero => intro d p hd hp; exact ⟨Nat.le_refl _, hp, by simp [pF], fun h => by cases h⟩
  | succ g ih =>
    intro d p hd hp
    have hbad : Gd E law p (2 * d + 2) (false, p, []) := ⟨Nat.le_refl _, hp, by simp, fun h => by cases h⟩
    unfold pF
    split
    · rename_i hc
      have h1 : p < E := cAt_lt hc (by omega)
      split
      · rename_i hd5
        obtain ⟨g1, g2, g3, g4⟩ := ih (d + 1) (p + 1) (by omega) h1
        generalize pF T E law g (d + 1) (p + 1) = r at *
        refine ⟨by show p ≤ r.2.1; omega, g2, ?_, fun hr => ?_⟩
        · show (r.2.2 ++ if r.1 = true then [(Sum.inr none : Tk)] else []).length + p ≤ r.2.1
          rw [List.length_append]
          split
          · simp only [List.length_cons, List.length_nil]; omega
          · simp only [List.length_nil]; omega
        · have hr : r.1 = true := hr
          obtain ⟨j1, j2, j3⟩ := g4 hr
          refine ⟨by show p < r.2.1; omega, fun m hm => ?_, fun k hk => ?_⟩
          · show dep (r.2.2 ++ if r.1 = true then [(Sum.inr none : Tk)] else []) m = _
            rw [if_pos hr, dep_append, j2 m (by omega), ob]
            rfl
          · have hk : k ∈ r.2.2 ++ if r.1 = true then [(Sum.inr none : Tk)] else [] := hk
            rw [if_pos hr, List.mem_append] at hk
            rcases hk with hk | hk
            · exact j3 k hk
            · have : k = (Sum.inr none : Tk) := by simpa using hk
              subst this
              trivial
      · exact hbad
    · split
      · rename_i hc
        have h1 : p < E := cAt_lt hc (by omega)
        split
        · rename_i hd5
          obtain ⟨g1, g2, g3, g4⟩ := pE_Gd (T := T) (law := law) (N := 2 * d + 2) (fun q hq => ih (d + 1) q (by omega) hq) (p + 1) h1
          generalize pE T E (pF T E law g (d + 1)) (p + 1) = r at *
          split
          · rename_i hr
            have h2 : r.2.1 < E := cAt_lt hr.2 (by omega)
            obtain ⟨j1, j2, j3⟩ := g4 hr.1
            exact ⟨by show p ≤ r.2.1 + 1; omega, h2, by show r.2.2.length + p ≤ r.2.1 + 1; omega, fun _ => ⟨by show p < r.2.1 + 1; omega, j2, j3⟩⟩
          · exact ⟨by show p ≤ r.2.1; omega, g2, by show r.2.2.length + p ≤ r.2.1; omega, fun h => by cases h⟩
        · exact hbad
      · exact pTest_Gd p (2 * d + 2) hp (by omega)
theorem pW_ok (i : Nat) (hi : i < 15) : ∀ (d j p : Nat), j + d ≤ 8 → p ≤ E → p ≤ (pW T E i d j p).2 ∧ (pW T E i d j p).2 ≤ E ∧ ((pW T E i d j p).1 = true → (pW T E i d j p).2 = p + d) := by
  intro d
  induction d with
  | zero => intro j p _ hp; exact ⟨Nat.le_refl _, hp, fun _ => rfl⟩
  | succ d ih =>
    intro j p hj hp
    unfold pW
    split
    · rename_i hc
      have h1 : p < E := cAt_lt hc (by have := (chr_tab i hi j (by omega)).2; omega)
      obtain ⟨a1, a2, a3⟩ := ih (j + 1) (p + 1) (by omega) h1
      exact ⟨by omega, a2, fun h => by rw [a3 h]; omega⟩
    · exact ⟨Nat.le_refl _, hp, fun h => by cases h⟩
end SPECF
