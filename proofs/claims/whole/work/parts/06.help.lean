/-! WORDS OF THE PRINTED FUNCTIONS -/
/-- how often a loop may go round at most: far above any need -/
def FU : Nat := 100000
def bd2 {α β γ : Type} (x : Option (α × β)) (f : α → β → Option γ) : Option γ := match x with
  | none => none
  | some p => f p.1 p.2
theorem hq_bd2 {α β γ : Type} {x : Option (α × β)} {f : α → β → Option γ} {r : γ} (h : bd2 x f = some r) : ∃ a b, x = some (a, b) ∧ f a b = some r := by
  cases x with
  | none => cases h
  | some p => exact ⟨p.1, p.2, rfl, h⟩
def oC {β : Type} (r : Option Nat) (x : β) (f : Nat → β) : β := match r with
  | none => x
  | some a => f a
theorem oC_n {β : Type} {x r : β} {f : Nat → β} (h : oC none x f = r) : x = r := h
theorem oC_s {β : Type} {a : Nat} {x r : β} {f : Nat → β} (h : oC (some a) x f = r) : f a = r := h
def hqn {α β : Type} (x : α) (f : α → β) : β := f x
theorem hq_nm {α β : Type} {x y : α} {f : α → β} {r : β} (h : hqn x f = r) (e : y = x) : f y = r := by
  subst e
  exact h
theorem hq_nz {v : Int32} (h : v = 0 ∨ v = 1) : narrow .boolean (.int v) = .int v := by rcases h with rfl | rfl <;> rfl
theorem hq_fz {v : Int32} (h : v = 0 ∨ v = 1) : fits .boolean (.int v) = true := by rcases h with rfl | rfl <;> rfl
theorem hfs_4 : ∀ j, j < 3 → defaultValue (tyX4 j) = vp_V [.null, .int 0, .long 0] j := by
  intro j hj
  rcases (show j = 0 ∨ j = 1 ∨ j = 2 by omega) with rfl | rfl | rfl <;> rfl
theorem hfs_6 : ∀ j, j < 3 → defaultValue (tyX6 j) = vp_V [.null, .int 0, .int 0] j := by
  intro j hj
  rcases (show j = 0 ∨ j = 1 ∨ j = 2 by omega) with rfl | rfl | rfl <;> rfl
theorem hfs_8 : ∀ j, j < 2 → defaultValue (tyX8 j) = vp_V [.null, .int 0] j := by
  intro j hj
  rcases (show j = 0 ∨ j = 1 by omega) with rfl | rfl <;> rfl
section HQ3
variable {p : Program} {l : Launch} {e : Env} {R : Room} {s : State} {m : MethodId} {args : Array Value} {below : List Frame} {meth : Method} {c : Code} {H : Heap} {locs : List Loc} {cells slots : Nat} {Q : State → Prop}
variable {cc : ByteArray} {pc : Nat} {ls : Array Slot} {rest : List Value} {D : va_G} {kA ρ : Nat → Nat} {HB : Heap} {n0 : Nat} {S S0 S1 : HSt} {a : Nat}
theorem hq_preC (hE : hqE D kA ρ HB s) (hI : hqX D kA HB n0 S H locs) {b ci : Nat} {q : vw_C} (g : gC S b = some ci) (hc : vwCl[ci]? = some q) (As : List Value) : PreV s H q.1 b (hPc D kA ρ HB S (.ref b :: As)) As := by
  obtain ⟨fs, h⟩ := gC_at g
  exact hq_preV hE hI h hc As
theorem hq_table (hexec : p.tables.exec = Jvm.exec) (hb : c.code = cc) {dflt lo hi : Int} {offs : Array Int} {len : Nat} {x : Int32} {tgt : Nat} (hdg : decode cc pc = .ok (.tableswitch dflt lo hi offs, len))
    (ht : ((x.toInt < lo ∨ hi < x.toInt) ∧ (pc : Int) + dflt = (tgt : Int)) ∨ (¬ x.toInt < lo ∧ ¬ hi < x.toInt ∧ ∃ off : Int, offs[(x.toInt - lo).toNat]? = some off ∧ (pc : Int) + off = (tgt : Int)))
    (k : W p l e R s m args below meth c H locs cells slots Q (F0 m tgt ls rest)) : W p l e R s m args below meth c H locs cells slots Q (F0 m pc ls (.int x :: rest)) := by
  rcases ht with ⟨h1, h2⟩ | ⟨h1, h2, off, h3, h4⟩
  · exact lv_tableOut hexec hb hdg h1 h2 k
  · exact lv_tableIn hexec hb hdg h1 h2 h3 h4 k
end HQ3
