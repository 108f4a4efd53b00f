/-! THE ENVIRONMENT OF EVERY METHOD (classes, links across a nest, String constants, statics) and THE ROWS over the heap as a function. -/
theorem inG0 : ∀ w ∈ u_ws RX0 TX0 9, w ∈ lwG := by decide +kernel
theorem inG1 : ∀ w ∈ u_ws RX1 TX1 9, w ∈ lwG := by decide +kernel
theorem inG2 : ∀ w ∈ u_ws RX2 TX2 9, w ∈ lwG := by decide +kernel
theorem inG3 : ∀ w ∈ u_ws RX3 TX3 9, w ∈ lwG := by decide +kernel
theorem inG4 : ∀ w ∈ u_ws RX4 TX4 3, w ∈ lwG := by decide +kernel
theorem inG5 : ∀ w ∈ u_ws RX5 TX5 9, w ∈ lwG := by decide +kernel
theorem inG6 : ∀ w ∈ u_ws RX6 TX6 3, w ∈ lwG := by decide +kernel
theorem inG7 : ∀ w ∈ u_ws RX7 TX7 11, w ∈ lwG := by decide +kernel
theorem inG8 : ∀ w ∈ u_ws RX8 TX8 2, w ∈ lwG := by decide +kernel
theorem inG9 : ∀ w ∈ u_ws RX9 TX9 9, w ∈ lwG := by decide +kernel
theorem inG10 : ∀ w ∈ u_ws RX10 TX10 9, w ∈ lwG := by decide +kernel
theorem inG11 : ∀ w ∈ u_ws RX11 TX11 18, w ∈ lwG := by decide +kernel
theorem inG12 : ∀ w ∈ u_ws RX12 TX12 20, w ∈ lwG := by decide +kernel
theorem TXe0 : TX0 = TX9 := by
  funext k
  rcases k with _ | _ | _ | _ | _ | _ | _ | _ | k <;> rfl
theorem TXe1 : TX1 = TX9 := by
  funext k
  rcases k with _ | _ | _ | _ | _ | _ | _ | _ | k <;> rfl
theorem TXe2 : TX2 = TX9 := by
  funext k
  rcases k with _ | _ | _ | _ | _ | _ | _ | _ | k <;> rfl
theorem TXe3 : TX3 = TX9 := by
  funext k
  rcases k with _ | _ | _ | _ | _ | _ | _ | _ | k <;> rfl
theorem TXe5 : TX5 = TX9 := by
  funext k
  rcases k with _ | _ | _ | _ | _ | _ | _ | _ | k <;> rfl
theorem TXe10 : TX10 = TX9 := by
  funext k
  rcases k with _ | _ | _ | _ | _ | _ | _ | _ | k <;> rfl
theorem hKin_at {c : Nat} (h : hKin c = true) : ∃ C : String, vwCl[c]? = some (C, TX9, 9) ∧ ∀ w ∈ u_ws C TX9 9, w ∈ lwG := by
  have h7 : c = 0 ∨ c = 1 ∨ c = 2 ∨ c = 3 ∨ c = 5 ∨ c = 9 ∨ c = 10 := by
    simp only [hKin, Bool.or_eq_true, beq_iff_eq] at h
    omega
  rcases h7 with rfl | rfl | rfl | rfl | rfl | rfl | rfl
  · exact ⟨RX0, by rw [← TXe0]; rfl, by rw [← TXe0]; exact inG0⟩
  · exact ⟨RX1, by rw [← TXe1]; rfl, by rw [← TXe1]; exact inG1⟩
  · exact ⟨RX2, by rw [← TXe2]; rfl, by rw [← TXe2]; exact inG2⟩
  · exact ⟨RX3, by rw [← TXe3]; rfl, by rw [← TXe3]; exact inG3⟩
  · exact ⟨RX5, by rw [← TXe5]; rfl, by rw [← TXe5]; exact inG5⟩
  · exact ⟨RX9, rfl, inG9⟩
  · exact ⟨RX10, by rw [← TXe10]; rfl, by rw [← TXe10]; exact inG10⟩
def isNest : Cond → Bool
  | .fieldLinkNest .. | .methodLinkNest .. | .castable .. => true
  | _ => false
def lwN : List Cond := tables_1.filter isNest
theorem bn {w : Cond} (i : Nat) (h : tables_1[i]? = some w) (g : isNest w = true) : w ∈ lwN := List.mem_filter.mpr ⟨List.mem_of_getElem? h, g⟩
/-- the texts of the String constants, by their places -/
def lenST : List Nat := [5, 7, 0, 4, 5, 5, 5, 5, 3, 3, 4, 1, 3, 1, 5]
def bytST : List (List Int32) := [[112, 100, 107, 109, 108], [109, 100, 107, 120, 116, 115, 110], [], [104, 105, 116, 32], [110, 101, 97, 114, 32], [110, 101, 101, 100, 32], [116, 97, 107, 101, 32], [100, 114, 111, 112, 32], [97, 116, 32], [98, 121, 32], [111, 102, 102, 32], [32], [60, 61, 62], [41], [109, 100, 107, 112, 108]]
def nST : Nat := 15
/-- which constant of which class is which text -/
def refST : List (String × Nat × String × Nat) := [("RodDips$Text", 28, "pdkml", 0), ("RodDips$Text", 30, "mdkxtsn", 1), ("RodDips$Text", 52, "", 2), ("RodDips$Text", 54, "hit ", 3), ("RodDips$Text", 56, "near ", 4), ("RodDips$Text", 58, "need ", 5), ("RodDips$Text", 60, "take ", 6), ("RodDips$Text", 62, "drop ", 7), ("RodDips$Text", 64, "at ", 8), ("RodDips$Text", 66, "by ", 9), ("RodDips$Text", 68, "off ", 10), ("RodDips$Tape", 76, " ", 11), ("RodDips$Tape", 112, "<=>", 12), ("RodDips$Tape", 102, ")", 13), ("RodDipsModel", 124, "hit ", 3), ("RodDipsModel", 130, "need ", 5), ("RodDipsModel", 132, "take ", 6), ("RodDipsModel", 104, "mdkxtsn", 1), ("RodDipsModel", 106, "mdkpl", 14), ("RodDipsModel", 112, "<=>", 12), ("RodDipsModel", 137, "drop ", 7), ("RodDipsModel", 139, "at ", 8), ("RodDipsModel", 144, "by ", 9), ("RodDipsModel", 146, "off ", 10), ("RodDipsModel", 148, "near ", 4)]

/-- ρ: the Strings' addresses by their places, from 100 on their byte arrays', at 200 the table of kinds -/
def hqT (ρ : Nat → Nat) (HB : Heap) (U : State) : Prop :=
  vk_S nST lenST bytST ρ (fun i => ρ (100 + i)) (hFree HB) U HB ∧ (∀ q ∈ refST, vk_R q.1 q.2.1 q.2.2.1 (ρ q.2.2.2) U) ∧ va_Z "java/lang/String" "COMPACT_STRINGS" "Z" (.int 1) (hFree HB) U HB ∧ va_Zq "jdk/internal/util/Preconditions" "SIOOBE_FORMATTER" "Ljava/util/function/BiFunction;" (hFree HB) U HB ∧
  va_Z "RodDips" "KIND_ABOVE" "[I" (.ref (ρ 200)) (hFree HB) U HB ∧ va_T .int (ρ 200) 7 (fun j => .int (([-1, 0, 0, 0, 2, 2, 3] : List Int32).getD j 0)) (hFree HB) U HB
def hqE (D : va_G) (kA ρ : Nat → Nat) (HB : Heap) (U : State) : Prop :=
  va_K D vwCl (hTys kA) U ∧ (∀ w ∈ lwN, va_Nw w U) ∧ va_AO "RodDips$Try" U ∧ va_AO "RodDips$Text" U ∧ hqT ρ HB U
theorem lwN_warm {w : Cond} (hw : w ∈ lwN) {s U : State} (hW : s.WarmedH U.vm) (h : va_Nw w s) : va_Nw w U := by
  have h1 := (List.mem_filter.mp hw).2
  cases w <;> first | (simp [isNest] at h1; done) | exact va_Nw.warmF hW h | exact va_Nw.warmM hW h | exact va_Nw.warmC hW h
theorem hqT.warm {ρ : Nat → Nat} {HB : Heap} {s U : State} (hW : s.WarmedH U.vm) (h : hqT ρ HB s) : hqT ρ HB U :=
  ⟨h.1.moved hW.alike, fun q hq => (h.2.1 q hq).warm hW, h.2.2.1.moved hW.alike, h.2.2.2.1.moved hW.alike, h.2.2.2.2.1.moved hW.alike, h.2.2.2.2.2.moved hW.alike⟩
theorem hqE.warm {D : va_G} {kA ρ : Nat → Nat} {HB : Heap} {s U : State} (hW : s.WarmedH U.vm) (h : hqE D kA ρ HB s) : hqE D kA ρ HB U :=
  ⟨va_K.moved hW.alike h.1, fun w hw => lwN_warm hw hW (h.2.1 w hw), va_AO.moved hW.alike h.2.2.1, va_AO.moved hW.alike h.2.2.2.1, h.2.2.2.2.warm hW⟩
theorem lwN_same {w : Cond} (hw : w ∈ lwN) {s U : State} (hv : s.vm = U.vm) (h : va_Nw w s) : va_Nw w U := by
  have h1 := (List.mem_filter.mp hw).2
  cases w <;> first | (simp [isNest] at h1; done) | exact va_Nw.same rfl hv h
theorem hqE.same {D : va_G} {kA ρ : Nat → Nat} {HB : Heap} {s U : State} (hv : s.vm = U.vm) (hal : s.vm.Alike U.vm) (h : hqE D kA ρ HB s) : hqE D kA ρ HB U :=
  ⟨va_K.moved hal h.1, fun w hw => lwN_same hw hv (h.2.1 w hw), va_AO.moved hal h.2.2.1, va_AO.moved hal h.2.2.2.1, h.2.2.2.2.1.moved hal, fun q hq => (h.2.2.2.2.2.1 q hq).same hv.symm, h.2.2.2.2.2.2.1.moved hal, h.2.2.2.2.2.2.2.1.moved hal, h.2.2.2.2.2.2.2.2.1.moved hal, h.2.2.2.2.2.2.2.2.2.moved hal⟩
/-- a method's start -/
def hPc (D : va_G) (kA ρ : Nat → Nat) (HB : Heap) (S : HSt) (av : List Value) : Array Value → State → Prop := va_Pc av (fun U => hqE D kA ρ HB U ∧ hqH D kA HB S U.heap)
theorem hPc.blind {D : va_G} {kA ρ : Nat → Nat} {HB : Heap} {S : HSt} {av : List Value} : FrameBlind (hPc D kA ρ HB S av) := by
  intro a U g mk q
  exact ⟨q.1, q.2.1.same (s := U) (U := U.calling g mk a) rfl (Vm.Alike.refl U.vm), q.2.2⟩
/-- a method's ends -/
def hBq (D : va_G) (kA : Nat → Nat) (HB : Heap) (S : HSt) (S' : HSt) (t : State) : Prop := hqH D kA HB S' t.heap ∧ S.2 ≤ S'.2
abbrev hQi (D : va_G) (kA : Nat → Nat) (HB : Heap) (S : HSt) (res : Int32 × HSt) := va_Qi (fun (r : Int32) (S' : HSt) => r = res.1 ∧ S' = res.2) (hBq D kA HB S) (hFree HB)
abbrev hQl (D : va_G) (kA : Nat → Nat) (HB : Heap) (S : HSt) (res : Int64 × HSt) := va_Ql (fun (r : Int64) (S' : HSt) => r = res.1 ∧ S' = res.2) (hBq D kA HB S) (hFree HB)
abbrev hQv (D : va_G) (kA : Nat → Nat) (HB : Heap) (S : HSt) (res : HSt) := va_Qv (fun (S' : HSt) => S' = res) (hBq D kA HB S) (hFree HB)
abbrev hQq (D : va_G) (kA : Nat → Nat) (HB : Heap) (S : HSt) (res : Option Nat × HSt) := va_Qq (fun (r : Option Nat) (S' : HSt) => r = res.1 ∧ S' = res.2) (hBq D kA HB S) (hFree HB)
theorem hqX.F {D : va_G} {kA : Nat → Nat} {HB : Heap} {S0 S : HSt} {st t : State} {H : Heap} {locs : List Loc} (h0 : hqH D kA HB S0 st.heap) (hI : hqX D kA HB S0.2 S H locs) (ht : t.heap = H) : va_F (hFree HB) st t := by
  obtain ⟨⟨g1, g2, g3, g4⟩, gn, gl⟩ := hI
  refine ⟨by rw [ht, g1, h0.1]; exact gn, fun q _ h2 => ?_⟩
  have hq : q < HB.size := Nat.lt_of_not_le h2
  rw [ht, g2 q hq, h0.2.1 q hq]
theorem hqX.S {D : va_G} {kA : Nat → Nat} {HB : Heap} {S0 S : HSt} {H0 H : Heap} {locs : List Loc} (h0 : hqH D kA HB S0 H0) (hI : hqX D kA HB S0.2 S H locs) : va_S (hFree HB) H0 H locs := by
  obtain ⟨⟨g1, g2, g3, g4⟩, gn, gl⟩ := hI
  refine ⟨by rw [g1, h0.1]; exact gn, fun q _ h2 => ?_, gl⟩
  have hq : q < HB.size := Nat.lt_of_not_le h2
  rw [g2 q hq, h0.2.1 q hq]
theorem hFree.kept {D : va_G} {kA : Nat → Nat} {HB : Heap} {S : HSt} {H : Heap} (h : hqH D kA HB S H) : ∀ a : Nat, a < HB.size → ¬ hFree HB a → H[a]? = HB[a]? := fun a ha _ => h.2.1 a ha
section HQ
variable {p : Program} {l : Launch} {e : Env} {R : Room} {s : State} {m : MethodId} {args : Array Value} {below : List Frame} {meth : Method} {c : Code} {H : Heap} {locs : List Loc} {cells slots : Nat} {Q : State → Prop}
variable {cc : ByteArray} {pc : Nat} {ls : Array Slot} {rest : List Value} {D : va_G} {kA ρ : Nat → Nat} {HB : Heap} {n0 : Nat} {S S1 : HSt} {a : Nat}
theorem hq_get (hexec : p.tables.exec = Jvm.exec) (hb : c.code = cc) {own C : String} {T : u_T} {N ci index : Nat} (hts : ∀ w ∈ lwG, w.before args s = true) (hown : s.vm.findClass own = some m.cls) (hE : hqE D kA ρ HB s) (hI : hqX D kA HB n0 S H locs) {fs : List Value} (he : S.1 a = some (.inr (ci, fs))) (hin : ∀ w ∈ u_ws C T N, w ∈ lwG) (hc : vwCl[ci]? = some (C, T, N)) (k : Nat) (hk : k < N) (hlink : Cond.fieldLink own index (T k).1 (T k).2.1 (T k).2.2.1 ∈ lwG) {v : Value} (hv : fs[k]? = some v) (hdg : decode cc pc = .ok (.getfield index, 3))
    (kk : W p l e R s m args below meth c H locs cells slots Q (F0 m (pc + 3) ls (v :: rest))) : W p l e R s m args below meth c H locs cells slots Q (F0 m pc ls (.ref a :: rest)) :=
  va_get hexec hb hts hin hown hE.1 (hI.1.one he) 0 rfl hc k hk (hts _ hlink) (fun _ h9 => h9) hv hdg kk
theorem hq_getN (hexec : p.tables.exec = Jvm.exec) (hb : c.code = cc) {own C host : String} {T : u_T} {N ci index : Nat} (hts : ∀ w ∈ lwG, w.before args s = true) (hown : s.vm.findClass own = some m.cls) (hE : hqE D kA ρ HB s) (hI : hqX D kA HB n0 S H locs) {fs : List Value} (he : S.1 a = some (.inr (ci, fs))) (hin : ∀ w ∈ u_ws C T N, w ∈ lwG) (hc : vwCl[ci]? = some (C, T, N)) (k : Nat) (hk : k < N) (hlink : Cond.fieldLinkNest own index (T k).1 (T k).2.1 (T k).2.2.1 host ∈ lwN) {v : Value} (hv : fs[k]? = some v) (hdg : decode cc pc = .ok (.getfield index, 3))
    (kk : W p l e R s m args below meth c H locs cells slots Q (F0 m (pc + 3) ls (v :: rest))) : W p l e R s m args below meth c H locs cells slots Q (F0 m pc ls (.ref a :: rest)) :=
  va_getN hexec hb hts hin hown hE.1 (hI.1.one he) 0 rfl hc k hk (va_Nw.use rfl (hE.2.1 _ hlink)) (fun _ h9 => h9) hv hdg kk
theorem hqX.up (hI : hqX D kA HB n0 S H locs) {e0 e1 : HC} {H1 : Heap} {x : Loc} (ha : S.1 a = some e0) (h1 : va_at D vwCl (a, hcE kA e1) H1) (z : H1.size = H.size) (o : ∀ q, q ≠ a → H1[q]? = H[q]?) (hx : x.base = a) : hqX D kA HB n0 (hUp S a e1) H1 (locs ++ [x]) := by
  refine ⟨hI.1.up ha h1 z o, hI.2.1, fun y hy => ?_⟩
  rcases List.mem_append.mp hy with q | q
  · exact hI.2.2 y q
  · rw [List.mem_singleton.mp q, hx]
    exact (hI.1.2.2.2 a e0 ha).1
theorem hq_put (hexec : p.tables.exec = Jvm.exec) (hb : c.code = cc) {own C : String} {T : u_T} {N ci index : Nat} (hts : ∀ w ∈ lwG, w.before args s = true) (hown : s.vm.findClass own = some m.cls) (hE : hqE D kA ρ HB s) (hI : hqX D kA HB n0 S H locs) {fs : List Value} (he : S.1 a = some (.inr (ci, fs))) (hin : ∀ w ∈ u_ws C T N, w ∈ lwG) (ty0 : Nat → FieldType) (hty : ∀ k, k < N → parseFieldDescriptor (T k).2.2.1 = some (ty0 k)) (hnm : ∀ a, a < N → ∀ b, b < N → a ≠ b → (T a).2.1 ≠ (T b).2.1) (hc : vwCl[ci]? = some (C, T, N)) (k : Nat) (hk : k < N) (hlink : Cond.fieldLink own index (T k).1 (T k).2.1 (T k).2.2.1 ∈ lwG) (hfin : (T k).2.2.2 = false) {ty : FieldType} {v : Value} (hd : ty0 k = ty) (hn : narrow ty v = v) (hfit : fits ty v = true) (hl : k < fs.length) (hS1 : S1 = hUp S a (.inr (ci, fs.set k v)))
    (hdg : decode cc pc = .ok (.putfield index, 3)) (kk : ∀ (H1 : Heap) (locs1 : List Loc), hqX D kA HB n0 S1 H1 locs1 → W p l e R s m args below meth c H1 locs1 cells slots Q (F0 m (pc + 3) ls rest)) : W p l e R s m args below meth c H locs cells slots Q (F0 m pc ls (v :: .ref a :: rest)) := by
  subst hd
  have hap := va_apart (own := own) hts hin ty0 hty hnm hE.1 hc
  obtain ⟨r, h1, cell, q1, q2, q3, q4⟩ := (hI.1.2.2.2 a _ he).2
  have hr : r = (C, T, N) := Option.some.inj (h1.symm.trans hc)
  subst hr
  obtain ⟨hS, hfc, kC, hkC, hkind⟩ := hE.1.1 ci _ hc
  obtain ⟨cf, kf, fi, f, hi, hsl⟩ := hS k hk
  have hlay := hts _ (hin _ (u_in_lay hk))
  unfold u_lay at hlay
  rw [if_neg (by rw [hfin]; decide)] at hlay
  have hst := (u_facts hfc hkC (u_lays hts hin hk) hi).1
  have h6 := u_store hfc hkC hkind hlay hi (hty k hk) hn hfit
  refine W.putK hexec hb (f := f) ⟨hown, hts _ hlink, ⟨_, _, _, hi⟩, hst⟩ (by rw [q2]; exact h6) q1 q3 (by rw [hsl]; exact k2_hasslot (q4 k hk)) rfl rfl hdg fun H' e1 e2 e3 => ?_
  rw [hsl] at e1 ⊢
  subst hS1
  exact kk H' _ (hI.up he ⟨_, hc, t_OB.to (V := updV (vp_V fs) k v) ⟨_, e1, q2, q3, t_set q4 hap hk v⟩ (fun j _ => vp_updV_set hl v j)⟩ e2 e3 rfl)
theorem hq_putN (hexec : p.tables.exec = Jvm.exec) (hb : c.code = cc) {own C host : String} {T : u_T} {N ci index : Nat} (hts : ∀ w ∈ lwG, w.before args s = true) (hown : s.vm.findClass own = some m.cls) (hE : hqE D kA ρ HB s) (hI : hqX D kA HB n0 S H locs) {fs : List Value} (he : S.1 a = some (.inr (ci, fs))) (hin : ∀ w ∈ u_ws C T N, w ∈ lwG) (ty0 : Nat → FieldType) (hty : ∀ k, k < N → parseFieldDescriptor (T k).2.2.1 = some (ty0 k)) (hnm : ∀ a, a < N → ∀ b, b < N → a ≠ b → (T a).2.1 ≠ (T b).2.1) (hc : vwCl[ci]? = some (C, T, N)) (k : Nat) (hk : k < N) (hlink : Cond.fieldLinkNest own index (T k).1 (T k).2.1 (T k).2.2.1 host ∈ lwN) (hfin : (T k).2.2.2 = false) {ty : FieldType} {v : Value} (hd : ty0 k = ty) (hn : narrow ty v = v) (hfit : fits ty v = true) (hl : k < fs.length) (hS1 : S1 = hUp S a (.inr (ci, fs.set k v)))
    (hdg : decode cc pc = .ok (.putfield index, 3)) (kk : ∀ (H1 : Heap) (locs1 : List Loc), hqX D kA HB n0 S1 H1 locs1 → W p l e R s m args below meth c H1 locs1 cells slots Q (F0 m (pc + 3) ls rest)) : W p l e R s m args below meth c H locs cells slots Q (F0 m pc ls (v :: .ref a :: rest)) := by
  subst hd
  have hap := va_apart (own := own) hts hin ty0 hty hnm hE.1 hc
  obtain ⟨r, h1, cell, q1, q2, q3, q4⟩ := (hI.1.2.2.2 a _ he).2
  have hr : r = (C, T, N) := Option.some.inj (h1.symm.trans hc)
  subst hr
  obtain ⟨hS, hfc, kC, hkC, hkind⟩ := hE.1.1 ci _ hc
  obtain ⟨cf, kf, fi, f, hi, hsl⟩ := hS k hk
  have hlay := hts _ (hin _ (u_in_lay hk))
  unfold u_lay at hlay
  rw [if_neg (by rw [hfin]; decide)] at hlay
  have hst := (u_facts hfc hkC (u_lays hts hin hk) hi).1
  have h6 := u_store hfc hkC hkind hlay hi (hty k hk) hn hfit
  refine va_WputK hexec hb (f := f) hown (va_Nw.use rfl (hE.2.1 _ hlink)) hi hst (by rw [q2]; exact h6) q1 q3 (by rw [hsl]; exact k2_hasslot (q4 k hk)) rfl rfl hdg fun H' e1 e2 e3 => ?_
  rw [hsl] at e1 ⊢
  subst hS1
  exact kk H' _ (hI.up he ⟨_, hc, t_OB.to (V := updV (vp_V fs) k v) ⟨_, e1, q2, q3, t_set q4 hap hk v⟩ (fun j _ => vp_updV_set hl v j)⟩ e2 e3 rfl)
theorem hq_putF (hexec : p.tables.exec = Jvm.exec) (hb : c.code = cc) {own C : String} {T : u_T} {N ci index : Nat} (hts : ∀ w ∈ lwG, w.before args s = true) (hown : s.vm.findClass own = some m.cls) (hE : hqE D kA ρ HB s) (hI : hqX D kA HB n0 S H locs) {fs : List Value} (he : S.1 a = some (.inr (ci, fs))) (hin : ∀ w ∈ u_ws C T N, w ∈ lwG) (ty0 : Nat → FieldType) (hty : ∀ k, k < N → parseFieldDescriptor (T k).2.2.1 = some (ty0 k)) (hnm : ∀ a, a < N → ∀ b, b < N → a ≠ b → (T a).2.1 ≠ (T b).2.1) (hc : vwCl[ci]? = some (C, T, N)) (k : Nat) (hk : k < N) (hlink : Cond.fieldLink own index (T k).1 (T k).2.1 (T k).2.2.1 ∈ lwG) (hfin : (T k).2.2.2 = true) (hin2 : meth.name = "<init>") (hdecl : (T k).1 = own) {ty : FieldType} {v : Value} (hd : ty0 k = ty) (hn : narrow ty v = v) (hfit : fits ty v = true) (hl : k < fs.length) (hS1 : S1 = hUp S a (.inr (ci, fs.set k v)))
    (hdg : decode cc pc = .ok (.putfield index, 3)) (kk : ∀ (H1 : Heap) (locs1 : List Loc), hqX D kA HB n0 S1 H1 locs1 → W p l e R s m args below meth c H1 locs1 cells slots Q (F0 m (pc + 3) ls rest)) : W p l e R s m args below meth c H locs cells slots Q (F0 m pc ls (v :: .ref a :: rest)) := by
  subst hd
  have hap := va_apart (own := own) hts hin ty0 hty hnm hE.1 hc
  obtain ⟨r, h1, cell, q1, q2, q3, q4⟩ := (hI.1.2.2.2 a _ he).2
  have hr : r = (C, T, N) := Option.some.inj (h1.symm.trans hc)
  subst hr
  obtain ⟨hS, hfc, kC, hkC, hkind⟩ := hE.1.1 ci _ hc
  obtain ⟨cf, kf, fi, f, hi, hsl⟩ := hS k hk
  have hlay := hts _ (hin _ (u_in_lay hk))
  unfold u_lay at hlay
  rw [if_pos hfin] at hlay
  have hst := (u_facts hfc hkC (u_lays hts hin hk) hi).1
  have hcf : m.cls = cf := by
    obtain ⟨_, _, c', _, _, _, -, -, hf', -, -, -, hown2, -⟩ := Cond.laysFinal_spec hlay
    have e1 : c' = cf := by
      have h9 := hi.symm.trans hf'
      simp at h9
      exact h9.1.symm
    rw [hdecl] at hown2
    rw [← e1]
    exact Option.some.inj (hown.symm.trans hown2)
  have h6 := u_fits hfc hkC hkind (Or.inr hlay) hi (hty k hk) hn hfit
  refine W.putFinK hexec hb hown (hts _ hlink) hi hst hcf hin2 (by rw [q2]; exact h6) q1 q3 (by rw [hsl]; exact k2_hasslot (q4 k hk)) rfl rfl hdg fun H' e1 e2 e3 => ?_
  rw [hsl] at e1 ⊢
  subst hS1
  exact kk H' _ (hI.up he ⟨_, hc, t_OB.to (V := updV (vp_V fs) k v) ⟨_, e1, q2, q3, t_set q4 hap hk v⟩ (fun j _ => vp_updV_set hl v j)⟩ e2 e3 rfl)
-- arrays
theorem hq_iald (hexec : p.tables.exec = Jvm.exec) (hb : c.code = cc) (hE : hqE D kA ρ HB s) (hI : hqX D kA HB n0 S H locs) {i v : Int32} (g : aI S a 0 i = some v) (hdg : decode cc pc = .ok (.iaload, 1))
    (kk : W p l e R s m args below meth c H locs cells slots Q (F0 m (pc + 1) ls (.int v :: rest))) : W p l e R s m args below meth c H locs cells slots Q (F0 m pc ls (.int i :: .ref a :: rest)) := by
  obtain ⟨n, f, h1, h2, rfl⟩ := aI_at g
  exact va_iald hexec hb hE.1 (hI.1.one h1) 0 0 rfl rfl h2 hdg kk
theorem hq_bald (hexec : p.tables.exec = Jvm.exec) (hb : c.code = cc) (hE : hqE D kA ρ HB s) (hI : hqX D kA HB n0 S H locs) {i v : Int32} (g : aI S a 1 i = some v) (hdg : decode cc pc = .ok (.baload, 1))
    (kk : W p l e R s m args below meth c H locs cells slots Q (F0 m (pc + 1) ls (.int v :: rest))) : W p l e R s m args below meth c H locs cells slots Q (F0 m pc ls (.int i :: .ref a :: rest)) := by
  obtain ⟨n, f, h1, h2, rfl⟩ := aI_at g
  exact va_bald hexec hb hE.1 (hI.1.one h1) 0 1 rfl rfl h2 hdg kk
theorem hq_zald (hexec : p.tables.exec = Jvm.exec) (hb : c.code = cc) (hE : hqE D kA ρ HB s) (hI : hqX D kA HB n0 S H locs) {i v : Int32} (g : aI S a 2 i = some v) (hdg : decode cc pc = .ok (.baload, 1))
    (kk : W p l e R s m args below meth c H locs cells slots Q (F0 m (pc + 1) ls (.int v :: rest))) : W p l e R s m args below meth c H locs cells slots Q (F0 m pc ls (.int i :: .ref a :: rest)) := by
  obtain ⟨n, f, h1, h2, rfl⟩ := aI_at g
  exact va_zald hexec hb hE.1 (hI.1.one h1) 0 2 rfl rfl h2 hdg kk
theorem hq_lald (hexec : p.tables.exec = Jvm.exec) (hb : c.code = cc) (hE : hqE D kA ρ HB s) (hI : hqX D kA HB n0 S H locs) {i : Int32} {v : Int64} (g : aL S a i = some v) (hdg : decode cc pc = .ok (.laload, 1))
    (kk : W p l e R s m args below meth c H locs cells slots Q (F0 m (pc + 1) ls (.long v :: rest))) : W p l e R s m args below meth c H locs cells slots Q (F0 m pc ls (.int i :: .ref a :: rest)) := by
  obtain ⟨n, f, h1, h2, rfl⟩ := aL_at g
  exact va_lald hexec hb hE.1 (hI.1.one h1) 0 3 rfl rfl h2 hdg kk
theorem hq_aald4 (hexec : p.tables.exec = Jvm.exec) (hb : c.code = cc) (hE : hqE D kA ρ HB s) (hI : hqX D kA HB n0 S H locs) {i : Int32} {v : Option Nat} (g : aQ S a 4 i = some v) (hdg : decode cc pc = .ok (.aaload, 1))
    (kk : W p l e R s m args below meth c H locs cells slots Q (F0 m (pc + 1) ls (va_rf v :: rest))) : W p l e R s m args below meth c H locs cells slots Q (F0 m pc ls (.int i :: .ref a :: rest)) := by
  obtain ⟨n, f, h1, h2, rfl⟩ := aQ_at g
  exact va_aldq hexec hb hE.1 (hI.1.one h1) 0 4 rfl rfl h2 hdg kk
theorem hq_aald5 (hexec : p.tables.exec = Jvm.exec) (hb : c.code = cc) (hE : hqE D kA ρ HB s) (hI : hqX D kA HB n0 S H locs) {i : Int32} {v : Option Nat} (g : aQ S a 5 i = some v) (hdg : decode cc pc = .ok (.aaload, 1))
    (kk : W p l e R s m args below meth c H locs cells slots Q (F0 m (pc + 1) ls (va_rf v :: rest))) : W p l e R s m args below meth c H locs cells slots Q (F0 m pc ls (.int i :: .ref a :: rest)) := by
  obtain ⟨n, f, h1, h2, rfl⟩ := aQ_at g
  exact va_aldq hexec hb hE.1 (hI.1.one h1) 0 5 rfl rfl h2 hdg kk
theorem hq_alen (hexec : p.tables.exec = Jvm.exec) (hb : c.code = cc) (hE : hqE D kA ρ HB s) (hI : hqX D kA HB n0 S H locs) {v : Int32} (g : aN S a = some v) (hdg : decode cc pc = .ok (.arraylength, 1))
    (kk : W p l e R s m args below meth c H locs cells slots Q (F0 m (pc + 1) ls (.int v :: rest))) : W p l e R s m args below meth c H locs cells slots Q (F0 m pc ls (.ref a :: rest)) := by
  obtain ⟨t, n, x, h1, h2, rfl⟩ := aN_at g
  exact va_alen hexec hb hE.1 (hI.1.one h1) 0 t rfl (hTys_at kA h2) rfl hdg kk
theorem hq_iast (hexec : p.tables.exec = Jvm.exec) (hb : c.code = cc) (hE : hqE D kA ρ HB s) (hI : hqX D kA HB n0 S H locs) {i x : Int32} (g : sI S a 0 i x = some S1) (hdg : decode cc pc = .ok (.iastore, 1))
    (kk : ∀ (H1 : Heap) (locs1 : List Loc), hqX D kA HB n0 S1 H1 locs1 → W p l e R s m args below meth c H1 locs1 cells slots Q (F0 m (pc + 1) ls rest)) : W p l e R s m args below meth c H locs cells slots Q (F0 m pc ls (.int x :: .int i :: .ref a :: rest)) := by
  obtain ⟨n, f, h1, h2, rfl⟩ := sI_at g
  refine W.iast hexec hb (hI.1.2.2.2 a _ h1).2 ((hE.1.2 0 _ rfl).1 n (fun j => .int (f j))) (fun q => by cases q) (by show ¬ (i < 0 ∨ (arrV _ _ _).slots.size ≤ _); rw [arrV_size]; exact h2) rfl rfl hdg fun H1 e1 z oq => ?_
  refine kk H1 _ (hI.up h1 ?_ z oq rfl)
  show H1[a]? = some (vp_cell (kA 0) (n, .inl (upd f i.toNatClampNeg x)))
  rw [e1]
  show some ((vp_cell (kA 0) (n, .inl f)).setSlot _ _) = _
  rw [vp_cell_i, vp_cell_i, arrV_store]
  congr 2
  funext q
  by_cases hq : q = i.toNatClampNeg
  · subst hq
    simp [updV, upd]
  · simp [updV, upd, hq]
theorem hq_bast (hexec : p.tables.exec = Jvm.exec) (hb : c.code = cc) (hE : hqE D kA ρ HB s) (hI : hqX D kA HB n0 S H locs) {i x : Int32} (g : sI S a 1 i x.toInt8.toInt32 = some S1) (hdg : decode cc pc = .ok (.bastore, 1))
    (kk : ∀ (H1 : Heap) (locs1 : List Loc), hqX D kA HB n0 S1 H1 locs1 → W p l e R s m args below meth c H1 locs1 cells slots Q (F0 m (pc + 1) ls rest)) : W p l e R s m args below meth c H locs cells slots Q (F0 m pc ls (.int x :: .int i :: .ref a :: rest)) := by
  obtain ⟨n, f, h1, h2, rfl⟩ := sI_at g
  refine W.bast hexec hb (hI.1.2.2.2 a _ h1).2 ((hE.1.2 1 _ rfl).1 n (fun j => .int (f j))) (fun q => by cases q) (by show ¬ (i < 0 ∨ (arrV _ _ _).slots.size ≤ _); rw [arrV_size]; exact h2) rfl rfl hdg fun H1 e1 z oq => ?_
  refine kk H1 _ (hI.up h1 ?_ z oq rfl)
  show H1[a]? = some (vp_cell (kA 1) (n, .inl (upd f i.toNatClampNeg x.toInt8.toInt32)))
  rw [e1]
  show some ((vp_cell (kA 1) (n, .inl f)).setSlot _ _) = _
  rw [vp_cell_i, vp_cell_i, arrV_store]
  congr 2
  funext q
  by_cases hq : q = i.toNatClampNeg
  · subst hq
    simp [updV, upd, narrow]
  · simp [updV, upd, hq]
theorem hq_zast (hexec : p.tables.exec = Jvm.exec) (hb : c.code = cc) (hE : hqE D kA ρ HB s) (hI : hqX D kA HB n0 S H locs) {i x : Int32} (hx : x = 0 ∨ x = 1) (g : sI S a 2 i x = some S1) (hdg : decode cc pc = .ok (.bastore, 1))
    (kk : ∀ (H1 : Heap) (locs1 : List Loc), hqX D kA HB n0 S1 H1 locs1 → W p l e R s m args below meth c H1 locs1 cells slots Q (F0 m (pc + 1) ls rest)) : W p l e R s m args below meth c H locs cells slots Q (F0 m pc ls (.int x :: .int i :: .ref a :: rest)) := by
  obtain ⟨n, f, h1, h2, rfl⟩ := sI_at g
  refine W.zast hexec hb (hI.1.2.2.2 a _ h1).2 ((hE.1.2 2 _ rfl).1 n (fun j => .int (f j))) (fun q => by cases q) (by show ¬ (i < 0 ∨ (arrV _ _ _).slots.size ≤ _); rw [arrV_size]; exact h2) rfl rfl hdg fun H1 e1 z oq => ?_
  refine kk H1 _ (hI.up h1 ?_ z oq rfl)
  show H1[a]? = some (vp_cell (kA 2) (n, .inl (upd f i.toNatClampNeg x)))
  rw [e1]
  show some ((vp_cell (kA 2) (n, .inl f)).setSlot _ _) = _
  rw [vp_cell_i, vp_cell_i, arrV_store]
  congr 2
  funext q
  by_cases hq : q = i.toNatClampNeg
  · subst hq
    rcases hx with rfl | rfl <;> simp [updV, upd, narrow]
  · simp [updV, upd, hq]
theorem hq_last (hexec : p.tables.exec = Jvm.exec) (hb : c.code = cc) (hE : hqE D kA ρ HB s) (hI : hqX D kA HB n0 S H locs) {i : Int32} {x : Int64} (g : sL S a i x = some S1) (hdg : decode cc pc = .ok (.lastore, 1))
    (kk : ∀ (H1 : Heap) (locs1 : List Loc), hqX D kA HB n0 S1 H1 locs1 → W p l e R s m args below meth c H1 locs1 cells slots Q (F0 m (pc + 1) ls rest)) : W p l e R s m args below meth c H locs cells slots Q (F0 m pc ls (.long x :: .int i :: .ref a :: rest)) := by
  obtain ⟨n, f, h1, h2, rfl⟩ := sL_at g
  refine W.last hexec hb (hI.1.2.2.2 a _ h1).2 ((hE.1.2 3 _ rfl).1 n (fun j => .long (f j))) (fun q => by cases q) (by show ¬ (i < 0 ∨ (arrV _ _ _).slots.size ≤ _); rw [arrV_size]; exact h2) rfl rfl hdg fun H1 e1 z oq => ?_
  refine kk H1 _ (hI.up h1 ?_ z oq rfl)
  show H1[a]? = some (vp_cell (kA 3) (n, .inr (.inl (vp_updL f i.toNatClampNeg x))))
  rw [e1]
  show some ((vp_cell (kA 3) (n, .inr (.inl f))).setSlot _ _) = _
  rw [vp_cell_l, vp_cell_l, arrV_store]
  congr 2
  funext q
  by_cases hq : q = i.toNatClampNeg
  · subst hq
    simp [updV, vp_updL]
  · simp [updV, vp_updL, hq]
end HQ

