/-! NEW CELLS, CALLS, ENDS, the table of kinds, String constants: rows over the heap as a function. -/
section HQ2
variable {p : Program} {l : Launch} {e : Env} {R : Room} {s : State} {m : MethodId} {args : Array Value} {below : List Frame} {meth : Method} {c : Code} {H : Heap} {locs : List Loc} {cells slots : Nat} {Q : State → Prop}
variable {cc : ByteArray} {pc : Nat} {ls : Array Slot} {rest : List Value} {D : va_G} {kA ρ : Nat → Nat} {HB : Heap} {n0 : Nat} {S S0 S1 : HSt} {a : Nat}
theorem hqX.new (hI : hqX D kA HB n0 S H locs) {e1 : HC} {H1 : Heap} (h1 : va_at D vwCl (H.size, hcE kA e1) H1) (z : H1.size = H.size + 1) (o : ∀ q, q < H.size → H1[q]? = H[q]?) : hqX D kA HB n0 (hNew S e1) H1 locs :=
  ⟨hI.1.new h1 z o, Nat.le_trans hI.2.1 (Nat.le_succ _), hI.2.2⟩
theorem hq_new (hexec : p.tables.exec = Jvm.exec) (hb : c.code = cc) {own C : String} {T : u_T} {N ci index : Nat} (hts : ∀ w ∈ lwG, w.before args s = true) (hown : s.vm.findClass own = some m.cls) (hE : hqE D kA ρ HB s) (hI : hqX D kA HB n0 S H locs) (hin : ∀ w ∈ u_ws C T N, w ∈ lwG) (ty : Nat → FieldType) (hty : ∀ k, k < N → parseFieldDescriptor (T k).2.2.1 = some (ty k)) (hcl : Cond.classLink own index C ∈ lwG) (hinst : Cond.instantiable C N ∈ lwG) (hini : Cond.initialized C ∈ lwG) (hc : vwCl[ci]? = some (C, T, N)) (fs : List Value) (hfs : ∀ j, j < N → defaultValue (ty j) = vp_V fs j) (hcells : cells + 1 ≤ R.cells) (hslots : slots + N ≤ R.slots) (hdg : decode cc pc = .ok (.new index, 3))
    (kk : ∀ H1 : Heap, hqX D kA HB n0 (hNew S (.inr (ci, fs))) H1 locs → W p l e R s m args below meth c H1 locs (cells + 1) (slots + N) Q (F0 m (pc + 3) ls (.ref S.2 :: rest))) : W p l e R s m args below meth c H locs cells slots Q (F0 m pc ls rest) := by
  have hKn := hE.1.1 ci _ hc
  refine W.newcK hexec hb hown (hts _ hcl) (hts _ hinst) (hts _ hini) rfl hdg hcells hslots hKn.2.1 hI.1.1 fun H1 kC hkC e1 z1 o1 => ?_
  rw [← hI.1.1] at e1 z1 o1
  exact kk H1 (hI.new ⟨_, hc, (u_born ty hts hin hKn hkC e1 hty).to hfs⟩ z1 o1)
theorem hq_newa (hexec : p.tables.exec = Jvm.exec) (hb : c.code = cc) {atype : ArrayType} (t : Nat) (ht6 : t < 6) (hts : ∀ w ∈ lwG, w.before args s = true) (hE : hqE D kA ρ HB s) (hI : hqX D kA HB n0 S H locs) (harr : Cond.arrayClass (newarray.typeOf atype) ∈ lwG) (hty : newarray.typeOf atype = hTy t) (hra : va_RA s (kA t) (hTy t) → s.vm.findClass ("[" ++ (newarray.typeOf atype).toString) = some (kA t))
    {n : Int32} {N' : Nat} {a0 : vp_A} (ha : ∀ cA : ClassId, vp_cell cA a0 = arrV cA N' (fun _ => defaultValue (newarray.typeOf atype))) (hn : ¬ n < 0) (hN : n.toNatClampNeg = N') (hbytes : N' * componentBytes (newarray.typeOf atype) ≤ 536870912) (hcells : cells + 1 ≤ R.cells) (hslots : slots + N' ≤ R.slots) (hdg : decode cc pc = .ok (.newarray atype, 2))
    (kk : ∀ H1 : Heap, hqX D kA HB n0 (hNew S (.inl (t, a0))) H1 locs → W p l e R s m args below meth c H1 locs (cells + 1) (slots + N') Q (F0 m (pc + 2) ls (.ref S.2 :: rest))) : W p l e R s m args below meth c H locs cells slots Q (F0 m pc ls (.int n :: rest)) := by
  refine va_newaK hexec hb (hts _ harr) rfl hdg rfl hn hN hbytes hcells hslots hI.1.1 fun H1 cA e1 z1 o1 hAr hNm => ?_
  have hk := hE.1.2 t _ (hTys_at kA ht6)
  have hcA : cA = kA t := Option.some.inj (hNm.symm.trans (hra hk.2))
  subst hcA
  rw [← hI.1.1] at e1 z1 o1
  refine kk H1 (hI.new ?_ z1 o1)
  show H1[H.size]? = some (vp_cell (kA t) a0)
  rw [ha]
  exact e1
theorem hq_newq (hexec : p.tables.exec = Jvm.exec) (hb : c.code = cc) {own C : String} {index : Nat} (t : Nat) (hts : ∀ w ∈ lwG, w.before args s = true) (hown : s.vm.findClass own = some m.cls) (hE : hqE D kA ρ HB s) (hI : hqX D kA HB n0 S H locs) (hclink : Cond.classLink own index C ∈ lwG) (hover : va_AO C s) (hty : (hTys kA)[t]? = some (kA t, .object C))
    {n : Int32} {N' : Nat} (hn : ¬ n < 0) (hN : n.toNatClampNeg = N') (hbytes : N' * 4 ≤ 536870912) (hcells : cells + 1 ≤ R.cells) (hslots : slots + N' ≤ R.slots) (hdg : decode cc pc = .ok (.anewarray index, 3))
    (kk : ∀ H1 : Heap, hqX D kA HB n0 (hNew S (.inl (t, N', .inr (.inr (.inr (.inr (fun _ => none))))))) H1 locs → W p l e R s m args below meth c H1 locs (cells + 1) (slots + N') Q (F0 m (pc + 3) ls (.ref S.2 :: rest))) : W p l e R s m args below meth c H locs cells slots Q (F0 m pc ls (.int n :: rest)) := by
  subst hN
  refine W.anew hexec hb hown (hts _ hclink) (va_AO.use hover) rfl hdg rfl hn hbytes hcells hslots fun cA kA1 comp f1 f2 f3 f4 => ?_
  generalize hH1 : H.push ({ cls := cA, slots := Array.replicate n.toNatClampNeg .null, vm := .none } : Cell) = H1
  have z1 : H1.size = H.size + 1 := by rw [← hH1, Array.size_push]
  have e1 : H1[H.size]? = some (arrV cA n.toNatClampNeg (fun _ => .null)) := by rw [← hH1, Array.getElem?_push_size, ← arrV_new]
  have o1 : ∀ q : Nat, q < H.size → H1[q]? = H[q]? := fun q hq => by rw [← hH1, Array.getElem?_push, if_neg (Nat.ne_of_lt hq)]
  obtain ⟨-, _, _, -, -, -, g4⟩ := hE.1.2 t _ hty
  have hcA : cA = kA t := Option.some.inj (f1.symm.trans g4)
  subst hcA
  have k9 := kk H1 (hI.new (by
    show H1[H.size]? = some (vp_cell _ _)
    rw [vp_cell_q]
    exact e1) z1 o1)
  rw [← hI.1.1] at k9
  exact k9
/-- a reference is put into a row of Try or Text -/
theorem hq_aast (hexec : p.tables.exec = Jvm.exec) (hb : c.code = cc) {E : String} (t : Nat) (hty : (hTys kA)[t]? = some (kA t, .object E)) (hE : hqE D kA ρ HB s) (hI : hqX D kA HB n0 S H locs) {v ci : Nat} {fs : List Value} {q : vw_C} (hv : S.1 v = some (.inr (ci, fs))) (hc : vwCl[ci]? = some q) (hasg : ∀ comp c0 : ClassId, s.vm.findClass E = some comp → s.vm.findClass q.1 = some c0 → s.vm.assignable c0 comp = true) {i : Int32} (g : sQ S a t i v = some S1) (hdg : decode cc pc = .ok (.aastore, 1))
    (kk : ∀ (H1 : Heap) (locs1 : List Loc), hqX D kA HB n0 S1 H1 locs1 → W p l e R s m args below meth c H1 locs1 cells slots Q (F0 m (pc + 1) ls rest)) : W p l e R s m args below meth c H locs cells slots Q (F0 m pc ls (.ref v :: .int i :: .ref a :: rest)) := by
  obtain ⟨n, f, h1, h2, rfl⟩ := sQ_at g
  have hlt : i.toNatClampNeg < n := Nat.not_le.mp fun q => h2 (Or.inr q)
  have h0 : ¬ i < 0 := fun q => h2 (Or.inl q)
  obtain ⟨cellV, g1, g3, ⟨kC, hkC⟩, hasg⟩ := va_rAny (E := E) hE.1 (hI.1.one hv) (q0 := 0) rfl hc hasg
  obtain ⟨kA1, comp, k1, k2, k3, -⟩ := (hE.1.2 t _ hty).2
  obtain ⟨kE, hkE, -⟩ := Vm.findClass_spec k3
  refine W.aast hexec hb (hI.1.2.2.2 a _ h1).2 (fun q h => by cases h) (fun h => by cases h) k1 k2 rfl hkE ⟨h0, by show _ < (arrV _ _ _).slots.size; rw [arrV_size]; exact hlt⟩ g1 (fun q h => by rw [h] at g3; cases g3) hkC (hasg _ k3) rfl rfl hdg fun H1 e1 z oq => ?_
  refine kk H1 _ (hI.up h1 ?_ z oq rfl)
  show H1[a]? = some (vp_cell (kA t) (n, .inr (.inr (.inr (.inr (va_up f i.toNatClampNeg (some v)))))))
  rw [e1]
  show some ((vp_cell (kA t) (n, .inr (.inr (.inr (.inr f))))).setSlot _ _) = _
  rw [vp_cell_q, vp_cell_q, arrV_store]
  congr 2
  funext q
  by_cases hq : q = i.toNatClampNeg
  · subst hq
    simp [updV, va_up, va_rf]
  · simp [updV, va_up, hq]
-- calls
theorem hq_preV (hE : hqE D kA ρ HB s) (hI : hqX D kA HB n0 S H locs) {b ci : Nat} {fs : List Value} {q : vw_C} (he : S.1 b = some (.inr (ci, fs))) (hc : vwCl[ci]? = some q) (As : List Value) : PreV s H q.1 b (hPc D kA ρ HB S (.ref b :: As)) As :=
  ⟨hPc.blind, va_recv hE.1 (hI.1.one he) hc (q0 := 0) rfl, fun U hU hW => ⟨rfl, hE.warm hW, by rw [hU]; exact hI.1⟩⟩
theorem hq_preS (hE : hqE D kA ρ HB s) (hI : hqX D kA HB n0 S H locs) (As : List Value) : PreS s H (hPc D kA ρ HB S As) As :=
  ⟨hPc.blind, fun U hU hW => ⟨rfl, hE.warm hW, by rw [hU]; exact hI.1⟩⟩
theorem hqX.here (hI : hqX D kA HB n0 S H locs) : va_S (hFree HB) H H locs := ⟨Nat.le_refl _, fun _ _ _ => rfl, hI.2.2⟩
theorem hq_calli {mc ms : Nat} {st0 : List Value} {av : Array Value} {res : Int32 × HSt} (hI : hqX D kA HB n0 S H locs) (hr : va_Run p l e R s m args below meth c H locs cells slots mc ms (F0 m pc ls st0) rest (hQi D kA HB S res av) (hFree HB))
    (kk : ∀ (H1 : Heap) (locs1 : List Loc), hqX D kA HB n0 res.2 H1 locs1 → W p l e R s m args below meth c H1 locs1 (cells + mc) (slots + ms) Q (F0 m (pc + 3) ls (.int res.1 :: rest))) : W p l e R s m args below meth c H locs cells slots Q (F0 m pc ls st0) := by
  refine va_calli hr hI.here (fun q _ h => h) (fun q h => h) (fun r u t H1 locs1 ht _ hp hB _ _ hS => ?_)
  obtain ⟨rfl, rfl⟩ := hp
  subst ht
  exact kk _ _ ⟨hB.1, Nat.le_trans hI.2.1 hB.2, hS.2.2⟩
theorem hq_calll {mc ms : Nat} {st0 : List Value} {av : Array Value} {res : Int64 × HSt} (hI : hqX D kA HB n0 S H locs) (hr : va_Run p l e R s m args below meth c H locs cells slots mc ms (F0 m pc ls st0) rest (hQl D kA HB S res av) (hFree HB))
    (kk : ∀ (H1 : Heap) (locs1 : List Loc), hqX D kA HB n0 res.2 H1 locs1 → W p l e R s m args below meth c H1 locs1 (cells + mc) (slots + ms) Q (F0 m (pc + 3) ls (.long res.1 :: rest))) : W p l e R s m args below meth c H locs cells slots Q (F0 m pc ls st0) := by
  refine va_calll hr hI.here (fun q _ h => h) (fun q h => h) (fun r u t H1 locs1 ht _ hp hB _ _ hS => ?_)
  obtain ⟨rfl, rfl⟩ := hp
  subst ht
  exact kk _ _ ⟨hB.1, Nat.le_trans hI.2.1 hB.2, hS.2.2⟩
theorem hq_callv {mc ms : Nat} {st0 : List Value} {av : Array Value} {res : HSt} (hI : hqX D kA HB n0 S H locs) (hr : va_Run p l e R s m args below meth c H locs cells slots mc ms (F0 m pc ls st0) rest (hQv D kA HB S res av) (hFree HB))
    (kk : ∀ (H1 : Heap) (locs1 : List Loc), hqX D kA HB n0 res H1 locs1 → W p l e R s m args below meth c H1 locs1 (cells + mc) (slots + ms) Q (F0 m (pc + 3) ls rest)) : W p l e R s m args below meth c H locs cells slots Q (F0 m pc ls st0) := by
  refine va_callv hr hI.here (fun q _ h => h) (fun q h => h) (fun u t H1 locs1 ht _ hp hB _ _ hS => ?_)
  obtain rfl := hp
  subst ht
  exact kk _ _ ⟨hB.1, Nat.le_trans hI.2.1 hB.2, hS.2.2⟩
theorem hq_callq {mc ms : Nat} {st0 : List Value} {av : Array Value} {res : Option Nat × HSt} (hI : hqX D kA HB n0 S H locs) (hr : va_Run p l e R s m args below meth c H locs cells slots mc ms (F0 m pc ls st0) rest (hQq D kA HB S res av) (hFree HB))
    (kk : ∀ (H1 : Heap) (locs1 : List Loc), hqX D kA HB n0 res.2 H1 locs1 → W p l e R s m args below meth c H1 locs1 (cells + mc) (slots + ms) Q (F0 m (pc + 3) ls (va_rf res.1 :: rest))) : W p l e R s m args below meth c H locs cells slots Q (F0 m pc ls st0) := by
  refine va_callq hr hI.here (fun q _ h => h) (fun q h => h) (fun r u t H1 locs1 ht _ hp hB _ _ hS => ?_)
  obtain ⟨rfl, rfl⟩ := hp
  subst ht
  exact kk _ _ ⟨hB.1, Nat.le_trans hI.2.1 hB.2, hS.2.2⟩
-- ends
theorem hq_iret (hexec : p.tables.exec = Jvm.exec) (hb : c.code = cc) (hr : meth.sig.returnType = some .int) (hlocks : meth.locks = false) (h0 : hqH D kA HB S0 s.heap) (hI : hqX D kA HB S0.2 S H locs) {v : Int32} {res : Int32 × HSt} (hres : some (v, S) = some res) (hdg : decode cc pc = .ok (.ireturn, 1)) : W p l e R s m args below meth c H locs cells slots (MQ below (hQi D kA HB S0 res) args s cells slots (hFree HB)) (F0 m pc ls [.int v]) := by
  cases hres
  exact W.iret hexec hb hr (fun t ht hW => ⟨⟨v, S, rfl, ⟨rfl, rfl⟩, by rw [ht]; exact hI.1, hI.2.1⟩, hI.F h0 ht⟩) hI.2.2 hdg hlocks
theorem hq_zret (hexec : p.tables.exec = Jvm.exec) (hb : c.code = cc) (hr : meth.sig.returnType = some .boolean) (hlocks : meth.locks = false) (h0 : hqH D kA HB S0 s.heap) (hI : hqX D kA HB S0.2 S H locs) {v : Int32} (hv : v = 0 ∨ v = 1) {res : Int32 × HSt} (hres : some (v, S) = some res) (hdg : decode cc pc = .ok (.ireturn, 1)) : W p l e R s m args below meth c H locs cells slots (MQ below (hQi D kA HB S0 res) args s cells slots (hFree HB)) (F0 m pc ls [.int v]) := by
  cases hres
  exact W.zret hexec hb hr (by rcases hv with rfl | rfl <;> rfl) (fun t ht hW => ⟨⟨v, S, rfl, ⟨rfl, rfl⟩, by rw [ht]; exact hI.1, hI.2.1⟩, hI.F h0 ht⟩) hI.2.2 hdg hlocks
theorem hq_lret (hexec : p.tables.exec = Jvm.exec) (hb : c.code = cc) (hr : meth.sig.returnType = some .long) (hlocks : meth.locks = false) (h0 : hqH D kA HB S0 s.heap) (hI : hqX D kA HB S0.2 S H locs) {v : Int64} {res : Int64 × HSt} (hres : some (v, S) = some res) (hdg : decode cc pc = .ok (.lreturn, 1)) : W p l e R s m args below meth c H locs cells slots (MQ below (hQl D kA HB S0 res) args s cells slots (hFree HB)) (F0 m pc ls [.long v]) := by
  cases hres
  exact W.lret hexec hb hr (fun t ht hW => ⟨⟨v, S, rfl, ⟨rfl, rfl⟩, by rw [ht]; exact hI.1, hI.2.1⟩, hI.F h0 ht⟩) hI.2.2 hdg hlocks
theorem hq_vret (hexec : p.tables.exec = Jvm.exec) (hb : c.code = cc) (hr : meth.sig.returnType = none) (hlocks : meth.locks = false) (h0 : hqH D kA HB S0 s.heap) (hI : hqX D kA HB S0.2 S H locs) {res : HSt} (hres : some S = some res) (hdg : decode cc pc = .ok (.return_, 1)) : W p l e R s m args below meth c H locs cells slots (MQ below (hQv D kA HB S0 res) args s cells slots (hFree HB)) (F0 m pc ls []) := by
  cases hres
  exact W.vret hexec hb hr (fun t ht hW => ⟨⟨S, rfl, rfl, by rw [ht]; exact hI.1, hI.2.1⟩, hI.F h0 ht⟩) hI.2.2 hdg hlocks
theorem hq_aret (hexec : p.tables.exec = Jvm.exec) (hb : c.code = cc) {C : String} (hr : meth.sig.returnType = some (.object C)) (hlocks : meth.locks = false) (h0 : hqH D kA HB S0 s.heap) (hI : hqX D kA HB S0.2 S H locs) {v : Option Nat} {res : Option Nat × HSt} (hres : some (v, S) = some res) (hdg : decode cc pc = .ok (.areturn, 1)) : W p l e R s m args below meth c H locs cells slots (MQ below (hQq D kA HB S0 res) args s cells slots (hFree HB)) (F0 m pc ls [va_rf v]) := by
  cases hres
  exact W.aret hexec hb hr (Or.inl ⟨_, rfl⟩) (by cases v with | none => exact Or.inl rfl | some a => exact Or.inr ⟨a, rfl⟩) (fun t ht hW => ⟨⟨v, S, rfl, ⟨rfl, rfl⟩, by rw [ht]; exact hI.1, hI.2.1⟩, hI.F h0 ht⟩) hI.2.2 hdg hlocks
-- the table of kinds
def kab (i : Int32) : Option Int32 := if ¬ (i < 0 ∨ 7 ≤ i.toNatClampNeg) then some (([-1, 0, 0, 0, 2, 2, 3] : List Int32).getD i.toNatClampNeg 0) else none
theorem hq_kabs (hexec : p.tables.exec = Jvm.exec) (hb : c.code = cc) {own : String} {index : Nat} (hts : ∀ w ∈ lwG, w.before args s = true) (hown : s.vm.findClass own = some m.cls) (hE : hqE D kA ρ HB s) (h0 : hqH D kA HB S0 s.heap) (hI : hqX D kA HB S0.2 S H locs) (hlink : Cond.fieldLink own index "RodDips" "KIND_ABOVE" "[I" ∈ lwG) (hdg : decode cc pc = .ok (.getstatic index, 3))
    (kk : W p l e R s m args below meth c H locs cells slots Q (F0 m (pc + 3) ls (.ref (ρ 200) :: rest))) : W p l e R s m args below meth c H locs cells slots Q (F0 m pc ls rest) :=
  va_gets hexec hb (hE.2.2.2.2.2.2.2.2.1.kept (hFree.kept h0)) (hI.S h0) hown (hts _ hlink) (fun _ h9 => h9) hdg kk
theorem hq_kabn (hexec : p.tables.exec = Jvm.exec) (hb : c.code = cc) (hE : hqE D kA ρ HB s) (h0 : hqH D kA HB S0 s.heap) (hI : hqX D kA HB S0.2 S H locs) (hdg : decode cc pc = .ok (.arraylength, 1))
    (kk : W p l e R s m args below meth c H locs cells slots Q (F0 m (pc + 1) ls (.int 7 :: rest))) : W p l e R s m args below meth c H locs cells slots Q (F0 m pc ls (.ref (ρ 200) :: rest)) :=
  va_tlen hexec hb (hE.2.2.2.2.2.2.2.2.2.kept (hFree.kept h0)) (hI.S h0) rfl hdg kk
theorem hq_kabi (hexec : p.tables.exec = Jvm.exec) (hb : c.code = cc) (hE : hqE D kA ρ HB s) (h0 : hqH D kA HB S0 s.heap) (hI : hqX D kA HB S0.2 S H locs) {i v : Int32} (g : kab i = some v) (hdg : decode cc pc = .ok (.iaload, 1))
    (kk : W p l e R s m args below meth c H locs cells slots Q (F0 m (pc + 1) ls (.int v :: rest))) : W p l e R s m args below meth c H locs cells slots Q (F0 m pc ls (.int i :: .ref (ρ 200) :: rest)) := by
  unfold kab at g
  obtain ⟨h1, h2⟩ := hq_g g
  cases h2
  exact va_ti hexec hb (hE.2.2.2.2.2.2.2.2.2.kept (hFree.kept h0)) (hI.S h0) h1 rfl hdg kk
theorem hq_ldcS (hexec : p.tables.exec = Jvm.exec) (hb : c.code = cc) {own tx : String} {index k : Nat} (hown : s.vm.findClass own = some m.cls) (hE : hqE D kA ρ HB s) (hq : (own, index, tx, k) ∈ refST) (hdg : decode cc pc = .ok (.ldc index, 2))
    (kk : W p l e R s m args below meth c H locs cells slots Q (F0 m (pc + 2) ls (.ref (ρ k) :: rest))) : W p l e R s m args below meth c H locs cells slots Q (F0 m pc ls rest) :=
  va_ldcS hexec hb hown (hE.2.2.2.2.2.1 _ hq) hdg kk
end HQ2
