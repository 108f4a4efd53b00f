/-! STRING CONSTANTS by their places: rows -/
def sX (ρ : Nat → Nat) (a : Nat) : Option Nat := (List.range nST).find? (fun i => ρ i == a)
def sV (ρ : Nat → Nat) (a : Nat) : Option Nat := (sX ρ a).map fun i => ρ (100 + i)
def tX (ρ : Nat → Nat) (v : Nat) : Option Nat := (List.range nST).find? (fun i => ρ (100 + i) == v)
def tN (ρ : Nat → Nat) (v : Nat) : Option Int32 := (tX ρ v).map fun i => Int32.ofNat (lenST.getD i 0)
def tB (ρ : Nat → Nat) (v : Nat) (j : Int32) : Option Int32 := (tX ρ v).bind fun i => if ¬ (j < 0 ∨ lenST.getD i 0 ≤ j.toNatClampNeg) then some ((bytST.getD i []).getD j.toNatClampNeg 0) else none
theorem sX_at {ρ : Nat → Nat} {a i : Nat} (h : sX ρ a = some i) : i < nST ∧ ρ i = a := by
  have h1 := List.mem_of_find?_eq_some h
  have h2 := List.find?_some h
  exact ⟨List.mem_range.mp h1, by simpa using h2⟩
theorem tX_at {ρ : Nat → Nat} {v i : Nat} (h : tX ρ v = some i) : i < nST ∧ ρ (100 + i) = v := by
  have h1 := List.mem_of_find?_eq_some h
  have h2 := List.find?_some h
  exact ⟨List.mem_range.mp h1, by simpa using h2⟩
theorem hq_zq {C n d : String} {A : Nat → Prop} {U : State} {H : Heap} (h : va_Zq C n d A U H) : ∃ r : Option Nat, va_Z C n d (va_rf r) A U H := by
  rcases h with h | ⟨t, h⟩
  · exact ⟨none, h⟩
  · exact ⟨some t, h⟩
section HQ5
variable {p : Program} {l : Launch} {e : Env} {R : Room} {s : State} {m : MethodId} {args : Array Value} {below : List Frame} {meth : Method} {c : Code} {H : Heap} {locs : List Loc} {cells slots : Nat} {Q : State → Prop}
variable {cc : ByteArray} {pc : Nat} {ls : Array Slot} {rest : List Value} {D : va_G} {kA ρ : Nat → Nat} {HB : Heap} {n0 : Nat} {S S0 S1 : HSt} {a : Nat}
theorem hq_strv (hexec : p.tables.exec = Jvm.exec) (hb : c.code = cc) {own : String} {index v : Nat} (hts : ∀ w ∈ lwG, w.before args s = true) (hown : s.vm.findClass own = some m.cls) (hE : hqE D kA ρ HB s) (h0 : hqH D kA HB S0 s.heap) (hI : hqX D kA HB S0.2 S H locs) (g : sV ρ a = some v) (hlink : Cond.fieldLink own index "java/lang/String" "value" "[B" ∈ lwG) (hdg : decode cc pc = .ok (.getfield index, 3))
    (kk : W p l e R s m args below meth c H locs cells slots Q (F0 m (pc + 3) ls (.ref v :: rest))) : W p l e R s m args below meth c H locs cells slots Q (F0 m pc ls (.ref a :: rest)) := by
  obtain ⟨i, hi, rfl⟩ := Option.map_eq_some_iff.mp g
  obtain ⟨h1, rfl⟩ := sX_at hi
  exact vk_getf hexec hb (((hE.2.2.2.2.1).1 i h1).2.2.1.kept (hFree.kept h0)) (hI.S h0) hown (hts _ hlink) (fun _ h9 => h9) hdg kk
theorem hq_strc (hexec : p.tables.exec = Jvm.exec) (hb : c.code = cc) {own : String} {index : Nat} (hts : ∀ w ∈ lwG, w.before args s = true) (hown : s.vm.findClass own = some m.cls) (hE : hqE D kA ρ HB s) (h0 : hqH D kA HB S0 s.heap) (hI : hqX D kA HB S0.2 S H locs) (g : (sX ρ a).isSome = true) (hlink : Cond.fieldLink own index "java/lang/String" "coder" "B" ∈ lwG) (hdg : decode cc pc = .ok (.getfield index, 3))
    (kk : W p l e R s m args below meth c H locs cells slots Q (F0 m (pc + 3) ls (.int 0 :: rest))) : W p l e R s m args below meth c H locs cells slots Q (F0 m pc ls (.ref a :: rest)) := by
  obtain ⟨i, hi⟩ := Option.isSome_iff_exists.mp g
  obtain ⟨h1, rfl⟩ := sX_at hi
  exact vk_getf hexec hb (((hE.2.2.2.2.1).1 i h1).2.1.kept (hFree.kept h0)) (hI.S h0) hown (hts _ hlink) (fun _ h9 => h9) hdg kk
theorem hq_strs (hexec : p.tables.exec = Jvm.exec) (hb : c.code = cc) {own : String} {index : Nat} (hts : ∀ w ∈ lwG, w.before args s = true) (hown : s.vm.findClass own = some m.cls) (hE : hqE D kA ρ HB s) (h0 : hqH D kA HB S0 s.heap) (hI : hqX D kA HB S0.2 S H locs) (hlink : Cond.fieldLink own index "java/lang/String" "COMPACT_STRINGS" "Z" ∈ lwG) (hdg : decode cc pc = .ok (.getstatic index, 3))
    (kk : W p l e R s m args below meth c H locs cells slots Q (F0 m (pc + 3) ls (.int 1 :: rest))) : W p l e R s m args below meth c H locs cells slots Q (F0 m pc ls rest) :=
  va_gets hexec hb (hE.2.2.2.2.2.2.1.kept (hFree.kept h0)) (hI.S h0) hown (hts _ hlink) (fun _ h9 => h9) hdg kk
theorem hq_strn (hexec : p.tables.exec = Jvm.exec) (hb : c.code = cc) (hE : hqE D kA ρ HB s) (h0 : hqH D kA HB S0 s.heap) (hI : hqX D kA HB S0.2 S H locs) {x : Int32} (g : tN ρ a = some x) (hdg : decode cc pc = .ok (.arraylength, 1))
    (kk : W p l e R s m args below meth c H locs cells slots Q (F0 m (pc + 1) ls (.int x :: rest))) : W p l e R s m args below meth c H locs cells slots Q (F0 m pc ls (.ref a :: rest)) := by
  obtain ⟨i, hi, rfl⟩ := Option.map_eq_some_iff.mp g
  obtain ⟨h1, rfl⟩ := tX_at hi
  exact va_tlen hexec hb (((hE.2.2.2.2.1).1 i h1).2.2.2.kept (hFree.kept h0)) (hI.S h0) rfl hdg kk
theorem hq_strb (hexec : p.tables.exec = Jvm.exec) (hb : c.code = cc) (hE : hqE D kA ρ HB s) (h0 : hqH D kA HB S0 s.heap) (hI : hqX D kA HB S0.2 S H locs) {j x : Int32} (g : tB ρ a j = some x) (hdg : decode cc pc = .ok (.baload, 1))
    (kk : W p l e R s m args below meth c H locs cells slots Q (F0 m (pc + 1) ls (.int x :: rest))) : W p l e R s m args below meth c H locs cells slots Q (F0 m pc ls (.int j :: .ref a :: rest)) := by
  unfold tB at g
  obtain ⟨i, hi, g2⟩ := hq_bind g
  obtain ⟨h1, rfl⟩ := tX_at hi
  obtain ⟨h2, h3⟩ := hq_g g2
  cases h3
  exact va_tb hexec hb (((hE.2.2.2.2.1).1 i h1).2.2.2.kept (hFree.kept h0)) (hI.S h0) h2 rfl hdg kk
theorem hq_preT (hE : hqE D kA ρ HB s) (h0 : hqH D kA HB S0 s.heap) (hI : hqX D kA HB S0.2 S H locs) (g : (sX ρ a).isSome = true) (As : List Value) : PreV s H "java/lang/String" a (hPc D kA ρ HB S (.ref a :: As)) As := by
  obtain ⟨i, hi⟩ := Option.isSome_iff_exists.mp g
  obtain ⟨h1, rfl⟩ := sX_at hi
  obtain ⟨cell, q1, q2, q3, -⟩ := ((hE.2.2.2.2.1).1 i h1).1.kept (hFree.kept hI.1)
  exact ⟨hPc.blind, ⟨cell, q1, q2, q3⟩, fun U hU hW => ⟨rfl, hE.warm hW, by rw [hU]; exact hI.1⟩⟩
theorem hq_cret (hexec : p.tables.exec = Jvm.exec) (hb : c.code = cc) (hr : meth.sig.returnType = some .char) (hlocks : meth.locks = false) (h0 : hqH D kA HB S0 s.heap) (hI : hqX D kA HB S0.2 S H locs) {v : Int32} (hv : (v.toUInt32 % 65536).toInt32 = v) {res : Int32 × HSt} (hres : some (v, S) = some res) (hdg : decode cc pc = .ok (.ireturn, 1)) : W p l e R s m args below meth c H locs cells slots (MQ below (hQi D kA HB S0 res) args s cells slots (hFree HB)) (F0 m pc ls [.int v]) := by
  cases hres
  exact W.zret hexec hb hr (by rw [← hv]; exact pk_nc _) (fun t ht hW => ⟨⟨v, S, rfl, ⟨rfl, rfl⟩, by rw [ht]; exact hI.1, hI.2.1⟩, hI.F h0 ht⟩) hI.2.2 hdg hlocks
theorem hq_bret (hexec : p.tables.exec = Jvm.exec) (hb : c.code = cc) (hr : meth.sig.returnType = some .byte) (hlocks : meth.locks = false) (h0 : hqH D kA HB S0 s.heap) (hI : hqX D kA HB S0.2 S H locs) {v : Int32} (hv : narrow .byte (.int v) = .int v) {res : Int32 × HSt} (hres : some (v, S) = some res) (hdg : decode cc pc = .ok (.ireturn, 1)) : W p l e R s m args below meth c H locs cells slots (MQ below (hQi D kA HB S0 res) args s cells slots (hFree HB)) (F0 m pc ls [.int v]) := by
  cases hres
  exact W.zret hexec hb hr hv (fun t ht hW => ⟨⟨v, S, rfl, ⟨rfl, rfl⟩, by rw [ht]; exact hI.1, hI.2.1⟩, hI.F h0 ht⟩) hI.2.2 hdg hlocks
end HQ5
