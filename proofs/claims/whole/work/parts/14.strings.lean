/-! String methods: printed by wip/whole/gen.py -/
-- java/lang/String.coder()B
theorem dJ0_coder_7d493_0 : decode cJ0_coder_7d493 0 = .ok (.getstatic 38, 3) := by decide +kernel
theorem dJ0_coder_7d493_3 : decode cJ0_coder_7d493 3 = .ok (.ifCond .eq 10, 3) := by decide +kernel
theorem dJ0_coder_7d493_6 : decode cJ0_coder_7d493 6 = .ok (.aload_n 0, 1) := by decide +kernel
theorem dJ0_coder_7d493_7 : decode cJ0_coder_7d493 7 = .ok (.getfield 15, 3) := by decide +kernel
theorem dJ0_coder_7d493_10 : decode cJ0_coder_7d493 10 = .ok (.goto 4, 3) := by decide +kernel
theorem dJ0_coder_7d493_13 : decode cJ0_coder_7d493 13 = .ok (.iconst 1, 1) := by decide +kernel
theorem dJ0_coder_7d493_14 : decode cJ0_coder_7d493 14 = .ok (.ireturn, 1) := by decide +kernel
def f_J0_coder_7d493 (ρ : Nat → Nat) (S : HSt) (a0 : Nat) : Option (Int32 × HSt) := if (1 : Int32) = 0 then (some (1, S)) else (if (sX ρ a0).isSome = true then (some (0, S)) else none)
abbrev rm_J0_coder_7d493 : Room := { frames := 0, cells := 0, slots := 0, locals := 0 }
abbrev w_J0_coder_7d493 : List Cond := Cond.code yJ0_coder_7d493 cJ0_coder_7d493 1 (Option.some FieldType.byte) :: lwG
theorem yd_J0_coder_7d493 : yJ0_coder_7d493.cls ≠ "java/lang/invoke/MethodHandle" ∧ yJ0_coder_7d493.cls ≠ "java/lang/invoke/VarHandle" ∧ (parseMethodDescriptor yJ0_coder_7d493.desc).map (fun d => d.parameters.length) = some 0 := by decide +kernel
theorem ye_J0_coder_7d493 : yJ0_coder_7d493.cls = RJ0 ∧ yJ0_coder_7d493.cls ≠ "java/lang/invoke/MethodHandle" ∧ yJ0_coder_7d493.cls ≠ "java/lang/invoke/VarHandle" ∧ (parseMethodDescriptor yJ0_coder_7d493.desc).map (fun d => d.parameters.length) = some 0 := by decide +kernel
set_option maxHeartbeats 4000000 in
set_option maxRecDepth 100000 in
theorem c_J0_coder_7d493 (l : Launch) (D : va_G) (kA ρ : Nat → Nat) (HB : Heap) (S : HSt) (a0 : Nat) (res : Int32 × HSt) (h : f_J0_coder_7d493 ρ S a0 = some res) : Met l yJ0_coder_7d493 w_J0_coder_7d493 rm_J0_coder_7d493 (hPc D kA ρ HB S [.ref a0]) (hQi D kA HB S res) 0 0 (hFree HB) := by
  refine Met.ofW (cc := cJ0_coder_7d493) (maxL := 1) (ret := (Option.some FieldType.byte)) (by decide) rfl ?_
  intro p e s m args below meth c s₁ B hml hv
  obtain ⟨rfl, hE, h0⟩ := hv
  have hx := B.exec
  have hb := B.bytes
  have hr := B.returns
  have hts0 := atoms_spec (ws := w_J0_coder_7d493) B.pre
  have hts : ∀ w ∈ lwG, w.before _ s = true := fun w hw => hts0 w (List.mem_cons_of_mem _ hw)
  have hown : s.vm.findClass RJ0 = some m.cls := findClass_of_methodNamed B.named
  have hlocks := B.notSynchronized
  have hI : hqX D kA HB S.2 S s.heap [] := ⟨h0, Nat.le_refl _, fun _ q => absurd q List.not_mem_nil⟩
  have hl := lv_entry ([.ref a0]) (n := 1) (Nat.le_of_ble_eq_true rfl)
  rw [lg_entry_eq]
  generalize (lg_sl ([.ref a0]) ++ List.replicate (1 - (lg_sl ([.ref a0])).length) Slot.unset).toArray = ls at hl ⊢
  have hl : lv_has ls 1 [(0, .ref a0)] := hl
  unfold f_J0_coder_7d493 at h
  refine hq_strs hx hb hts hown hE h0 hI kw_419 dJ0_coder_7d493_0 ?_
  refine lv_if_eq (tgt := 13) hx hb dJ0_coder_7d493_3 (by decide) (fun c1 => ?_) (fun c1 => ?_)
  · have h := hq_t h c1
    refine lv_iconst (v := 1) hx hb dJ0_coder_7d493_13 (by decide) ?_
    exact hq_bret hx hb hr hlocks h0 hI rfl h dJ0_coder_7d493_14
  · have h := hq_f h c1
    refine lv_aload_n hx hb dJ0_coder_7d493_6 rfl (lv_at hl 0 rfl) ?_
    obtain ⟨g2, h⟩ := hq_g h
    refine hq_strc hx hb hts hown hE h0 hI g2 kw_1381 dJ0_coder_7d493_7 ?_
    refine lv_goto (tgt := 14) hx hb dJ0_coder_7d493_10 (by decide) ?_
    exact hq_bret hx hb hr hlocks h0 hI rfl h dJ0_coder_7d493_14
-- java/lang/String.isLatin1()Z
theorem dJ0_isLatin1_aae02_0 : decode cJ0_isLatin1_aae02 0 = .ok (.getstatic 38, 3) := by decide +kernel
theorem dJ0_isLatin1_aae02_3 : decode cJ0_isLatin1_aae02 3 = .ok (.ifCond .eq 14, 3) := by decide +kernel
theorem dJ0_isLatin1_aae02_6 : decode cJ0_isLatin1_aae02 6 = .ok (.aload_n 0, 1) := by decide +kernel
theorem dJ0_isLatin1_aae02_7 : decode cJ0_isLatin1_aae02 7 = .ok (.getfield 15, 3) := by decide +kernel
theorem dJ0_isLatin1_aae02_10 : decode cJ0_isLatin1_aae02 10 = .ok (.ifCond .ne 7, 3) := by decide +kernel
theorem dJ0_isLatin1_aae02_13 : decode cJ0_isLatin1_aae02 13 = .ok (.iconst 1, 1) := by decide +kernel
theorem dJ0_isLatin1_aae02_14 : decode cJ0_isLatin1_aae02 14 = .ok (.goto 4, 3) := by decide +kernel
theorem dJ0_isLatin1_aae02_17 : decode cJ0_isLatin1_aae02 17 = .ok (.iconst 0, 1) := by decide +kernel
theorem dJ0_isLatin1_aae02_18 : decode cJ0_isLatin1_aae02 18 = .ok (.ireturn, 1) := by decide +kernel
def f_J0_isLatin1_aae02 (ρ : Nat → Nat) (S : HSt) (a0 : Nat) : Option (Int32 × HSt) := if (1 : Int32) = 0 then (some (0, S)) else (if (sX ρ a0).isSome = true then (if (0 : Int32) = 0 then (some (1, S)) else (some (0, S))) else none)
abbrev rm_J0_isLatin1_aae02 : Room := { frames := 0, cells := 0, slots := 0, locals := 0 }
abbrev w_J0_isLatin1_aae02 : List Cond := Cond.code yJ0_isLatin1_aae02 cJ0_isLatin1_aae02 1 (Option.some FieldType.boolean) :: lwG
theorem yd_J0_isLatin1_aae02 : yJ0_isLatin1_aae02.cls ≠ "java/lang/invoke/MethodHandle" ∧ yJ0_isLatin1_aae02.cls ≠ "java/lang/invoke/VarHandle" ∧ (parseMethodDescriptor yJ0_isLatin1_aae02.desc).map (fun d => d.parameters.length) = some 0 := by decide +kernel
theorem ye_J0_isLatin1_aae02 : yJ0_isLatin1_aae02.cls = RJ0 ∧ yJ0_isLatin1_aae02.cls ≠ "java/lang/invoke/MethodHandle" ∧ yJ0_isLatin1_aae02.cls ≠ "java/lang/invoke/VarHandle" ∧ (parseMethodDescriptor yJ0_isLatin1_aae02.desc).map (fun d => d.parameters.length) = some 0 := by decide +kernel
set_option maxHeartbeats 4000000 in
set_option maxRecDepth 100000 in
theorem c_J0_isLatin1_aae02 (l : Launch) (D : va_G) (kA ρ : Nat → Nat) (HB : Heap) (S : HSt) (a0 : Nat) (res : Int32 × HSt) (h : f_J0_isLatin1_aae02 ρ S a0 = some res) : Met l yJ0_isLatin1_aae02 w_J0_isLatin1_aae02 rm_J0_isLatin1_aae02 (hPc D kA ρ HB S [.ref a0]) (hQi D kA HB S res) 0 0 (hFree HB) := by
  refine Met.ofW (cc := cJ0_isLatin1_aae02) (maxL := 1) (ret := (Option.some FieldType.boolean)) (by decide) rfl ?_
  intro p e s m args below meth c s₁ B hml hv
  obtain ⟨rfl, hE, h0⟩ := hv
  have hx := B.exec
  have hb := B.bytes
  have hr := B.returns
  have hts0 := atoms_spec (ws := w_J0_isLatin1_aae02) B.pre
  have hts : ∀ w ∈ lwG, w.before _ s = true := fun w hw => hts0 w (List.mem_cons_of_mem _ hw)
  have hown : s.vm.findClass RJ0 = some m.cls := findClass_of_methodNamed B.named
  have hlocks := B.notSynchronized
  have hI : hqX D kA HB S.2 S s.heap [] := ⟨h0, Nat.le_refl _, fun _ q => absurd q List.not_mem_nil⟩
  have hl := lv_entry ([.ref a0]) (n := 1) (Nat.le_of_ble_eq_true rfl)
  rw [lg_entry_eq]
  generalize (lg_sl ([.ref a0]) ++ List.replicate (1 - (lg_sl ([.ref a0])).length) Slot.unset).toArray = ls at hl ⊢
  have hl : lv_has ls 1 [(0, .ref a0)] := hl
  unfold f_J0_isLatin1_aae02 at h
  refine hq_strs hx hb hts hown hE h0 hI kw_419 dJ0_isLatin1_aae02_0 ?_
  refine lv_if_eq (tgt := 17) hx hb dJ0_isLatin1_aae02_3 (by decide) (fun c1 => ?_) (fun c1 => ?_)
  · have h := hq_t h c1
    refine lv_iconst (v := 0) hx hb dJ0_isLatin1_aae02_17 (by decide) ?_
    exact hq_zret hx hb hr hlocks h0 hI (by decide) h dJ0_isLatin1_aae02_18
  · have h := hq_f h c1
    refine lv_aload_n hx hb dJ0_isLatin1_aae02_6 rfl (lv_at hl 0 rfl) ?_
    obtain ⟨g2, h⟩ := hq_g h
    refine hq_strc hx hb hts hown hE h0 hI g2 kw_1381 dJ0_isLatin1_aae02_7 ?_
    refine lv_if_ne (tgt := 17) hx hb dJ0_isLatin1_aae02_10 (by decide) (fun c3 => ?_) (fun c3 => ?_)
    · have h := hq_f h c3
      refine lv_iconst (v := 0) hx hb dJ0_isLatin1_aae02_17 (by decide) ?_
      exact hq_zret hx hb hr hlocks h0 hI (by decide) h dJ0_isLatin1_aae02_18
    · have h := hq_t h c3
      refine lv_iconst (v := 1) hx hb dJ0_isLatin1_aae02_13 (by decide) ?_
      refine lv_goto (tgt := 18) hx hb dJ0_isLatin1_aae02_14 (by decide) ?_
      exact hq_zret hx hb hr hlocks h0 hI (by decide) h dJ0_isLatin1_aae02_18
-- java/lang/String.length()I
theorem dJ0_length_8abf5_0 : decode cJ0_length_8abf5 0 = .ok (.aload_n 0, 1) := by decide +kernel
theorem dJ0_length_8abf5_1 : decode cJ0_length_8abf5 1 = .ok (.getfield 9, 3) := by decide +kernel
theorem dJ0_length_8abf5_4 : decode cJ0_length_8abf5 4 = .ok (.arraylength, 1) := by decide +kernel
theorem dJ0_length_8abf5_5 : decode cJ0_length_8abf5 5 = .ok (.aload_n 0, 1) := by decide +kernel
theorem dJ0_length_8abf5_6 : decode cJ0_length_8abf5 6 = .ok (.invokevirtual 335, 3) := by decide +kernel
theorem dJ0_length_8abf5_9 : decode cJ0_length_8abf5 9 = .ok (.ishr, 1) := by decide +kernel
theorem dJ0_length_8abf5_10 : decode cJ0_length_8abf5 10 = .ok (.ireturn, 1) := by decide +kernel
def f_J0_length_8abf5 (ρ : Nat → Nat) (S : HSt) (a0 : Nat) : Option (Int32 × HSt) := (sV ρ a0).bind fun w2 => (tN ρ w2).bind fun v3 => if (sX ρ a0).isSome = true then (bd2 (f_J0_coder_7d493 ρ S a0) fun v8 S7 => some (v3 >>> (v8 &&& 31), S7)) else none
abbrev rm_J0_length_8abf5 : Room := { frames := 1, cells := 0, slots := 0, locals := 20 }
abbrev w_J0_length_8abf5 : List Cond := Cond.code yJ0_length_8abf5 cJ0_length_8abf5 1 (Option.some FieldType.int) :: lwG
theorem yd_J0_length_8abf5 : yJ0_length_8abf5.cls ≠ "java/lang/invoke/MethodHandle" ∧ yJ0_length_8abf5.cls ≠ "java/lang/invoke/VarHandle" ∧ (parseMethodDescriptor yJ0_length_8abf5.desc).map (fun d => d.parameters.length) = some 0 := by decide +kernel
theorem ye_J0_length_8abf5 : yJ0_length_8abf5.cls = RJ0 ∧ yJ0_length_8abf5.cls ≠ "java/lang/invoke/MethodHandle" ∧ yJ0_length_8abf5.cls ≠ "java/lang/invoke/VarHandle" ∧ (parseMethodDescriptor yJ0_length_8abf5.desc).map (fun d => d.parameters.length) = some 0 := by decide +kernel
set_option maxHeartbeats 4000000 in
set_option maxRecDepth 100000 in
theorem c_J0_length_8abf5 (l : Launch) (D : va_G) (kA ρ : Nat → Nat) (HB : Heap) (S : HSt) (a0 : Nat) (res : Int32 × HSt) (h : f_J0_length_8abf5 ρ S a0 = some res) : Met l yJ0_length_8abf5 w_J0_length_8abf5 rm_J0_length_8abf5 (hPc D kA ρ HB S [.ref a0]) (hQi D kA HB S res) 0 0 (hFree HB) := by
  refine Met.ofW (cc := cJ0_length_8abf5) (maxL := 1) (ret := (Option.some FieldType.int)) (by decide) rfl ?_
  intro p e s m args below meth c s₁ B hml hv
  obtain ⟨rfl, hE, h0⟩ := hv
  have hx := B.exec
  have hb := B.bytes
  have hr := B.returns
  have hts0 := atoms_spec (ws := w_J0_length_8abf5) B.pre
  have hts : ∀ w ∈ lwG, w.before _ s = true := fun w hw => hts0 w (List.mem_cons_of_mem _ hw)
  have hown : s.vm.findClass RJ0 = some m.cls := findClass_of_methodNamed B.named
  have hlocks := B.notSynchronized
  have hI : hqX D kA HB S.2 S s.heap [] := ⟨h0, Nat.le_refl _, fun _ q => absurd q List.not_mem_nil⟩
  have hl := lv_entry ([.ref a0]) (n := 1) (Nat.le_of_ble_eq_true rfl)
  rw [lg_entry_eq]
  generalize (lg_sl ([.ref a0]) ++ List.replicate (1 - (lg_sl ([.ref a0])).length) Slot.unset).toArray = ls at hl ⊢
  have hl : lv_has ls 1 [(0, .ref a0)] := hl
  unfold f_J0_length_8abf5 at h
  refine lv_aload_n hx hb dJ0_length_8abf5_0 rfl (lv_at hl 0 rfl) ?_
  obtain ⟨w2, g1, h⟩ := hq_bind h
  refine hq_strv hx hb hts hown hE h0 hI g1 kw_1380 dJ0_length_8abf5_1 ?_
  obtain ⟨v3, g4, h⟩ := hq_bind h
  refine hq_strn hx hb hE h0 hI g4 dJ0_length_8abf5_4 ?_
  refine lv_aload_n hx hb dJ0_length_8abf5_5 rfl (lv_at hl 0 rfl) ?_
  obtain ⟨g6, h⟩ := hq_g h
  obtain ⟨v8, S7, g5, h⟩ := hq_bd2 h
  refine hq_calli hI (va_runV (As := []) (rest := [.int v3]) ⟨hx, hb, hml, hown, hts⟩ (c_J0_coder_7d493 l D kA ρ HB S a0 _ g5) (cwV 0 hts (gdIn (List.forall_mem_cons.mpr ⟨kw_415, (List.forall_mem_cons.mpr ⟨kw_416, (List.forall_mem_cons.mpr ⟨kw_417, (List.forall_mem_cons.mpr ⟨kw_15, (fun _ h => absurd h List.not_mem_nil)⟩)⟩)⟩)⟩) kw_418) rfl rfl rfl ye_J0_coder_7d493 ⟨Nat.le_of_ble_eq_true rfl, Nat.le_of_ble_eq_true rfl⟩) (hq_preT hE h0 hI g6 _) rfl rfl hl.1 rfl (lv_room (Nat.le_of_ble_eq_true rfl)) dJ0_length_8abf5_6 ⟨Nat.le_of_ble_eq_true rfl, Nat.le_of_ble_eq_true rfl⟩) (fun H locs hI => ?_)
  refine lv_ishr hx hb dJ0_length_8abf5_9 ?_
  exact hq_iret hx hb hr hlocks h0 hI h dJ0_length_8abf5_10
-- java/lang/String.isEmpty()Z
theorem dJ0_isEmpty_aae02_0 : decode cJ0_isEmpty_aae02 0 = .ok (.aload_n 0, 1) := by decide +kernel
theorem dJ0_isEmpty_aae02_1 : decode cJ0_isEmpty_aae02 1 = .ok (.getfield 9, 3) := by decide +kernel
theorem dJ0_isEmpty_aae02_4 : decode cJ0_isEmpty_aae02 4 = .ok (.arraylength, 1) := by decide +kernel
theorem dJ0_isEmpty_aae02_5 : decode cJ0_isEmpty_aae02 5 = .ok (.ifCond .ne 7, 3) := by decide +kernel
theorem dJ0_isEmpty_aae02_8 : decode cJ0_isEmpty_aae02 8 = .ok (.iconst 1, 1) := by decide +kernel
theorem dJ0_isEmpty_aae02_9 : decode cJ0_isEmpty_aae02 9 = .ok (.goto 4, 3) := by decide +kernel
theorem dJ0_isEmpty_aae02_12 : decode cJ0_isEmpty_aae02 12 = .ok (.iconst 0, 1) := by decide +kernel
theorem dJ0_isEmpty_aae02_13 : decode cJ0_isEmpty_aae02 13 = .ok (.ireturn, 1) := by decide +kernel
def f_J0_isEmpty_aae02 (ρ : Nat → Nat) (S : HSt) (a0 : Nat) : Option (Int32 × HSt) := (sV ρ a0).bind fun w2 => (tN ρ w2).bind fun v3 => if v3 = 0 then (some (1, S)) else (some (0, S))
abbrev rm_J0_isEmpty_aae02 : Room := { frames := 0, cells := 0, slots := 0, locals := 0 }
abbrev w_J0_isEmpty_aae02 : List Cond := Cond.code yJ0_isEmpty_aae02 cJ0_isEmpty_aae02 1 (Option.some FieldType.boolean) :: lwG
theorem yd_J0_isEmpty_aae02 : yJ0_isEmpty_aae02.cls ≠ "java/lang/invoke/MethodHandle" ∧ yJ0_isEmpty_aae02.cls ≠ "java/lang/invoke/VarHandle" ∧ (parseMethodDescriptor yJ0_isEmpty_aae02.desc).map (fun d => d.parameters.length) = some 0 := by decide +kernel
theorem ye_J0_isEmpty_aae02 : yJ0_isEmpty_aae02.cls = RJ0 ∧ yJ0_isEmpty_aae02.cls ≠ "java/lang/invoke/MethodHandle" ∧ yJ0_isEmpty_aae02.cls ≠ "java/lang/invoke/VarHandle" ∧ (parseMethodDescriptor yJ0_isEmpty_aae02.desc).map (fun d => d.parameters.length) = some 0 := by decide +kernel
set_option maxHeartbeats 4000000 in
set_option maxRecDepth 100000 in
theorem c_J0_isEmpty_aae02 (l : Launch) (D : va_G) (kA ρ : Nat → Nat) (HB : Heap) (S : HSt) (a0 : Nat) (res : Int32 × HSt) (h : f_J0_isEmpty_aae02 ρ S a0 = some res) : Met l yJ0_isEmpty_aae02 w_J0_isEmpty_aae02 rm_J0_isEmpty_aae02 (hPc D kA ρ HB S [.ref a0]) (hQi D kA HB S res) 0 0 (hFree HB) := by
  refine Met.ofW (cc := cJ0_isEmpty_aae02) (maxL := 1) (ret := (Option.some FieldType.boolean)) (by decide) rfl ?_
  intro p e s m args below meth c s₁ B hml hv
  obtain ⟨rfl, hE, h0⟩ := hv
  have hx := B.exec
  have hb := B.bytes
  have hr := B.returns
  have hts0 := atoms_spec (ws := w_J0_isEmpty_aae02) B.pre
  have hts : ∀ w ∈ lwG, w.before _ s = true := fun w hw => hts0 w (List.mem_cons_of_mem _ hw)
  have hown : s.vm.findClass RJ0 = some m.cls := findClass_of_methodNamed B.named
  have hlocks := B.notSynchronized
  have hI : hqX D kA HB S.2 S s.heap [] := ⟨h0, Nat.le_refl _, fun _ q => absurd q List.not_mem_nil⟩
  have hl := lv_entry ([.ref a0]) (n := 1) (Nat.le_of_ble_eq_true rfl)
  rw [lg_entry_eq]
  generalize (lg_sl ([.ref a0]) ++ List.replicate (1 - (lg_sl ([.ref a0])).length) Slot.unset).toArray = ls at hl ⊢
  have hl : lv_has ls 1 [(0, .ref a0)] := hl
  unfold f_J0_isEmpty_aae02 at h
  refine lv_aload_n hx hb dJ0_isEmpty_aae02_0 rfl (lv_at hl 0 rfl) ?_
  obtain ⟨w2, g1, h⟩ := hq_bind h
  refine hq_strv hx hb hts hown hE h0 hI g1 kw_1380 dJ0_isEmpty_aae02_1 ?_
  obtain ⟨v3, g4, h⟩ := hq_bind h
  refine hq_strn hx hb hE h0 hI g4 dJ0_isEmpty_aae02_4 ?_
  refine lv_if_ne (tgt := 12) hx hb dJ0_isEmpty_aae02_5 (by decide) (fun c5 => ?_) (fun c5 => ?_)
  · have h := hq_f h c5
    refine lv_iconst (v := 0) hx hb dJ0_isEmpty_aae02_12 (by decide) ?_
    exact hq_zret hx hb hr hlocks h0 hI (by decide) h dJ0_isEmpty_aae02_13
  · have h := hq_t h c5
    refine lv_iconst (v := 1) hx hb dJ0_isEmpty_aae02_8 (by decide) ?_
    refine lv_goto (tgt := 13) hx hb dJ0_isEmpty_aae02_9 (by decide) ?_
    exact hq_zret hx hb hr hlocks h0 hI (by decide) h dJ0_isEmpty_aae02_13
-- jdk/internal/util/Preconditions.checkIndex(IILjava/util/function/BiFunction;)I
theorem dJ3_checkIndex_8e157_0 : decode cJ3_checkIndex_8e157 0 = .ok (.iload_n 0, 1) := by decide +kernel
theorem dJ3_checkIndex_8e157_1 : decode cJ3_checkIndex_8e157 1 = .ok (.ifCond .lt 8, 3) := by decide +kernel
theorem dJ3_checkIndex_8e157_4 : decode cJ3_checkIndex_8e157 4 = .ok (.iload_n 0, 1) := by decide +kernel
theorem dJ3_checkIndex_8e157_5 : decode cJ3_checkIndex_8e157 5 = .ok (.iload_n 1, 1) := by decide +kernel
theorem dJ3_checkIndex_8e157_6 : decode cJ3_checkIndex_8e157 6 = .ok (.if_icmp .lt 10, 3) := by decide +kernel
theorem dJ3_checkIndex_8e157_9 : decode cJ3_checkIndex_8e157 9 = .ok (.aload_n 2, 1) := by decide +kernel
theorem dJ3_checkIndex_8e157_10 : decode cJ3_checkIndex_8e157 10 = .ok (.iload_n 0, 1) := by decide +kernel
theorem dJ3_checkIndex_8e157_11 : decode cJ3_checkIndex_8e157 11 = .ok (.iload_n 1, 1) := by decide +kernel
theorem dJ3_checkIndex_8e157_12 : decode cJ3_checkIndex_8e157 12 = .ok (.invokestatic 95, 3) := by decide +kernel
theorem dJ3_checkIndex_8e157_15 : decode cJ3_checkIndex_8e157 15 = .ok (.athrow, 1) := by decide +kernel
theorem dJ3_checkIndex_8e157_16 : decode cJ3_checkIndex_8e157 16 = .ok (.iload_n 0, 1) := by decide +kernel
theorem dJ3_checkIndex_8e157_17 : decode cJ3_checkIndex_8e157 17 = .ok (.ireturn, 1) := by decide +kernel
def f_J3_checkIndex_8e157 (S : HSt) (a0 : Int32) (a1 : Int32) : Option (Int32 × HSt) := if a0 < 0 then (none) else (if a0 < a1 then (some (a0, S)) else (none))
abbrev rm_J3_checkIndex_8e157 : Room := { frames := 0, cells := 0, slots := 0, locals := 0 }
abbrev w_J3_checkIndex_8e157 : List Cond := Cond.code yJ3_checkIndex_8e157 cJ3_checkIndex_8e157 3 (Option.some FieldType.int) :: lwG
theorem yd_J3_checkIndex_8e157 : yJ3_checkIndex_8e157.cls ≠ "java/lang/invoke/MethodHandle" ∧ yJ3_checkIndex_8e157.cls ≠ "java/lang/invoke/VarHandle" ∧ (parseMethodDescriptor yJ3_checkIndex_8e157.desc).map (fun d => d.parameters.length) = some 3 := by decide +kernel
set_option maxHeartbeats 4000000 in
set_option maxRecDepth 100000 in
theorem c_J3_checkIndex_8e157_n (l : Launch) (D : va_G) (kA ρ : Nat → Nat) (HB : Heap) (S : HSt) (a0 : Int32) (a1 : Int32) (res : Int32 × HSt) (h : f_J3_checkIndex_8e157 S a0 a1 = some res) : Met l yJ3_checkIndex_8e157 w_J3_checkIndex_8e157 rm_J3_checkIndex_8e157 (hPc D kA ρ HB S [.int a0, .int a1, .null]) (hQi D kA HB S res) 0 0 (hFree HB) := by
  refine Met.ofW (cc := cJ3_checkIndex_8e157) (maxL := 3) (ret := (Option.some FieldType.int)) (by decide) rfl ?_
  intro p e s m args below meth c s₁ B hml hv
  obtain ⟨rfl, hE, h0⟩ := hv
  have hx := B.exec
  have hb := B.bytes
  have hr := B.returns
  have hts0 := atoms_spec (ws := w_J3_checkIndex_8e157) B.pre
  have hts : ∀ w ∈ lwG, w.before _ s = true := fun w hw => hts0 w (List.mem_cons_of_mem _ hw)
  have hown : s.vm.findClass RJ3 = some m.cls := findClass_of_methodNamed B.named
  have hlocks := B.notSynchronized
  have hI : hqX D kA HB S.2 S s.heap [] := ⟨h0, Nat.le_refl _, fun _ q => absurd q List.not_mem_nil⟩
  have hl := lv_entry ([.int a0, .int a1, .null]) (n := 3) (Nat.le_of_ble_eq_true rfl)
  rw [lg_entry_eq]
  generalize (lg_sl ([.int a0, .int a1, .null]) ++ List.replicate (3 - (lg_sl ([.int a0, .int a1, .null])).length) Slot.unset).toArray = ls at hl ⊢
  have hl : lv_has ls 3 [(0, .int a0), (1, .int a1), (2, .null)] := hl
  unfold f_J3_checkIndex_8e157 at h
  refine lv_iload_n hx hb dJ3_checkIndex_8e157_0 rfl (lv_at hl 0 rfl) ?_
  refine lv_if_lt (tgt := 9) hx hb dJ3_checkIndex_8e157_1 (by decide) (fun c1 => ?_) (fun c1 => ?_)
  · have h := hq_t h c1
    refine lv_aload_nN hx hb dJ3_checkIndex_8e157_9 rfl (lv_at hl 2 rfl) ?_
    refine lv_iload_n hx hb dJ3_checkIndex_8e157_10 rfl (lv_at hl 0 rfl) ?_
    refine lv_iload_n hx hb dJ3_checkIndex_8e157_11 rfl (lv_at hl 1 rfl) ?_
    cases h
  · have h := hq_f h c1
    refine lv_iload_n hx hb dJ3_checkIndex_8e157_4 rfl (lv_at hl 0 rfl) ?_
    refine lv_iload_n hx hb dJ3_checkIndex_8e157_5 rfl (lv_at hl 1 rfl) ?_
    refine lv_icmp_lt (tgt := 16) hx hb dJ3_checkIndex_8e157_6 (by decide) (fun c2 => ?_) (fun c2 => ?_)
    · have h := hq_t h c2
      refine lv_iload_n hx hb dJ3_checkIndex_8e157_16 rfl (lv_at hl 0 rfl) ?_
      exact hq_iret hx hb hr hlocks h0 hI h dJ3_checkIndex_8e157_17
    · have h := hq_f h c2
      refine lv_aload_nN hx hb dJ3_checkIndex_8e157_9 rfl (lv_at hl 2 rfl) ?_
      refine lv_iload_n hx hb dJ3_checkIndex_8e157_10 rfl (lv_at hl 0 rfl) ?_
      refine lv_iload_n hx hb dJ3_checkIndex_8e157_11 rfl (lv_at hl 1 rfl) ?_
      cases h
set_option maxHeartbeats 4000000 in
set_option maxRecDepth 100000 in
theorem c_J3_checkIndex_8e157_a (l : Launch) (D : va_G) (kA ρ : Nat → Nat) (HB : Heap) (S : HSt) (a0 : Int32) (a1 : Int32) (a2 : Nat) (res : Int32 × HSt) (h : f_J3_checkIndex_8e157 S a0 a1 = some res) : Met l yJ3_checkIndex_8e157 w_J3_checkIndex_8e157 rm_J3_checkIndex_8e157 (hPc D kA ρ HB S [.int a0, .int a1, .ref a2]) (hQi D kA HB S res) 0 0 (hFree HB) := by
  refine Met.ofW (cc := cJ3_checkIndex_8e157) (maxL := 3) (ret := (Option.some FieldType.int)) (by decide) rfl ?_
  intro p e s m args below meth c s₁ B hml hv
  obtain ⟨rfl, hE, h0⟩ := hv
  have hx := B.exec
  have hb := B.bytes
  have hr := B.returns
  have hts0 := atoms_spec (ws := w_J3_checkIndex_8e157) B.pre
  have hts : ∀ w ∈ lwG, w.before _ s = true := fun w hw => hts0 w (List.mem_cons_of_mem _ hw)
  have hown : s.vm.findClass RJ3 = some m.cls := findClass_of_methodNamed B.named
  have hlocks := B.notSynchronized
  have hI : hqX D kA HB S.2 S s.heap [] := ⟨h0, Nat.le_refl _, fun _ q => absurd q List.not_mem_nil⟩
  have hl := lv_entry ([.int a0, .int a1, .ref a2]) (n := 3) (Nat.le_of_ble_eq_true rfl)
  rw [lg_entry_eq]
  generalize (lg_sl ([.int a0, .int a1, .ref a2]) ++ List.replicate (3 - (lg_sl ([.int a0, .int a1, .ref a2])).length) Slot.unset).toArray = ls at hl ⊢
  have hl : lv_has ls 3 [(0, .int a0), (1, .int a1), (2, .ref a2)] := hl
  unfold f_J3_checkIndex_8e157 at h
  refine lv_iload_n hx hb dJ3_checkIndex_8e157_0 rfl (lv_at hl 0 rfl) ?_
  refine lv_if_lt (tgt := 9) hx hb dJ3_checkIndex_8e157_1 (by decide) (fun c1 => ?_) (fun c1 => ?_)
  · have h := hq_t h c1
    refine lv_aload_n hx hb dJ3_checkIndex_8e157_9 rfl (lv_at hl 2 rfl) ?_
    refine lv_iload_n hx hb dJ3_checkIndex_8e157_10 rfl (lv_at hl 0 rfl) ?_
    refine lv_iload_n hx hb dJ3_checkIndex_8e157_11 rfl (lv_at hl 1 rfl) ?_
    cases h
  · have h := hq_f h c1
    refine lv_iload_n hx hb dJ3_checkIndex_8e157_4 rfl (lv_at hl 0 rfl) ?_
    refine lv_iload_n hx hb dJ3_checkIndex_8e157_5 rfl (lv_at hl 1 rfl) ?_
    refine lv_icmp_lt (tgt := 16) hx hb dJ3_checkIndex_8e157_6 (by decide) (fun c2 => ?_) (fun c2 => ?_)
    · have h := hq_t h c2
      refine lv_iload_n hx hb dJ3_checkIndex_8e157_16 rfl (lv_at hl 0 rfl) ?_
      exact hq_iret hx hb hr hlocks h0 hI h dJ3_checkIndex_8e157_17
    · have h := hq_f h c2
      refine lv_aload_n hx hb dJ3_checkIndex_8e157_9 rfl (lv_at hl 2 rfl) ?_
      refine lv_iload_n hx hb dJ3_checkIndex_8e157_10 rfl (lv_at hl 0 rfl) ?_
      refine lv_iload_n hx hb dJ3_checkIndex_8e157_11 rfl (lv_at hl 1 rfl) ?_
      cases h
theorem c_J3_checkIndex_8e157 (l : Launch) (D : va_G) (kA ρ : Nat → Nat) (HB : Heap) (S : HSt) (a0 : Int32) (a1 : Int32) (a2 : Option Nat) (res : Int32 × HSt) (h : f_J3_checkIndex_8e157 S a0 a1 = some res) : Met l yJ3_checkIndex_8e157 w_J3_checkIndex_8e157 rm_J3_checkIndex_8e157 (hPc D kA ρ HB S [.int a0, .int a1, va_rf a2]) (hQi D kA HB S res) 0 0 (hFree HB) := by
  cases a2 with
  | none => exact c_J3_checkIndex_8e157_n l D kA ρ HB S a0 a1 res h
  | some a2 => exact c_J3_checkIndex_8e157_a l D kA ρ HB S a0 a1 a2 res h
-- java/lang/String.checkIndex(II)V
theorem dJ0_checkIndex_df160_0 : decode cJ0_checkIndex_df160 0 = .ok (.iload_n 0, 1) := by decide +kernel
theorem dJ0_checkIndex_df160_1 : decode cJ0_checkIndex_df160 1 = .ok (.iload_n 1, 1) := by decide +kernel
theorem dJ0_checkIndex_df160_2 : decode cJ0_checkIndex_df160 2 = .ok (.getstatic 1053, 3) := by decide +kernel
theorem dJ0_checkIndex_df160_5 : decode cJ0_checkIndex_df160 5 = .ok (.invokestatic 1059, 3) := by decide +kernel
theorem dJ0_checkIndex_df160_8 : decode cJ0_checkIndex_df160 8 = .ok (.pop, 1) := by decide +kernel
theorem dJ0_checkIndex_df160_9 : decode cJ0_checkIndex_df160 9 = .ok (.return_, 1) := by decide +kernel
def f_J0_checkIndex_df160 (S : HSt) (a0 : Int32) (a1 : Int32) : Option (HSt) := bd2 (f_J3_checkIndex_8e157 S a0 a1) fun v4 S3 => some S3
abbrev rm_J0_checkIndex_df160 : Room := { frames := 1, cells := 0, slots := 0, locals := 22 }
abbrev w_J0_checkIndex_df160 : List Cond := Cond.code yJ0_checkIndex_df160 cJ0_checkIndex_df160 2 none :: lwG
theorem yd_J0_checkIndex_df160 : yJ0_checkIndex_df160.cls ≠ "java/lang/invoke/MethodHandle" ∧ yJ0_checkIndex_df160.cls ≠ "java/lang/invoke/VarHandle" ∧ (parseMethodDescriptor yJ0_checkIndex_df160.desc).map (fun d => d.parameters.length) = some 2 := by decide +kernel
set_option maxHeartbeats 4000000 in
set_option maxRecDepth 100000 in
theorem c_J0_checkIndex_df160 (l : Launch) (D : va_G) (kA ρ : Nat → Nat) (HB : Heap) (S : HSt) (a0 : Int32) (a1 : Int32) (res : HSt) (h : f_J0_checkIndex_df160 S a0 a1 = some res) : Met l yJ0_checkIndex_df160 w_J0_checkIndex_df160 rm_J0_checkIndex_df160 (hPc D kA ρ HB S [.int a0, .int a1]) (hQv D kA HB S res) 0 0 (hFree HB) := by
  refine Met.ofW (cc := cJ0_checkIndex_df160) (maxL := 2) (ret := none) (by decide) rfl ?_
  intro p e s m args below meth c s₁ B hml hv
  obtain ⟨rfl, hE, h0⟩ := hv
  have hx := B.exec
  have hb := B.bytes
  have hr := B.returns
  have hts0 := atoms_spec (ws := w_J0_checkIndex_df160) B.pre
  have hts : ∀ w ∈ lwG, w.before _ s = true := fun w hw => hts0 w (List.mem_cons_of_mem _ hw)
  have hown : s.vm.findClass RJ0 = some m.cls := findClass_of_methodNamed B.named
  have hlocks := B.notSynchronized
  have hI : hqX D kA HB S.2 S s.heap [] := ⟨h0, Nat.le_refl _, fun _ q => absurd q List.not_mem_nil⟩
  have hl := lv_entry ([.int a0, .int a1]) (n := 2) (Nat.le_of_ble_eq_true rfl)
  rw [lg_entry_eq]
  generalize (lg_sl ([.int a0, .int a1]) ++ List.replicate (2 - (lg_sl ([.int a0, .int a1])).length) Slot.unset).toArray = ls at hl ⊢
  have hl : lv_has ls 2 [(0, .int a0), (1, .int a1)] := hl
  unfold f_J0_checkIndex_df160 at h
  refine lv_iload_n hx hb dJ0_checkIndex_df160_0 rfl (lv_at hl 0 rfl) ?_
  refine lv_iload_n hx hb dJ0_checkIndex_df160_1 rfl (lv_at hl 1 rfl) ?_
  obtain ⟨q1, hq_q1⟩ := hq_zq hE.2.2.2.2.2.2.2.1
  refine va_gets hx hb (hq_q1.kept (hFree.kept h0)) (hI.S h0) hown (hts _ kw_435) (fun _ h9 => h9) dJ0_checkIndex_df160_2 ?_
  obtain ⟨v4, S3, g2, h⟩ := hq_bd2 h
  refine hq_calli hI (va_runS (As := [.int a0, .int a1, va_rf q1]) (rest := []) ⟨hx, hb, hml, hown, hts⟩ (c_J3_checkIndex_8e157 l D kA ρ HB S a0 a1 q1 _ g2) (va_cwS 3 hts (gdIn (List.forall_mem_cons.mpr ⟨kw_437, (List.forall_mem_cons.mpr ⟨kw_438, (List.forall_mem_cons.mpr ⟨kw_17, (fun _ h => absurd h List.not_mem_nil)⟩)⟩)⟩) kw_439) rfl rfl rfl yd_J3_checkIndex_8e157 ⟨Nat.le_of_ble_eq_true rfl, Nat.le_of_ble_eq_true rfl⟩) (hq_preS hE hI _) rfl rfl hl.1 rfl (lv_room (Nat.le_of_ble_eq_true rfl)) dJ0_checkIndex_df160_5 ⟨Nat.le_of_ble_eq_true rfl, Nat.le_of_ble_eq_true rfl⟩) (fun H locs hI => ?_)
  refine lv_pop hx hb dJ0_checkIndex_df160_8 rfl ?_
  exact hq_vret hx hb hr hlocks h0 hI h dJ0_checkIndex_df160_9
-- java/lang/StringLatin1.charAt([BI)C
theorem dJ1_charAt_3b067_0 : decode cJ1_charAt_3b067 0 = .ok (.iload_n 1, 1) := by decide +kernel
theorem dJ1_charAt_3b067_1 : decode cJ1_charAt_3b067 1 = .ok (.aload_n 0, 1) := by decide +kernel
theorem dJ1_charAt_3b067_2 : decode cJ1_charAt_3b067 2 = .ok (.arraylength, 1) := by decide +kernel
theorem dJ1_charAt_3b067_3 : decode cJ1_charAt_3b067 3 = .ok (.invokestatic 9, 3) := by decide +kernel
theorem dJ1_charAt_3b067_6 : decode cJ1_charAt_3b067 6 = .ok (.aload_n 0, 1) := by decide +kernel
theorem dJ1_charAt_3b067_7 : decode cJ1_charAt_3b067 7 = .ok (.iload_n 1, 1) := by decide +kernel
theorem dJ1_charAt_3b067_8 : decode cJ1_charAt_3b067 8 = .ok (.baload, 1) := by decide +kernel
theorem dJ1_charAt_3b067_9 : decode cJ1_charAt_3b067 9 = .ok (.sipush 255, 3) := by decide +kernel
theorem dJ1_charAt_3b067_12 : decode cJ1_charAt_3b067 12 = .ok (.iand, 1) := by decide +kernel
theorem dJ1_charAt_3b067_13 : decode cJ1_charAt_3b067 13 = .ok (.i2c, 1) := by decide +kernel
theorem dJ1_charAt_3b067_14 : decode cJ1_charAt_3b067 14 = .ok (.ireturn, 1) := by decide +kernel
def f_J1_charAt_3b067 (ρ : Nat → Nat) (S : HSt) (a0 : Nat) (a1 : Int32) : Option (Int32 × HSt) := (tN ρ a0).bind fun v1 => (f_J0_checkIndex_df160 S a1 v1).bind fun S4 => (tB ρ a0 a1).bind fun v5 => if (Int32.toUInt32 ((Int32.toUInt32 (v5 &&& 255) % 65536).toInt32) % 65536).toInt32 = ((Int32.toUInt32 (v5 &&& 255) % 65536).toInt32) then (some ((Int32.toUInt32 (v5 &&& 255) % 65536).toInt32, S4)) else none
abbrev rm_J1_charAt_3b067 : Room := { frames := 2, cells := 0, slots := 0, locals := 43 }
abbrev w_J1_charAt_3b067 : List Cond := Cond.code yJ1_charAt_3b067 cJ1_charAt_3b067 2 (Option.some FieldType.char) :: lwG
theorem yd_J1_charAt_3b067 : yJ1_charAt_3b067.cls ≠ "java/lang/invoke/MethodHandle" ∧ yJ1_charAt_3b067.cls ≠ "java/lang/invoke/VarHandle" ∧ (parseMethodDescriptor yJ1_charAt_3b067.desc).map (fun d => d.parameters.length) = some 2 := by decide +kernel
set_option maxHeartbeats 4000000 in
set_option maxRecDepth 100000 in
theorem c_J1_charAt_3b067 (l : Launch) (D : va_G) (kA ρ : Nat → Nat) (HB : Heap) (S : HSt) (a0 : Nat) (a1 : Int32) (res : Int32 × HSt) (h : f_J1_charAt_3b067 ρ S a0 a1 = some res) : Met l yJ1_charAt_3b067 w_J1_charAt_3b067 rm_J1_charAt_3b067 (hPc D kA ρ HB S [.ref a0, .int a1]) (hQi D kA HB S res) 0 0 (hFree HB) := by
  refine Met.ofW (cc := cJ1_charAt_3b067) (maxL := 2) (ret := (Option.some FieldType.char)) (by decide) rfl ?_
  intro p e s m args below meth c s₁ B hml hv
  obtain ⟨rfl, hE, h0⟩ := hv
  have hx := B.exec
  have hb := B.bytes
  have hr := B.returns
  have hts0 := atoms_spec (ws := w_J1_charAt_3b067) B.pre
  have hts : ∀ w ∈ lwG, w.before _ s = true := fun w hw => hts0 w (List.mem_cons_of_mem _ hw)
  have hown : s.vm.findClass RJ1 = some m.cls := findClass_of_methodNamed B.named
  have hlocks := B.notSynchronized
  have hI : hqX D kA HB S.2 S s.heap [] := ⟨h0, Nat.le_refl _, fun _ q => absurd q List.not_mem_nil⟩
  have hl := lv_entry ([.ref a0, .int a1]) (n := 2) (Nat.le_of_ble_eq_true rfl)
  rw [lg_entry_eq]
  generalize (lg_sl ([.ref a0, .int a1]) ++ List.replicate (2 - (lg_sl ([.ref a0, .int a1])).length) Slot.unset).toArray = ls at hl ⊢
  have hl : lv_has ls 2 [(0, .ref a0), (1, .int a1)] := hl
  unfold f_J1_charAt_3b067 at h
  refine lv_iload_n hx hb dJ1_charAt_3b067_0 rfl (lv_at hl 1 rfl) ?_
  refine lv_aload_n hx hb dJ1_charAt_3b067_1 rfl (lv_at hl 0 rfl) ?_
  obtain ⟨v1, g2, h⟩ := hq_bind h
  refine hq_strn hx hb hE h0 hI g2 dJ1_charAt_3b067_2 ?_
  obtain ⟨S4, g3, h⟩ := hq_bind h
  refine hq_callv hI (va_runS (As := [.int a1, .int v1]) (rest := []) ⟨hx, hb, hml, hown, hts⟩ (c_J0_checkIndex_df160 l D kA ρ HB S a1 v1 _ g3) (va_cwS 2 hts (gdIn (List.forall_mem_cons.mpr ⟨kw_432, (List.forall_mem_cons.mpr ⟨kw_433, (List.forall_mem_cons.mpr ⟨kw_15, (fun _ h => absurd h List.not_mem_nil)⟩)⟩)⟩) kw_434) rfl rfl rfl yd_J0_checkIndex_df160 ⟨Nat.le_of_ble_eq_true rfl, Nat.le_of_ble_eq_true rfl⟩) (hq_preS hE hI _) rfl rfl hl.1 rfl (lv_room (Nat.le_of_ble_eq_true rfl)) dJ1_charAt_3b067_3 ⟨Nat.le_of_ble_eq_true rfl, Nat.le_of_ble_eq_true rfl⟩) (fun H locs hI => ?_)
  refine lv_aload_n hx hb dJ1_charAt_3b067_6 rfl (lv_at hl 0 rfl) ?_
  refine lv_iload_n hx hb dJ1_charAt_3b067_7 rfl (lv_at hl 1 rfl) ?_
  obtain ⟨v5, g6, h⟩ := hq_bind h
  refine hq_strb hx hb hE h0 hI g6 dJ1_charAt_3b067_8 ?_
  refine lv_sipush (v := 255) hx hb dJ1_charAt_3b067_9 (by decide) ?_
  refine lv_iand hx hb dJ1_charAt_3b067_12 ?_
  refine lv_i2c (v := (Int32.toUInt32 (v5 &&& 255) % 65536).toInt32) hx hb dJ1_charAt_3b067_13 rfl ?_
  obtain ⟨c7, h⟩ := hq_g h
  exact hq_cret hx hb hr hlocks h0 hI c7 h dJ1_charAt_3b067_14
-- java/lang/String.charAt(I)C
theorem dJ0_charAt_5068e_0 : decode cJ0_charAt_5068e 0 = .ok (.aload_n 0, 1) := by decide +kernel
theorem dJ0_charAt_5068e_1 : decode cJ0_charAt_5068e 1 = .ok (.invokevirtual 492, 3) := by decide +kernel
theorem dJ0_charAt_5068e_4 : decode cJ0_charAt_5068e 4 = .ok (.ifCond .eq 12, 3) := by decide +kernel
theorem dJ0_charAt_5068e_7 : decode cJ0_charAt_5068e 7 = .ok (.aload_n 0, 1) := by decide +kernel
theorem dJ0_charAt_5068e_8 : decode cJ0_charAt_5068e 8 = .ok (.getfield 9, 3) := by decide +kernel
theorem dJ0_charAt_5068e_11 : decode cJ0_charAt_5068e 11 = .ok (.iload_n 1, 1) := by decide +kernel
theorem dJ0_charAt_5068e_12 : decode cJ0_charAt_5068e 12 = .ok (.invokestatic 495, 3) := by decide +kernel
theorem dJ0_charAt_5068e_15 : decode cJ0_charAt_5068e 15 = .ok (.ireturn, 1) := by decide +kernel
theorem dJ0_charAt_5068e_16 : decode cJ0_charAt_5068e 16 = .ok (.aload_n 0, 1) := by decide +kernel
theorem dJ0_charAt_5068e_17 : decode cJ0_charAt_5068e 17 = .ok (.getfield 9, 3) := by decide +kernel
theorem dJ0_charAt_5068e_20 : decode cJ0_charAt_5068e 20 = .ok (.iload_n 1, 1) := by decide +kernel
theorem dJ0_charAt_5068e_21 : decode cJ0_charAt_5068e 21 = .ok (.invokestatic 498, 3) := by decide +kernel
theorem dJ0_charAt_5068e_24 : decode cJ0_charAt_5068e 24 = .ok (.ireturn, 1) := by decide +kernel
def f_J0_charAt_5068e (ρ : Nat → Nat) (S : HSt) (a0 : Nat) (a1 : Int32) : Option (Int32 × HSt) := if (sX ρ a0).isSome = true then (bd2 (f_J0_isLatin1_aae02 ρ S a0) fun v4 S3 => if v4 = 0 then ((sV ρ a0).bind fun w7 => none) else ((sV ρ a0).bind fun w9 => bd2 (f_J1_charAt_3b067 ρ S3 w9 a1) fun v12 S11 => if (Int32.toUInt32 v12 % 65536).toInt32 = v12 then (some (v12, S11)) else none)) else none
abbrev rm_J0_charAt_5068e : Room := { frames := 3, cells := 0, slots := 0, locals := 64 }
abbrev w_J0_charAt_5068e : List Cond := Cond.code yJ0_charAt_5068e cJ0_charAt_5068e 2 (Option.some FieldType.char) :: lwG
theorem yd_J0_charAt_5068e : yJ0_charAt_5068e.cls ≠ "java/lang/invoke/MethodHandle" ∧ yJ0_charAt_5068e.cls ≠ "java/lang/invoke/VarHandle" ∧ (parseMethodDescriptor yJ0_charAt_5068e.desc).map (fun d => d.parameters.length) = some 1 := by decide +kernel
theorem ye_J0_charAt_5068e : yJ0_charAt_5068e.cls = RJ0 ∧ yJ0_charAt_5068e.cls ≠ "java/lang/invoke/MethodHandle" ∧ yJ0_charAt_5068e.cls ≠ "java/lang/invoke/VarHandle" ∧ (parseMethodDescriptor yJ0_charAt_5068e.desc).map (fun d => d.parameters.length) = some 1 := by decide +kernel
set_option maxHeartbeats 4000000 in
set_option maxRecDepth 100000 in
theorem c_J0_charAt_5068e (l : Launch) (D : va_G) (kA ρ : Nat → Nat) (HB : Heap) (S : HSt) (a0 : Nat) (a1 : Int32) (res : Int32 × HSt) (h : f_J0_charAt_5068e ρ S a0 a1 = some res) : Met l yJ0_charAt_5068e w_J0_charAt_5068e rm_J0_charAt_5068e (hPc D kA ρ HB S [.ref a0, .int a1]) (hQi D kA HB S res) 0 0 (hFree HB) := by
  refine Met.ofW (cc := cJ0_charAt_5068e) (maxL := 2) (ret := (Option.some FieldType.char)) (by decide) rfl ?_
  intro p e s m args below meth c s₁ B hml hv
  obtain ⟨rfl, hE, h0⟩ := hv
  have hx := B.exec
  have hb := B.bytes
  have hr := B.returns
  have hts0 := atoms_spec (ws := w_J0_charAt_5068e) B.pre
  have hts : ∀ w ∈ lwG, w.before _ s = true := fun w hw => hts0 w (List.mem_cons_of_mem _ hw)
  have hown : s.vm.findClass RJ0 = some m.cls := findClass_of_methodNamed B.named
  have hlocks := B.notSynchronized
  have hI : hqX D kA HB S.2 S s.heap [] := ⟨h0, Nat.le_refl _, fun _ q => absurd q List.not_mem_nil⟩
  have hl := lv_entry ([.ref a0, .int a1]) (n := 2) (Nat.le_of_ble_eq_true rfl)
  rw [lg_entry_eq]
  generalize (lg_sl ([.ref a0, .int a1]) ++ List.replicate (2 - (lg_sl ([.ref a0, .int a1])).length) Slot.unset).toArray = ls at hl ⊢
  have hl : lv_has ls 2 [(0, .ref a0), (1, .int a1)] := hl
  unfold f_J0_charAt_5068e at h
  refine lv_aload_n hx hb dJ0_charAt_5068e_0 rfl (lv_at hl 0 rfl) ?_
  obtain ⟨g2, h⟩ := hq_g h
  obtain ⟨v4, S3, g1, h⟩ := hq_bd2 h
  refine hq_calli hI (va_runV (As := []) (rest := []) ⟨hx, hb, hml, hown, hts⟩ (c_J0_isLatin1_aae02 l D kA ρ HB S a0 _ g1) (cwV 0 hts (gdIn (List.forall_mem_cons.mpr ⟨kw_425, (List.forall_mem_cons.mpr ⟨kw_426, (List.forall_mem_cons.mpr ⟨kw_427, (List.forall_mem_cons.mpr ⟨kw_15, (fun _ h => absurd h List.not_mem_nil)⟩)⟩)⟩)⟩) kw_428) rfl rfl rfl ye_J0_isLatin1_aae02 ⟨Nat.le_of_ble_eq_true rfl, Nat.le_of_ble_eq_true rfl⟩) (hq_preT hE h0 hI g2 _) rfl rfl hl.1 rfl (lv_room (Nat.le_of_ble_eq_true rfl)) dJ0_charAt_5068e_1 ⟨Nat.le_of_ble_eq_true rfl, Nat.le_of_ble_eq_true rfl⟩) (fun H locs hI => ?_)
  refine lv_if_eq (tgt := 16) hx hb dJ0_charAt_5068e_4 (by decide) (fun c5 => ?_) (fun c5 => ?_)
  · have h := hq_t h c5
    refine lv_aload_n hx hb dJ0_charAt_5068e_16 rfl (lv_at hl 0 rfl) ?_
    obtain ⟨w7, g6, h⟩ := hq_bind h
    refine hq_strv hx hb hts hown hE h0 hI g6 kw_1380 dJ0_charAt_5068e_17 ?_
    refine lv_iload_n hx hb dJ0_charAt_5068e_20 rfl (lv_at hl 1 rfl) ?_
    cases h
  · have h := hq_f h c5
    refine lv_aload_n hx hb dJ0_charAt_5068e_7 rfl (lv_at hl 0 rfl) ?_
    obtain ⟨w9, g8, h⟩ := hq_bind h
    refine hq_strv hx hb hts hown hE h0 hI g8 kw_1380 dJ0_charAt_5068e_8 ?_
    refine lv_iload_n hx hb dJ0_charAt_5068e_11 rfl (lv_at hl 1 rfl) ?_
    obtain ⟨v12, S11, g10, h⟩ := hq_bd2 h
    refine hq_calli hI (va_runS (As := [.ref w9, .int a1]) (rest := []) ⟨hx, hb, hml, hown, hts⟩ (c_J1_charAt_3b067 l D kA ρ HB S3 w9 a1 _ g10) (va_cwS 2 hts (gdIn (List.forall_mem_cons.mpr ⟨kw_429, (List.forall_mem_cons.mpr ⟨kw_430, (List.forall_mem_cons.mpr ⟨kw_16, (fun _ h => absurd h List.not_mem_nil)⟩)⟩)⟩) kw_431) rfl rfl rfl yd_J1_charAt_3b067 ⟨Nat.le_of_ble_eq_true rfl, Nat.le_of_ble_eq_true rfl⟩) (hq_preS hE hI _) rfl rfl hl.1 rfl (lv_room (Nat.le_of_ble_eq_true rfl)) dJ0_charAt_5068e_12 ⟨Nat.le_of_ble_eq_true rfl, Nat.le_of_ble_eq_true rfl⟩) (fun H locs hI => ?_)
    obtain ⟨c13, h⟩ := hq_g h
    exact hq_cret hx hb hr hlocks h0 hI c13 h dJ0_charAt_5068e_15
-- java/lang/StringLatin1.canEncode(I)Z
theorem dJ1_canEncode_9a6ad_0 : decode cJ1_canEncode_9a6ad 0 = .ok (.iload_n 0, 1) := by decide +kernel
theorem dJ1_canEncode_9a6ad_1 : decode cJ1_canEncode_9a6ad 1 = .ok (.ifCond .lt 14, 3) := by decide +kernel
theorem dJ1_canEncode_9a6ad_4 : decode cJ1_canEncode_9a6ad 4 = .ok (.iload_n 0, 1) := by decide +kernel
theorem dJ1_canEncode_9a6ad_5 : decode cJ1_canEncode_9a6ad 5 = .ok (.sipush 255, 3) := by decide +kernel
theorem dJ1_canEncode_9a6ad_8 : decode cJ1_canEncode_9a6ad 8 = .ok (.if_icmp .gt 7, 3) := by decide +kernel
theorem dJ1_canEncode_9a6ad_11 : decode cJ1_canEncode_9a6ad 11 = .ok (.iconst 1, 1) := by decide +kernel
theorem dJ1_canEncode_9a6ad_12 : decode cJ1_canEncode_9a6ad 12 = .ok (.goto 4, 3) := by decide +kernel
theorem dJ1_canEncode_9a6ad_15 : decode cJ1_canEncode_9a6ad 15 = .ok (.iconst 0, 1) := by decide +kernel
theorem dJ1_canEncode_9a6ad_16 : decode cJ1_canEncode_9a6ad 16 = .ok (.ireturn, 1) := by decide +kernel
def f_J1_canEncode_9a6ad (S : HSt) (a0 : Int32) : Option (Int32 × HSt) := if a0 < 0 then (some (0, S)) else (if 255 < a0 then (some (0, S)) else (some (1, S)))
abbrev rm_J1_canEncode_9a6ad : Room := { frames := 0, cells := 0, slots := 0, locals := 0 }
abbrev w_J1_canEncode_9a6ad : List Cond := Cond.code yJ1_canEncode_9a6ad cJ1_canEncode_9a6ad 1 (Option.some FieldType.boolean) :: lwG
theorem yd_J1_canEncode_9a6ad : yJ1_canEncode_9a6ad.cls ≠ "java/lang/invoke/MethodHandle" ∧ yJ1_canEncode_9a6ad.cls ≠ "java/lang/invoke/VarHandle" ∧ (parseMethodDescriptor yJ1_canEncode_9a6ad.desc).map (fun d => d.parameters.length) = some 1 := by decide +kernel
set_option maxHeartbeats 4000000 in
set_option maxRecDepth 100000 in
theorem c_J1_canEncode_9a6ad (l : Launch) (D : va_G) (kA ρ : Nat → Nat) (HB : Heap) (S : HSt) (a0 : Int32) (res : Int32 × HSt) (h : f_J1_canEncode_9a6ad S a0 = some res) : Met l yJ1_canEncode_9a6ad w_J1_canEncode_9a6ad rm_J1_canEncode_9a6ad (hPc D kA ρ HB S [.int a0]) (hQi D kA HB S res) 0 0 (hFree HB) := by
  refine Met.ofW (cc := cJ1_canEncode_9a6ad) (maxL := 1) (ret := (Option.some FieldType.boolean)) (by decide) rfl ?_
  intro p e s m args below meth c s₁ B hml hv
  obtain ⟨rfl, hE, h0⟩ := hv
  have hx := B.exec
  have hb := B.bytes
  have hr := B.returns
  have hts0 := atoms_spec (ws := w_J1_canEncode_9a6ad) B.pre
  have hts : ∀ w ∈ lwG, w.before _ s = true := fun w hw => hts0 w (List.mem_cons_of_mem _ hw)
  have hown : s.vm.findClass RJ1 = some m.cls := findClass_of_methodNamed B.named
  have hlocks := B.notSynchronized
  have hI : hqX D kA HB S.2 S s.heap [] := ⟨h0, Nat.le_refl _, fun _ q => absurd q List.not_mem_nil⟩
  have hl := lv_entry ([.int a0]) (n := 1) (Nat.le_of_ble_eq_true rfl)
  rw [lg_entry_eq]
  generalize (lg_sl ([.int a0]) ++ List.replicate (1 - (lg_sl ([.int a0])).length) Slot.unset).toArray = ls at hl ⊢
  have hl : lv_has ls 1 [(0, .int a0)] := hl
  unfold f_J1_canEncode_9a6ad at h
  refine lv_iload_n hx hb dJ1_canEncode_9a6ad_0 rfl (lv_at hl 0 rfl) ?_
  refine lv_if_lt (tgt := 15) hx hb dJ1_canEncode_9a6ad_1 (by decide) (fun c1 => ?_) (fun c1 => ?_)
  · have h := hq_t h c1
    refine lv_iconst (v := 0) hx hb dJ1_canEncode_9a6ad_15 (by decide) ?_
    exact hq_zret hx hb hr hlocks h0 hI (by decide) h dJ1_canEncode_9a6ad_16
  · have h := hq_f h c1
    refine lv_iload_n hx hb dJ1_canEncode_9a6ad_4 rfl (lv_at hl 0 rfl) ?_
    refine lv_sipush (v := 255) hx hb dJ1_canEncode_9a6ad_5 (by decide) ?_
    refine lv_icmp_gt (tgt := 15) hx hb dJ1_canEncode_9a6ad_8 (by decide) (fun c2 => ?_) (fun c2 => ?_)
    · have h := hq_t h c2
      refine lv_iconst (v := 0) hx hb dJ1_canEncode_9a6ad_15 (by decide) ?_
      exact hq_zret hx hb hr hlocks h0 hI (by decide) h dJ1_canEncode_9a6ad_16
    · have h := hq_f h c2
      refine lv_iconst (v := 1) hx hb dJ1_canEncode_9a6ad_11 (by decide) ?_
      refine lv_goto (tgt := 16) hx hb dJ1_canEncode_9a6ad_12 (by decide) ?_
      exact hq_zret hx hb hr hlocks h0 hI (by decide) h dJ1_canEncode_9a6ad_16
-- java/lang/StringLatin1.indexOfChar([BIII)I
theorem dJ1_indexOfChar_4cfef_0 : decode cJ1_indexOfChar_4cfef 0 = .ok (.iload_n 1, 1) := by decide +kernel
theorem dJ1_indexOfChar_4cfef_1 : decode cJ1_indexOfChar_4cfef 1 = .ok (.i2b, 1) := by decide +kernel
theorem dJ1_indexOfChar_4cfef_2 : decode cJ1_indexOfChar_4cfef 2 = .ok (.istore 4, 2) := by decide +kernel
theorem dJ1_indexOfChar_4cfef_4 : decode cJ1_indexOfChar_4cfef 4 = .ok (.iload_n 2, 1) := by decide +kernel
theorem dJ1_indexOfChar_4cfef_5 : decode cJ1_indexOfChar_4cfef 5 = .ok (.istore 5, 2) := by decide +kernel
theorem dJ1_indexOfChar_4cfef_7 : decode cJ1_indexOfChar_4cfef 7 = .ok (.iload 5, 2) := by decide +kernel
theorem dJ1_indexOfChar_4cfef_9 : decode cJ1_indexOfChar_4cfef 9 = .ok (.iload_n 3, 1) := by decide +kernel
theorem dJ1_indexOfChar_4cfef_10 : decode cJ1_indexOfChar_4cfef 10 = .ok (.if_icmp .ge 21, 3) := by decide +kernel
theorem dJ1_indexOfChar_4cfef_13 : decode cJ1_indexOfChar_4cfef 13 = .ok (.aload_n 0, 1) := by decide +kernel
theorem dJ1_indexOfChar_4cfef_14 : decode cJ1_indexOfChar_4cfef 14 = .ok (.iload 5, 2) := by decide +kernel
theorem dJ1_indexOfChar_4cfef_16 : decode cJ1_indexOfChar_4cfef 16 = .ok (.baload, 1) := by decide +kernel
theorem dJ1_indexOfChar_4cfef_17 : decode cJ1_indexOfChar_4cfef 17 = .ok (.iload 4, 2) := by decide +kernel
theorem dJ1_indexOfChar_4cfef_19 : decode cJ1_indexOfChar_4cfef 19 = .ok (.if_icmp .ne 6, 3) := by decide +kernel
theorem dJ1_indexOfChar_4cfef_22 : decode cJ1_indexOfChar_4cfef 22 = .ok (.iload 5, 2) := by decide +kernel
theorem dJ1_indexOfChar_4cfef_24 : decode cJ1_indexOfChar_4cfef 24 = .ok (.ireturn, 1) := by decide +kernel
theorem dJ1_indexOfChar_4cfef_25 : decode cJ1_indexOfChar_4cfef 25 = .ok (.iinc 5 1, 3) := by decide +kernel
theorem dJ1_indexOfChar_4cfef_28 : decode cJ1_indexOfChar_4cfef 28 = .ok (.goto (-21), 3) := by decide +kernel
theorem dJ1_indexOfChar_4cfef_31 : decode cJ1_indexOfChar_4cfef 31 = .ok (.iconst (-1), 1) := by decide +kernel
theorem dJ1_indexOfChar_4cfef_32 : decode cJ1_indexOfChar_4cfef 32 = .ok (.ireturn, 1) := by decide +kernel
def f_J1_indexOfChar_4cfef_K31 (S1 : HSt) : Option (Int32 × HSt) := some ((-1), S1)
def f_J1_indexOfChar_4cfef_B7 (ρ : Nat → Nat) (a0 : Nat) (a1 : Int32) (a3 : Int32) (kx31 : (HSt → Option (Int32 × HSt))) (kb7 : (Int32 → HSt → Option (Int32 × HSt))) (x2 : Int32) (S3 : HSt) : Option (Int32 × HSt) := if a3 ≤ x2 then (kx31 S3) else ((tB ρ a0 x2).bind fun v5 => if v5 = ((Int32.toInt8 a1).toInt32) then (some (x2, S3)) else (kb7 (x2 + 1) S3))
def f_J1_indexOfChar_4cfef_L7 (ρ : Nat → Nat) (a0 : Nat) (a1 : Int32) (a3 : Int32) (kx31 : (HSt → Option (Int32 × HSt))) : Nat → Int32 → HSt → Option (Int32 × HSt)
  | 0, _, _ => none
  | n + 1, x2, S => f_J1_indexOfChar_4cfef_B7 ρ a0 a1 a3 kx31 (f_J1_indexOfChar_4cfef_L7 ρ a0 a1 a3 kx31 n) x2 S
def f_J1_indexOfChar_4cfef (ρ : Nat → Nat) (S : HSt) (a0 : Nat) (a1 : Int32) (a2 : Int32) (a3 : Int32) : Option (Int32 × HSt) := (f_J1_indexOfChar_4cfef_L7 ρ a0 a1 a3 f_J1_indexOfChar_4cfef_K31 FU) a2 S
abbrev rm_J1_indexOfChar_4cfef : Room := { frames := 0, cells := 0, slots := 0, locals := 0 }
abbrev w_J1_indexOfChar_4cfef : List Cond := Cond.code yJ1_indexOfChar_4cfef cJ1_indexOfChar_4cfef 6 (Option.some FieldType.int) :: lwG
theorem yd_J1_indexOfChar_4cfef : yJ1_indexOfChar_4cfef.cls ≠ "java/lang/invoke/MethodHandle" ∧ yJ1_indexOfChar_4cfef.cls ≠ "java/lang/invoke/VarHandle" ∧ (parseMethodDescriptor yJ1_indexOfChar_4cfef.desc).map (fun d => d.parameters.length) = some 4 := by decide +kernel
set_option maxHeartbeats 4000000 in
set_option maxRecDepth 100000 in
theorem c_J1_indexOfChar_4cfef (l : Launch) (D : va_G) (kA ρ : Nat → Nat) (HB : Heap) (S : HSt) (a0 : Nat) (a1 : Int32) (a2 : Int32) (a3 : Int32) (res : Int32 × HSt) (h : f_J1_indexOfChar_4cfef ρ S a0 a1 a2 a3 = some res) : Met l yJ1_indexOfChar_4cfef w_J1_indexOfChar_4cfef rm_J1_indexOfChar_4cfef (hPc D kA ρ HB S [.ref a0, .int a1, .int a2, .int a3]) (hQi D kA HB S res) 0 0 (hFree HB) := by
  refine Met.ofW (cc := cJ1_indexOfChar_4cfef) (maxL := 6) (ret := (Option.some FieldType.int)) (by decide) rfl ?_
  intro p e s m args below meth c s₁ B hml hv
  obtain ⟨rfl, hE, h0⟩ := hv
  have hx := B.exec
  have hb := B.bytes
  have hr := B.returns
  have hts0 := atoms_spec (ws := w_J1_indexOfChar_4cfef) B.pre
  have hts : ∀ w ∈ lwG, w.before _ s = true := fun w hw => hts0 w (List.mem_cons_of_mem _ hw)
  have hown : s.vm.findClass RJ1 = some m.cls := findClass_of_methodNamed B.named
  have hlocks := B.notSynchronized
  have hI : hqX D kA HB S.2 S s.heap [] := ⟨h0, Nat.le_refl _, fun _ q => absurd q List.not_mem_nil⟩
  have hl := lv_entry ([.ref a0, .int a1, .int a2, .int a3]) (n := 6) (Nat.le_of_ble_eq_true rfl)
  rw [lg_entry_eq]
  generalize (lg_sl ([.ref a0, .int a1, .int a2, .int a3]) ++ List.replicate (6 - (lg_sl ([.ref a0, .int a1, .int a2, .int a3])).length) Slot.unset).toArray = ls at hl ⊢
  have hl : lv_has ls 6 [(0, .ref a0), (1, .int a1), (2, .int a2), (3, .int a3)] := hl
  unfold f_J1_indexOfChar_4cfef at h
  refine lv_iload_n hx hb dJ1_indexOfChar_4cfef_0 rfl (lv_at hl 1 rfl) ?_
  refine lv_i2b (v := (Int32.toInt8 a1).toInt32) hx hb dJ1_indexOfChar_4cfef_1 rfl ?_
  refine lv_istore (lv' := [(4, .int ((Int32.toInt8 a1).toInt32)), (0, .ref a0), (1, .int a1), (2, .int a2), (3, .int a3)]) hx hb dJ1_indexOfChar_4cfef_2 hl (by decide) rfl (fun ls hl => ?_)
  refine lv_iload_n hx hb dJ1_indexOfChar_4cfef_4 rfl (lv_at hl 3 rfl) ?_
  refine lv_istore (lv' := [(5, .int a2), (4, .int ((Int32.toInt8 a1).toInt32)), (0, .ref a0), (1, .int a1), (2, .int a2), (3, .int a3)]) hx hb dJ1_indexOfChar_4cfef_5 hl (by decide) rfl (fun ls hl => ?_)
  have hK31 : ∀ (S1 : HSt) (H : Heap) (locs : List Loc) (ls : Array Slot), f_J1_indexOfChar_4cfef_K31 S1 = some res → hqX D kA HB S.2 S1 H locs → lv_has ls 6 [] → W p l e rm_J1_indexOfChar_4cfef s m ([.ref a0, .int a1, .int a2, .int a3] : List Value).toArray below meth c H locs 0 0 (MQ below (hQi D kA HB S res) ([.ref a0, .int a1, .int a2, .int a3] : List Value).toArray s 0 0 (hFree HB)) (F0 m 31 ls []) := by
    intro S1 H locs ls h hI hl
    unfold f_J1_indexOfChar_4cfef_K31 at h
    refine lv_iconst (v := (-1)) hx hb dJ1_indexOfChar_4cfef_31 (by decide) ?_
    exact hq_iret hx hb hr hlocks h0 hI h dJ1_indexOfChar_4cfef_32
  have hL7 : ∀ (n7 : Nat) (x2 : Int32) (S3 : HSt) (H : Heap) (locs : List Loc) (ls : Array Slot), (f_J1_indexOfChar_4cfef_L7 ρ a0 a1 a3 f_J1_indexOfChar_4cfef_K31 n7) x2 S3 = some res → hqX D kA HB S.2 S3 H locs → lv_has ls 6 [(0, .ref a0), (3, .int a3), (4, .int ((Int32.toInt8 a1).toInt32)), (5, .int x2)] → W p l e rm_J1_indexOfChar_4cfef s m ([.ref a0, .int a1, .int a2, .int a3] : List Value).toArray below meth c H locs 0 0 (MQ below (hQi D kA HB S res) ([.ref a0, .int a1, .int a2, .int a3] : List Value).toArray s 0 0 (hFree HB)) (F0 m 7 ls []) := by
    intro n7
    induction n7 with
    | zero =>
      intro x2 S3 H locs ls h
      have h : (none : Option (Int32 × HSt)) = some res := h
      cases h
    | succ n7 ih7 =>
      intro x2 S3 H locs ls h hI hl
      have h : f_J1_indexOfChar_4cfef_B7 ρ a0 a1 a3 f_J1_indexOfChar_4cfef_K31 (f_J1_indexOfChar_4cfef_L7 ρ a0 a1 a3 f_J1_indexOfChar_4cfef_K31 n7) x2 S3 = some res := h
      unfold f_J1_indexOfChar_4cfef_B7 at h
      refine lv_iload hx hb dJ1_indexOfChar_4cfef_7 (lv_at hl 3 rfl) ?_
      refine lv_iload_n hx hb dJ1_indexOfChar_4cfef_9 rfl (lv_at hl 1 rfl) ?_
      refine lv_icmp_ge (tgt := 31) hx hb dJ1_indexOfChar_4cfef_10 (by decide) (fun c4 => ?_) (fun c4 => ?_)
      · have h := hq_t h c4
        exact hK31 S3 _ _ _ h hI (lv_sub hl [] rfl)
      · have h := hq_f h c4
        refine lv_aload_n hx hb dJ1_indexOfChar_4cfef_13 rfl (lv_at hl 0 rfl) ?_
        refine lv_iload hx hb dJ1_indexOfChar_4cfef_14 (lv_at hl 3 rfl) ?_
        obtain ⟨v5, g6, h⟩ := hq_bind h
        refine hq_strb hx hb hE h0 hI g6 dJ1_indexOfChar_4cfef_16 ?_
        refine lv_iload hx hb dJ1_indexOfChar_4cfef_17 (lv_at hl 2 rfl) ?_
        refine lv_icmp_ne (tgt := 25) hx hb dJ1_indexOfChar_4cfef_19 (by decide) (fun c7 => ?_) (fun c7 => ?_)
        · have h := hq_f h c7
          refine lv_iinc (v := (x2 + 1)) (lv' := [(5, .int (x2 + 1)), (0, .ref a0), (3, .int a3), (4, .int ((Int32.toInt8 a1).toInt32))]) hx hb dJ1_indexOfChar_4cfef_25 hl (k := 3) rfl rfl (by decide) rfl (fun ls hl => ?_)
          refine lv_goto (tgt := 7) hx hb dJ1_indexOfChar_4cfef_28 (by decide) ?_
          exact ih7 (x2 + 1) S3 _ _ _ h hI (lv_sub hl [1, 2, 3, 0] rfl)
        · have h := hq_t h c7
          refine lv_iload hx hb dJ1_indexOfChar_4cfef_22 (lv_at hl 3 rfl) ?_
          exact hq_iret hx hb hr hlocks h0 hI h dJ1_indexOfChar_4cfef_24
  exact hL7 FU a2 S _ _ _ h hI (lv_sub hl [2, 5, 1, 0] rfl)
-- java/lang/StringLatin1.indexOf([BIII)I
theorem dJ1_indexOf_4cfef_0 : decode cJ1_indexOf_4cfef 0 = .ok (.iload_n 1, 1) := by decide +kernel
theorem dJ1_indexOf_4cfef_1 : decode cJ1_indexOf_4cfef 1 = .ok (.invokestatic 88, 3) := by decide +kernel
theorem dJ1_indexOf_4cfef_4 : decode cJ1_indexOf_4cfef 4 = .ok (.ifCond .ne 5, 3) := by decide +kernel
theorem dJ1_indexOf_4cfef_7 : decode cJ1_indexOf_4cfef 7 = .ok (.iconst (-1), 1) := by decide +kernel
theorem dJ1_indexOf_4cfef_8 : decode cJ1_indexOf_4cfef 8 = .ok (.ireturn, 1) := by decide +kernel
theorem dJ1_indexOf_4cfef_9 : decode cJ1_indexOf_4cfef 9 = .ok (.iload_n 2, 1) := by decide +kernel
theorem dJ1_indexOf_4cfef_10 : decode cJ1_indexOf_4cfef 10 = .ok (.iconst 0, 1) := by decide +kernel
theorem dJ1_indexOf_4cfef_11 : decode cJ1_indexOf_4cfef 11 = .ok (.invokestatic 92, 3) := by decide +kernel
theorem dJ1_indexOf_4cfef_14 : decode cJ1_indexOf_4cfef 14 = .ok (.istore_n 2, 1) := by decide +kernel
theorem dJ1_indexOf_4cfef_15 : decode cJ1_indexOf_4cfef 15 = .ok (.iload_n 3, 1) := by decide +kernel
theorem dJ1_indexOf_4cfef_16 : decode cJ1_indexOf_4cfef 16 = .ok (.aload_n 0, 1) := by decide +kernel
theorem dJ1_indexOf_4cfef_17 : decode cJ1_indexOf_4cfef 17 = .ok (.arraylength, 1) := by decide +kernel
theorem dJ1_indexOf_4cfef_18 : decode cJ1_indexOf_4cfef 18 = .ok (.invokestatic 38, 3) := by decide +kernel
theorem dJ1_indexOf_4cfef_21 : decode cJ1_indexOf_4cfef 21 = .ok (.istore_n 3, 1) := by decide +kernel
theorem dJ1_indexOf_4cfef_22 : decode cJ1_indexOf_4cfef 22 = .ok (.iload_n 2, 1) := by decide +kernel
theorem dJ1_indexOf_4cfef_23 : decode cJ1_indexOf_4cfef 23 = .ok (.iload_n 3, 1) := by decide +kernel
theorem dJ1_indexOf_4cfef_24 : decode cJ1_indexOf_4cfef 24 = .ok (.if_icmp .lt 5, 3) := by decide +kernel
theorem dJ1_indexOf_4cfef_27 : decode cJ1_indexOf_4cfef 27 = .ok (.iconst (-1), 1) := by decide +kernel
theorem dJ1_indexOf_4cfef_28 : decode cJ1_indexOf_4cfef 28 = .ok (.ireturn, 1) := by decide +kernel
theorem dJ1_indexOf_4cfef_29 : decode cJ1_indexOf_4cfef 29 = .ok (.aload_n 0, 1) := by decide +kernel
theorem dJ1_indexOf_4cfef_30 : decode cJ1_indexOf_4cfef 30 = .ok (.iload_n 1, 1) := by decide +kernel
theorem dJ1_indexOf_4cfef_31 : decode cJ1_indexOf_4cfef 31 = .ok (.iload_n 2, 1) := by decide +kernel
theorem dJ1_indexOf_4cfef_32 : decode cJ1_indexOf_4cfef 32 = .ok (.iload_n 3, 1) := by decide +kernel
theorem dJ1_indexOf_4cfef_33 : decode cJ1_indexOf_4cfef 33 = .ok (.invokestatic 95, 3) := by decide +kernel
theorem dJ1_indexOf_4cfef_36 : decode cJ1_indexOf_4cfef 36 = .ok (.ireturn, 1) := by decide +kernel
def f_J1_indexOf_4cfef (ρ : Nat → Nat) (S : HSt) (a0 : Nat) (a1 : Int32) (a2 : Int32) (a3 : Int32) : Option (Int32 × HSt) := bd2 (f_J1_canEncode_9a6ad S a1) fun v3 S2 => if v3 = 0 then (some ((-1), S2)) else (hqn ((if a2 < 0 then 0 else a2 : Int32)) fun (v5 : Int32) => (tN ρ a0).bind fun v6 => hqn ((if v6 < a3 then v6 else a3 : Int32)) fun (v8 : Int32) => if v5 < v8 then (bd2 (f_J1_indexOfChar_4cfef ρ S2 a0 a1 v5 v8) fun v12 S11 => some (v12, S11)) else (some ((-1), S2)))
abbrev rm_J1_indexOf_4cfef : Room := { frames := 1, cells := 0, slots := 0, locals := 25 }
abbrev w_J1_indexOf_4cfef : List Cond := Cond.code yJ1_indexOf_4cfef cJ1_indexOf_4cfef 4 (Option.some FieldType.int) :: lwG
theorem yd_J1_indexOf_4cfef : yJ1_indexOf_4cfef.cls ≠ "java/lang/invoke/MethodHandle" ∧ yJ1_indexOf_4cfef.cls ≠ "java/lang/invoke/VarHandle" ∧ (parseMethodDescriptor yJ1_indexOf_4cfef.desc).map (fun d => d.parameters.length) = some 4 := by decide +kernel
set_option maxHeartbeats 4000000 in
set_option maxRecDepth 100000 in
theorem c_J1_indexOf_4cfef (l : Launch) (D : va_G) (kA ρ : Nat → Nat) (HB : Heap) (S : HSt) (a0 : Nat) (a1 : Int32) (a2 : Int32) (a3 : Int32) (res : Int32 × HSt) (h : f_J1_indexOf_4cfef ρ S a0 a1 a2 a3 = some res) : Met l yJ1_indexOf_4cfef w_J1_indexOf_4cfef rm_J1_indexOf_4cfef (hPc D kA ρ HB S [.ref a0, .int a1, .int a2, .int a3]) (hQi D kA HB S res) 0 0 (hFree HB) := by
  refine Met.ofW (cc := cJ1_indexOf_4cfef) (maxL := 4) (ret := (Option.some FieldType.int)) (by decide) rfl ?_
  intro p e s m args below meth c s₁ B hml hv
  obtain ⟨rfl, hE, h0⟩ := hv
  have hx := B.exec
  have hb := B.bytes
  have hr := B.returns
  have hts0 := atoms_spec (ws := w_J1_indexOf_4cfef) B.pre
  have hts : ∀ w ∈ lwG, w.before _ s = true := fun w hw => hts0 w (List.mem_cons_of_mem _ hw)
  have hown : s.vm.findClass RJ1 = some m.cls := findClass_of_methodNamed B.named
  have hlocks := B.notSynchronized
  have hI : hqX D kA HB S.2 S s.heap [] := ⟨h0, Nat.le_refl _, fun _ q => absurd q List.not_mem_nil⟩
  have hl := lv_entry ([.ref a0, .int a1, .int a2, .int a3]) (n := 4) (Nat.le_of_ble_eq_true rfl)
  rw [lg_entry_eq]
  generalize (lg_sl ([.ref a0, .int a1, .int a2, .int a3]) ++ List.replicate (4 - (lg_sl ([.ref a0, .int a1, .int a2, .int a3])).length) Slot.unset).toArray = ls at hl ⊢
  have hl : lv_has ls 4 [(0, .ref a0), (1, .int a1), (2, .int a2), (3, .int a3)] := hl
  unfold f_J1_indexOf_4cfef at h
  refine lv_iload_n hx hb dJ1_indexOf_4cfef_0 rfl (lv_at hl 1 rfl) ?_
  obtain ⟨v3, S2, g1, h⟩ := hq_bd2 h
  refine hq_calli hI (va_runS (As := [.int a1]) (rest := []) ⟨hx, hb, hml, hown, hts⟩ (c_J1_canEncode_9a6ad l D kA ρ HB S a1 _ g1) (va_cwS 1 hts (gdIn (List.forall_mem_cons.mpr ⟨kw_500, (List.forall_mem_cons.mpr ⟨kw_501, (List.forall_mem_cons.mpr ⟨kw_16, (fun _ h => absurd h List.not_mem_nil)⟩)⟩)⟩) kw_502) rfl rfl rfl yd_J1_canEncode_9a6ad ⟨Nat.le_of_ble_eq_true rfl, Nat.le_of_ble_eq_true rfl⟩) (hq_preS hE hI _) rfl rfl hl.1 rfl (lv_room (Nat.le_of_ble_eq_true rfl)) dJ1_indexOf_4cfef_1 ⟨Nat.le_of_ble_eq_true rfl, Nat.le_of_ble_eq_true rfl⟩) (fun H locs hI => ?_)
  refine lv_if_ne (tgt := 9) hx hb dJ1_indexOf_4cfef_4 (by decide) (fun c4 => ?_) (fun c4 => ?_)
  · have h := hq_f h c4
    refine lv_iload_n hx hb dJ1_indexOf_4cfef_9 rfl (lv_at hl 2 rfl) ?_
    refine lv_iconst (v := 0) hx hb dJ1_indexOf_4cfef_10 (by decide) ?_
    refine va_mmax hx hb (hml.trans hl.1.symm) hown (hts _ kw_503) (hts _ kw_504) (hts _ kw_14) (hts _ kw_505) (Nat.le_of_ble_eq_true rfl) (Nat.le_of_ble_eq_true rfl) (Nat.le_of_ble_eq_true rfl) (Nat.le_of_ble_eq_true rfl) dJ1_indexOf_4cfef_11 ?_
    refine lv_topi (fun v5 e_v5 => ?_)
    have h := hq_nm h e_v5
    refine lv_istore_n (lv' := [(2, .int v5), (0, .ref a0), (1, .int a1), (3, .int a3)]) hx hb dJ1_indexOf_4cfef_14 rfl hl (by decide) rfl (fun ls hl => ?_)
    refine lv_iload_n hx hb dJ1_indexOf_4cfef_15 rfl (lv_at hl 3 rfl) ?_
    refine lv_aload_n hx hb dJ1_indexOf_4cfef_16 rfl (lv_at hl 1 rfl) ?_
    obtain ⟨v6, g7, h⟩ := hq_bind h
    refine hq_strn hx hb hE h0 hI g7 dJ1_indexOf_4cfef_17 ?_
    refine va_mmin hx hb (hml.trans hl.1.symm) hown (hts _ kw_506) (hts _ kw_507) (hts _ kw_14) (hts _ kw_508) (Nat.le_of_ble_eq_true rfl) (Nat.le_of_ble_eq_true rfl) (Nat.le_of_ble_eq_true rfl) (Nat.le_of_ble_eq_true rfl) dJ1_indexOf_4cfef_18 ?_
    refine lv_topi (fun v8 e_v8 => ?_)
    have h := hq_nm h e_v8
    refine lv_istore_n (lv' := [(3, .int v8), (2, .int v5), (0, .ref a0), (1, .int a1)]) hx hb dJ1_indexOf_4cfef_21 rfl hl (by decide) rfl (fun ls hl => ?_)
    refine lv_iload_n hx hb dJ1_indexOf_4cfef_22 rfl (lv_at hl 1 rfl) ?_
    refine lv_iload_n hx hb dJ1_indexOf_4cfef_23 rfl (lv_at hl 0 rfl) ?_
    refine lv_icmp_lt (tgt := 29) hx hb dJ1_indexOf_4cfef_24 (by decide) (fun c9 => ?_) (fun c9 => ?_)
    · have h := hq_t h c9
      refine lv_aload_n hx hb dJ1_indexOf_4cfef_29 rfl (lv_at hl 2 rfl) ?_
      refine lv_iload_n hx hb dJ1_indexOf_4cfef_30 rfl (lv_at hl 3 rfl) ?_
      refine lv_iload_n hx hb dJ1_indexOf_4cfef_31 rfl (lv_at hl 1 rfl) ?_
      refine lv_iload_n hx hb dJ1_indexOf_4cfef_32 rfl (lv_at hl 0 rfl) ?_
      obtain ⟨v12, S11, g10, h⟩ := hq_bd2 h
      refine hq_calli hI (va_runS (As := [.ref a0, .int a1, .int v5, .int v8]) (rest := []) ⟨hx, hb, hml, hown, hts⟩ (c_J1_indexOfChar_4cfef l D kA ρ HB S2 a0 a1 v5 v8 _ g10) (va_cwS 4 hts (gdIn (List.forall_mem_cons.mpr ⟨kw_509, (List.forall_mem_cons.mpr ⟨kw_510, (List.forall_mem_cons.mpr ⟨kw_16, (fun _ h => absurd h List.not_mem_nil)⟩)⟩)⟩) kw_511) rfl rfl rfl yd_J1_indexOfChar_4cfef ⟨Nat.le_of_ble_eq_true rfl, Nat.le_of_ble_eq_true rfl⟩) (hq_preS hE hI _) rfl rfl hl.1 rfl (lv_room (Nat.le_of_ble_eq_true rfl)) dJ1_indexOf_4cfef_33 ⟨Nat.le_of_ble_eq_true rfl, Nat.le_of_ble_eq_true rfl⟩) (fun H locs hI => ?_)
      exact hq_iret hx hb hr hlocks h0 hI h dJ1_indexOf_4cfef_36
    · have h := hq_f h c9
      refine lv_iconst (v := (-1)) hx hb dJ1_indexOf_4cfef_27 (by decide) ?_
      exact hq_iret hx hb hr hlocks h0 hI h dJ1_indexOf_4cfef_28
  · have h := hq_t h c4
    refine lv_iconst (v := (-1)) hx hb dJ1_indexOf_4cfef_7 (by decide) ?_
    exact hq_iret hx hb hr hlocks h0 hI h dJ1_indexOf_4cfef_8
-- java/lang/String.indexOf(II)I
theorem dJ0_indexOf_7cf53_0 : decode cJ0_indexOf_7cf53 0 = .ok (.aload_n 0, 1) := by decide +kernel
theorem dJ0_indexOf_7cf53_1 : decode cJ0_indexOf_7cf53 1 = .ok (.invokevirtual 492, 3) := by decide +kernel
theorem dJ0_indexOf_7cf53_4 : decode cJ0_indexOf_7cf53 4 = .ok (.ifCond .eq 19, 3) := by decide +kernel
theorem dJ0_indexOf_7cf53_7 : decode cJ0_indexOf_7cf53 7 = .ok (.aload_n 0, 1) := by decide +kernel
theorem dJ0_indexOf_7cf53_8 : decode cJ0_indexOf_7cf53 8 = .ok (.getfield 9, 3) := by decide +kernel
theorem dJ0_indexOf_7cf53_11 : decode cJ0_indexOf_7cf53 11 = .ok (.iload_n 1, 1) := by decide +kernel
theorem dJ0_indexOf_7cf53_12 : decode cJ0_indexOf_7cf53 12 = .ok (.iload_n 2, 1) := by decide +kernel
theorem dJ0_indexOf_7cf53_13 : decode cJ0_indexOf_7cf53 13 = .ok (.aload_n 0, 1) := by decide +kernel
theorem dJ0_indexOf_7cf53_14 : decode cJ0_indexOf_7cf53 14 = .ok (.invokevirtual 505, 3) := by decide +kernel
theorem dJ0_indexOf_7cf53_17 : decode cJ0_indexOf_7cf53 17 = .ok (.invokestatic 637, 3) := by decide +kernel
theorem dJ0_indexOf_7cf53_20 : decode cJ0_indexOf_7cf53 20 = .ok (.goto 16, 3) := by decide +kernel
theorem dJ0_indexOf_7cf53_23 : decode cJ0_indexOf_7cf53 23 = .ok (.aload_n 0, 1) := by decide +kernel
theorem dJ0_indexOf_7cf53_24 : decode cJ0_indexOf_7cf53 24 = .ok (.getfield 9, 3) := by decide +kernel
theorem dJ0_indexOf_7cf53_27 : decode cJ0_indexOf_7cf53 27 = .ok (.iload_n 1, 1) := by decide +kernel
theorem dJ0_indexOf_7cf53_28 : decode cJ0_indexOf_7cf53 28 = .ok (.iload_n 2, 1) := by decide +kernel
theorem dJ0_indexOf_7cf53_29 : decode cJ0_indexOf_7cf53 29 = .ok (.aload_n 0, 1) := by decide +kernel
theorem dJ0_indexOf_7cf53_30 : decode cJ0_indexOf_7cf53 30 = .ok (.invokevirtual 505, 3) := by decide +kernel
theorem dJ0_indexOf_7cf53_33 : decode cJ0_indexOf_7cf53 33 = .ok (.invokestatic 640, 3) := by decide +kernel
theorem dJ0_indexOf_7cf53_36 : decode cJ0_indexOf_7cf53 36 = .ok (.ireturn, 1) := by decide +kernel
def f_J0_indexOf_7cf53 (ρ : Nat → Nat) (S : HSt) (a0 : Nat) (a1 : Int32) (a2 : Int32) : Option (Int32 × HSt) := if (sX ρ a0).isSome = true then (bd2 (f_J0_isLatin1_aae02 ρ S a0) fun v4 S3 => if v4 = 0 then ((sV ρ a0).bind fun w7 => if (sX ρ a0).isSome = true then (bd2 (f_J0_length_8abf5 ρ S3 a0) fun v11 S10 => none) else none) else ((sV ρ a0).bind fun w13 => if (sX ρ a0).isSome = true then (bd2 (f_J0_length_8abf5 ρ S3 a0) fun v17 S16 => bd2 (f_J1_indexOf_4cfef ρ S16 w13 a1 a2 v17) fun v20 S19 => some (v20, S19)) else none)) else none
abbrev rm_J0_indexOf_7cf53 : Room := { frames := 2, cells := 0, slots := 0, locals := 48 }
abbrev w_J0_indexOf_7cf53 : List Cond := Cond.code yJ0_indexOf_7cf53 cJ0_indexOf_7cf53 3 (Option.some FieldType.int) :: lwG
theorem yd_J0_indexOf_7cf53 : yJ0_indexOf_7cf53.cls ≠ "java/lang/invoke/MethodHandle" ∧ yJ0_indexOf_7cf53.cls ≠ "java/lang/invoke/VarHandle" ∧ (parseMethodDescriptor yJ0_indexOf_7cf53.desc).map (fun d => d.parameters.length) = some 2 := by decide +kernel
theorem ye_J0_indexOf_7cf53 : yJ0_indexOf_7cf53.cls = RJ0 ∧ yJ0_indexOf_7cf53.cls ≠ "java/lang/invoke/MethodHandle" ∧ yJ0_indexOf_7cf53.cls ≠ "java/lang/invoke/VarHandle" ∧ (parseMethodDescriptor yJ0_indexOf_7cf53.desc).map (fun d => d.parameters.length) = some 2 := by decide +kernel
set_option maxHeartbeats 4000000 in
set_option maxRecDepth 100000 in
theorem c_J0_indexOf_7cf53 (l : Launch) (D : va_G) (kA ρ : Nat → Nat) (HB : Heap) (S : HSt) (a0 : Nat) (a1 : Int32) (a2 : Int32) (res : Int32 × HSt) (h : f_J0_indexOf_7cf53 ρ S a0 a1 a2 = some res) : Met l yJ0_indexOf_7cf53 w_J0_indexOf_7cf53 rm_J0_indexOf_7cf53 (hPc D kA ρ HB S [.ref a0, .int a1, .int a2]) (hQi D kA HB S res) 0 0 (hFree HB) := by
  refine Met.ofW (cc := cJ0_indexOf_7cf53) (maxL := 3) (ret := (Option.some FieldType.int)) (by decide) rfl ?_
  intro p e s m args below meth c s₁ B hml hv
  obtain ⟨rfl, hE, h0⟩ := hv
  have hx := B.exec
  have hb := B.bytes
  have hr := B.returns
  have hts0 := atoms_spec (ws := w_J0_indexOf_7cf53) B.pre
  have hts : ∀ w ∈ lwG, w.before _ s = true := fun w hw => hts0 w (List.mem_cons_of_mem _ hw)
  have hown : s.vm.findClass RJ0 = some m.cls := findClass_of_methodNamed B.named
  have hlocks := B.notSynchronized
  have hI : hqX D kA HB S.2 S s.heap [] := ⟨h0, Nat.le_refl _, fun _ q => absurd q List.not_mem_nil⟩
  have hl := lv_entry ([.ref a0, .int a1, .int a2]) (n := 3) (Nat.le_of_ble_eq_true rfl)
  rw [lg_entry_eq]
  generalize (lg_sl ([.ref a0, .int a1, .int a2]) ++ List.replicate (3 - (lg_sl ([.ref a0, .int a1, .int a2])).length) Slot.unset).toArray = ls at hl ⊢
  have hl : lv_has ls 3 [(0, .ref a0), (1, .int a1), (2, .int a2)] := hl
  unfold f_J0_indexOf_7cf53 at h
  refine lv_aload_n hx hb dJ0_indexOf_7cf53_0 rfl (lv_at hl 0 rfl) ?_
  obtain ⟨g2, h⟩ := hq_g h
  obtain ⟨v4, S3, g1, h⟩ := hq_bd2 h
  refine hq_calli hI (va_runV (As := []) (rest := []) ⟨hx, hb, hml, hown, hts⟩ (c_J0_isLatin1_aae02 l D kA ρ HB S a0 _ g1) (cwV 0 hts (gdIn (List.forall_mem_cons.mpr ⟨kw_425, (List.forall_mem_cons.mpr ⟨kw_426, (List.forall_mem_cons.mpr ⟨kw_427, (List.forall_mem_cons.mpr ⟨kw_15, (fun _ h => absurd h List.not_mem_nil)⟩)⟩)⟩)⟩) kw_428) rfl rfl rfl ye_J0_isLatin1_aae02 ⟨Nat.le_of_ble_eq_true rfl, Nat.le_of_ble_eq_true rfl⟩) (hq_preT hE h0 hI g2 _) rfl rfl hl.1 rfl (lv_room (Nat.le_of_ble_eq_true rfl)) dJ0_indexOf_7cf53_1 ⟨Nat.le_of_ble_eq_true rfl, Nat.le_of_ble_eq_true rfl⟩) (fun H locs hI => ?_)
  refine lv_if_eq (tgt := 23) hx hb dJ0_indexOf_7cf53_4 (by decide) (fun c5 => ?_) (fun c5 => ?_)
  · have h := hq_t h c5
    refine lv_aload_n hx hb dJ0_indexOf_7cf53_23 rfl (lv_at hl 0 rfl) ?_
    obtain ⟨w7, g6, h⟩ := hq_bind h
    refine hq_strv hx hb hts hown hE h0 hI g6 kw_1380 dJ0_indexOf_7cf53_24 ?_
    refine lv_iload_n hx hb dJ0_indexOf_7cf53_27 rfl (lv_at hl 1 rfl) ?_
    refine lv_iload_n hx hb dJ0_indexOf_7cf53_28 rfl (lv_at hl 2 rfl) ?_
    refine lv_aload_n hx hb dJ0_indexOf_7cf53_29 rfl (lv_at hl 0 rfl) ?_
    obtain ⟨g9, h⟩ := hq_g h
    obtain ⟨v11, S10, g8, h⟩ := hq_bd2 h
    refine hq_calli hI (va_runV (As := []) (rest := [.int a2, .int a1, .ref w7]) ⟨hx, hb, hml, hown, hts⟩ (c_J0_length_8abf5 l D kA ρ HB S3 a0 _ g8) (cwV 0 hts (gdIn (List.forall_mem_cons.mpr ⟨kw_496, (List.forall_mem_cons.mpr ⟨kw_412, (List.forall_mem_cons.mpr ⟨kw_413, (List.forall_mem_cons.mpr ⟨kw_15, (fun _ h => absurd h List.not_mem_nil)⟩)⟩)⟩)⟩) kw_414) rfl rfl rfl ye_J0_length_8abf5 ⟨Nat.le_of_ble_eq_true rfl, Nat.le_of_ble_eq_true rfl⟩) (hq_preT hE h0 hI g9 _) rfl rfl hl.1 rfl (lv_room (Nat.le_of_ble_eq_true rfl)) dJ0_indexOf_7cf53_30 ⟨Nat.le_of_ble_eq_true rfl, Nat.le_of_ble_eq_true rfl⟩) (fun H locs hI => ?_)
    cases h
  · have h := hq_f h c5
    refine lv_aload_n hx hb dJ0_indexOf_7cf53_7 rfl (lv_at hl 0 rfl) ?_
    obtain ⟨w13, g12, h⟩ := hq_bind h
    refine hq_strv hx hb hts hown hE h0 hI g12 kw_1380 dJ0_indexOf_7cf53_8 ?_
    refine lv_iload_n hx hb dJ0_indexOf_7cf53_11 rfl (lv_at hl 1 rfl) ?_
    refine lv_iload_n hx hb dJ0_indexOf_7cf53_12 rfl (lv_at hl 2 rfl) ?_
    refine lv_aload_n hx hb dJ0_indexOf_7cf53_13 rfl (lv_at hl 0 rfl) ?_
    obtain ⟨g15, h⟩ := hq_g h
    obtain ⟨v17, S16, g14, h⟩ := hq_bd2 h
    refine hq_calli hI (va_runV (As := []) (rest := [.int a2, .int a1, .ref w13]) ⟨hx, hb, hml, hown, hts⟩ (c_J0_length_8abf5 l D kA ρ HB S3 a0 _ g14) (cwV 0 hts (gdIn (List.forall_mem_cons.mpr ⟨kw_496, (List.forall_mem_cons.mpr ⟨kw_412, (List.forall_mem_cons.mpr ⟨kw_413, (List.forall_mem_cons.mpr ⟨kw_15, (fun _ h => absurd h List.not_mem_nil)⟩)⟩)⟩)⟩) kw_414) rfl rfl rfl ye_J0_length_8abf5 ⟨Nat.le_of_ble_eq_true rfl, Nat.le_of_ble_eq_true rfl⟩) (hq_preT hE h0 hI g15 _) rfl rfl hl.1 rfl (lv_room (Nat.le_of_ble_eq_true rfl)) dJ0_indexOf_7cf53_14 ⟨Nat.le_of_ble_eq_true rfl, Nat.le_of_ble_eq_true rfl⟩) (fun H locs hI => ?_)
    obtain ⟨v20, S19, g18, h⟩ := hq_bd2 h
    refine hq_calli hI (va_runS (As := [.ref w13, .int a1, .int a2, .int v17]) (rest := []) ⟨hx, hb, hml, hown, hts⟩ (c_J1_indexOf_4cfef l D kA ρ HB S16 w13 a1 a2 v17 _ g18) (va_cwS 4 hts (gdIn (List.forall_mem_cons.mpr ⟨kw_497, (List.forall_mem_cons.mpr ⟨kw_498, (List.forall_mem_cons.mpr ⟨kw_16, (fun _ h => absurd h List.not_mem_nil)⟩)⟩)⟩) kw_499) rfl rfl rfl yd_J1_indexOf_4cfef ⟨Nat.le_of_ble_eq_true rfl, Nat.le_of_ble_eq_true rfl⟩) (hq_preS hE hI _) rfl rfl hl.1 rfl (lv_room (Nat.le_of_ble_eq_true rfl)) dJ0_indexOf_7cf53_17 ⟨Nat.le_of_ble_eq_true rfl, Nat.le_of_ble_eq_true rfl⟩) (fun H locs hI => ?_)
    refine lv_goto (tgt := 36) hx hb dJ0_indexOf_7cf53_20 (by decide) ?_
    exact hq_iret hx hb hr hlocks h0 hI h dJ0_indexOf_7cf53_36
-- java/lang/String.indexOf(I)I
theorem dJ0_indexOf_0f7a4_0 : decode cJ0_indexOf_0f7a4 0 = .ok (.aload_n 0, 1) := by decide +kernel
theorem dJ0_indexOf_0f7a4_1 : decode cJ0_indexOf_0f7a4 1 = .ok (.iload_n 1, 1) := by decide +kernel
theorem dJ0_indexOf_0f7a4_2 : decode cJ0_indexOf_0f7a4 2 = .ok (.iconst 0, 1) := by decide +kernel
theorem dJ0_indexOf_0f7a4_3 : decode cJ0_indexOf_0f7a4 3 = .ok (.invokevirtual 633, 3) := by decide +kernel
theorem dJ0_indexOf_0f7a4_6 : decode cJ0_indexOf_0f7a4 6 = .ok (.ireturn, 1) := by decide +kernel
def f_J0_indexOf_0f7a4 (ρ : Nat → Nat) (S : HSt) (a0 : Nat) (a1 : Int32) : Option (Int32 × HSt) := if (sX ρ a0).isSome = true then (bd2 (f_J0_indexOf_7cf53 ρ S a0 a1 0) fun v4 S3 => some (v4, S3)) else none
abbrev rm_J0_indexOf_0f7a4 : Room := { frames := 3, cells := 0, slots := 0, locals := 70 }
abbrev w_J0_indexOf_0f7a4 : List Cond := Cond.code yJ0_indexOf_0f7a4 cJ0_indexOf_0f7a4 2 (Option.some FieldType.int) :: lwG
theorem yd_J0_indexOf_0f7a4 : yJ0_indexOf_0f7a4.cls ≠ "java/lang/invoke/MethodHandle" ∧ yJ0_indexOf_0f7a4.cls ≠ "java/lang/invoke/VarHandle" ∧ (parseMethodDescriptor yJ0_indexOf_0f7a4.desc).map (fun d => d.parameters.length) = some 1 := by decide +kernel
theorem ye_J0_indexOf_0f7a4 : yJ0_indexOf_0f7a4.cls = RJ0 ∧ yJ0_indexOf_0f7a4.cls ≠ "java/lang/invoke/MethodHandle" ∧ yJ0_indexOf_0f7a4.cls ≠ "java/lang/invoke/VarHandle" ∧ (parseMethodDescriptor yJ0_indexOf_0f7a4.desc).map (fun d => d.parameters.length) = some 1 := by decide +kernel
set_option maxHeartbeats 4000000 in
set_option maxRecDepth 100000 in
theorem c_J0_indexOf_0f7a4 (l : Launch) (D : va_G) (kA ρ : Nat → Nat) (HB : Heap) (S : HSt) (a0 : Nat) (a1 : Int32) (res : Int32 × HSt) (h : f_J0_indexOf_0f7a4 ρ S a0 a1 = some res) : Met l yJ0_indexOf_0f7a4 w_J0_indexOf_0f7a4 rm_J0_indexOf_0f7a4 (hPc D kA ρ HB S [.ref a0, .int a1]) (hQi D kA HB S res) 0 0 (hFree HB) := by
  refine Met.ofW (cc := cJ0_indexOf_0f7a4) (maxL := 2) (ret := (Option.some FieldType.int)) (by decide) rfl ?_
  intro p e s m args below meth c s₁ B hml hv
  obtain ⟨rfl, hE, h0⟩ := hv
  have hx := B.exec
  have hb := B.bytes
  have hr := B.returns
  have hts0 := atoms_spec (ws := w_J0_indexOf_0f7a4) B.pre
  have hts : ∀ w ∈ lwG, w.before _ s = true := fun w hw => hts0 w (List.mem_cons_of_mem _ hw)
  have hown : s.vm.findClass RJ0 = some m.cls := findClass_of_methodNamed B.named
  have hlocks := B.notSynchronized
  have hI : hqX D kA HB S.2 S s.heap [] := ⟨h0, Nat.le_refl _, fun _ q => absurd q List.not_mem_nil⟩
  have hl := lv_entry ([.ref a0, .int a1]) (n := 2) (Nat.le_of_ble_eq_true rfl)
  rw [lg_entry_eq]
  generalize (lg_sl ([.ref a0, .int a1]) ++ List.replicate (2 - (lg_sl ([.ref a0, .int a1])).length) Slot.unset).toArray = ls at hl ⊢
  have hl : lv_has ls 2 [(0, .ref a0), (1, .int a1)] := hl
  unfold f_J0_indexOf_0f7a4 at h
  refine lv_aload_n hx hb dJ0_indexOf_0f7a4_0 rfl (lv_at hl 0 rfl) ?_
  refine lv_iload_n hx hb dJ0_indexOf_0f7a4_1 rfl (lv_at hl 1 rfl) ?_
  refine lv_iconst (v := 0) hx hb dJ0_indexOf_0f7a4_2 (by decide) ?_
  obtain ⟨g2, h⟩ := hq_g h
  obtain ⟨v4, S3, g1, h⟩ := hq_bd2 h
  refine hq_calli hI (va_runV (As := [.int a1, .int 0]) (rest := []) ⟨hx, hb, hml, hown, hts⟩ (c_J0_indexOf_7cf53 l D kA ρ HB S a0 a1 0 _ g1) (cwV 2 hts (gdIn (List.forall_mem_cons.mpr ⟨kw_492, (List.forall_mem_cons.mpr ⟨kw_493, (List.forall_mem_cons.mpr ⟨kw_494, (List.forall_mem_cons.mpr ⟨kw_15, (fun _ h => absurd h List.not_mem_nil)⟩)⟩)⟩)⟩) kw_495) rfl rfl rfl ye_J0_indexOf_7cf53 ⟨Nat.le_of_ble_eq_true rfl, Nat.le_of_ble_eq_true rfl⟩) (hq_preT hE h0 hI g2 _) rfl rfl hl.1 rfl (lv_room (Nat.le_of_ble_eq_true rfl)) dJ0_indexOf_0f7a4_3 ⟨Nat.le_of_ble_eq_true rfl, Nat.le_of_ble_eq_true rfl⟩) (fun H locs hI => ?_)
  exact hq_iret hx hb hr hlocks h0 hI h dJ0_indexOf_0f7a4_6
