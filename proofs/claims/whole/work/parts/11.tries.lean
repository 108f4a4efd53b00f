/-! acts of tries: printed by wip/whole/gen.py -/
-- RodDips$Trace.add(I)V
theorem dX8_add_0 : decode cX8_add 0 = .ok (.aload_n 0, 1) := by decide +kernel
theorem dX8_add_1 : decode cX8_add 1 = .ok (.getfield 15, 3) := by decide +kernel
theorem dX8_add_4 : decode cX8_add 4 = .ok (.ifCond .lt 25, 3) := by decide +kernel
theorem dX8_add_7 : decode cX8_add 7 = .ok (.aload_n 0, 1) := by decide +kernel
theorem dX8_add_8 : decode cX8_add 8 = .ok (.getfield 15, 3) := by decide +kernel
theorem dX8_add_11 : decode cX8_add 11 = .ok (.aload_n 0, 1) := by decide +kernel
theorem dX8_add_12 : decode cX8_add 12 = .ok (.getfield 9, 3) := by decide +kernel
theorem dX8_add_15 : decode cX8_add 15 = .ok (.arraylength, 1) := by decide +kernel
theorem dX8_add_16 : decode cX8_add 16 = .ok (.if_icmp .ge 13, 3) := by decide +kernel
theorem dX8_add_19 : decode cX8_add 19 = .ok (.aload_n 0, 1) := by decide +kernel
theorem dX8_add_20 : decode cX8_add 20 = .ok (.getfield 9, 3) := by decide +kernel
theorem dX8_add_23 : decode cX8_add 23 = .ok (.aload_n 0, 1) := by decide +kernel
theorem dX8_add_24 : decode cX8_add 24 = .ok (.getfield 15, 3) := by decide +kernel
theorem dX8_add_27 : decode cX8_add 27 = .ok (.iload_n 1, 1) := by decide +kernel
theorem dX8_add_28 : decode cX8_add 28 = .ok (.iastore, 1) := by decide +kernel
theorem dX8_add_29 : decode cX8_add 29 = .ok (.aload_n 0, 1) := by decide +kernel
theorem dX8_add_30 : decode cX8_add 30 = .ok (.dup, 1) := by decide +kernel
theorem dX8_add_31 : decode cX8_add 31 = .ok (.getfield 15, 3) := by decide +kernel
theorem dX8_add_34 : decode cX8_add 34 = .ok (.iconst 1, 1) := by decide +kernel
theorem dX8_add_35 : decode cX8_add 35 = .ok (.iadd, 1) := by decide +kernel
theorem dX8_add_36 : decode cX8_add 36 = .ok (.putfield 15, 3) := by decide +kernel
theorem dX8_add_39 : decode cX8_add 39 = .ok (.return_, 1) := by decide +kernel
def f_X8_add (S : HSt) (a0 : Nat) (a1 : Int32) : Option (HSt) := (gI S a0 8 1).bind fun v1 => if v1 < 0 then ((gI S a0 8 1).bind fun v4 => (pV S a0 8 1 (.int (v4 + 1))).bind fun S6 => some S6) else ((gI S a0 8 1).bind fun v8 => (gR S a0 8 0).bind fun b10 => (aN S b10).bind fun v12 => if v12 ≤ v8 then ((gI S a0 8 1).bind fun v15 => (pV S a0 8 1 (.int (v15 + 1))).bind fun S17 => some S17) else ((gR S a0 8 0).bind fun b19 => (gI S a0 8 1).bind fun v21 => (sI S b19 0 v21 a1).bind fun S24 => (gI S24 a0 8 1).bind fun v25 => (pV S24 a0 8 1 (.int (v25 + 1))).bind fun S27 => some S27))
abbrev rm_X8_add : Room := { frames := 0, cells := 0, slots := 0, locals := 0 }
abbrev w_X8_add : List Cond := Cond.code yX8_add cX8_add 2 none :: lwG
theorem yd_X8_add : yX8_add.cls ≠ "java/lang/invoke/MethodHandle" ∧ yX8_add.cls ≠ "java/lang/invoke/VarHandle" ∧ (parseMethodDescriptor yX8_add.desc).map (fun d => d.parameters.length) = some 1 := by decide +kernel
theorem ye_X8_add : yX8_add.cls = RX8 ∧ yX8_add.cls ≠ "java/lang/invoke/MethodHandle" ∧ yX8_add.cls ≠ "java/lang/invoke/VarHandle" ∧ (parseMethodDescriptor yX8_add.desc).map (fun d => d.parameters.length) = some 1 := by decide +kernel
set_option maxHeartbeats 4000000 in
set_option maxRecDepth 100000 in
theorem c_X8_add (l : Launch) (D : va_G) (kA ρ : Nat → Nat) (HB : Heap) (S : HSt) (a0 : Nat) (a1 : Int32) (res : HSt) (h : f_X8_add S a0 a1 = some res) : Met l yX8_add w_X8_add rm_X8_add (hPc D kA ρ HB S [.ref a0, .int a1]) (hQv D kA HB S res) 0 0 (hFree HB) := by
  refine Met.ofW (cc := cX8_add) (maxL := 2) (ret := none) (by decide) rfl ?_
  intro p e s m args below meth c s₁ B hml hv
  obtain ⟨rfl, hE, h0⟩ := hv
  have hx := B.exec
  have hb := B.bytes
  have hr := B.returns
  have hts0 := atoms_spec (ws := w_X8_add) B.pre
  have hts : ∀ w ∈ lwG, w.before _ s = true := fun w hw => hts0 w (List.mem_cons_of_mem _ hw)
  have hown : s.vm.findClass RX8 = some m.cls := findClass_of_methodNamed B.named
  have hlocks := B.notSynchronized
  have hI : hqX D kA HB S.2 S s.heap [] := ⟨h0, Nat.le_refl _, fun _ q => absurd q List.not_mem_nil⟩
  have hl := lv_entry ([.ref a0, .int a1]) (n := 2) (Nat.le_of_ble_eq_true rfl)
  rw [lg_entry_eq]
  generalize (lg_sl ([.ref a0, .int a1]) ++ List.replicate (2 - (lg_sl ([.ref a0, .int a1])).length) Slot.unset).toArray = ls at hl ⊢
  have hl : lv_has ls 2 [(0, .ref a0), (1, .int a1)] := hl
  unfold f_X8_add at h
  refine lv_aload_n hx hb dX8_add_0 rfl (lv_at hl 0 rfl) ?_
  obtain ⟨v1, g2, h⟩ := hq_bind h
  obtain ⟨fs_g2, hs_g2, hv_g2⟩ := gI_at g2
  refine hq_get hx hb hts hown hE hI hs_g2 inG8 rfl 1 (by decide) kw_78 hv_g2 dX8_add_1 ?_
  refine lv_if_lt (tgt := 29) hx hb dX8_add_4 (by decide) (fun c3 => ?_) (fun c3 => ?_)
  · have h := hq_t h c3
    refine lv_aload_n hx hb dX8_add_29 rfl (lv_at hl 0 rfl) ?_
    refine lv_dup hx hb dX8_add_30 rfl ?_
    obtain ⟨v4, g5, h⟩ := hq_bind h
    obtain ⟨fs_g5, hs_g5, hv_g5⟩ := gI_at g5
    refine hq_get hx hb hts hown hE hI hs_g5 inG8 rfl 1 (by decide) kw_78 hv_g5 dX8_add_31 ?_
    refine lv_iconst (v := 1) hx hb dX8_add_34 (by decide) ?_
    refine lv_iadd hx hb dX8_add_35 ?_
    obtain ⟨S6, g7, h⟩ := hq_bind h
    obtain ⟨fs_g7, hs_g7, hl_g7, e_g7⟩ := pV_at g7
    refine hq_put hx hb hts hown hE hI hs_g7 inG8 tyX8 tyX8_ok nmX8 rfl 1 (by decide) kw_78 rfl (v := .int (v4 + 1)) rfl rfl rfl hl_g7 e_g7 dX8_add_36 (fun H locs hI => ?_)
    exact hq_vret hx hb hr hlocks h0 hI h dX8_add_39
  · have h := hq_f h c3
    refine lv_aload_n hx hb dX8_add_7 rfl (lv_at hl 0 rfl) ?_
    obtain ⟨v8, g9, h⟩ := hq_bind h
    obtain ⟨fs_g9, hs_g9, hv_g9⟩ := gI_at g9
    refine hq_get hx hb hts hown hE hI hs_g9 inG8 rfl 1 (by decide) kw_78 hv_g9 dX8_add_8 ?_
    refine lv_aload_n hx hb dX8_add_11 rfl (lv_at hl 0 rfl) ?_
    obtain ⟨b10, g11, h⟩ := hq_bind h
    obtain ⟨fs_g11, hs_g11, hv_g11⟩ := gR_at g11
    refine hq_get hx hb hts hown hE hI hs_g11 inG8 rfl 0 (by decide) kw_77 hv_g11 dX8_add_12 ?_
    obtain ⟨v12, g13, h⟩ := hq_bind h
    refine hq_alen hx hb hE hI g13 dX8_add_15 ?_
    refine lv_icmp_ge (tgt := 29) hx hb dX8_add_16 (by decide) (fun c14 => ?_) (fun c14 => ?_)
    · have h := hq_t h c14
      refine lv_aload_n hx hb dX8_add_29 rfl (lv_at hl 0 rfl) ?_
      refine lv_dup hx hb dX8_add_30 rfl ?_
      obtain ⟨v15, g16, h⟩ := hq_bind h
      obtain ⟨fs_g16, hs_g16, hv_g16⟩ := gI_at g16
      refine hq_get hx hb hts hown hE hI hs_g16 inG8 rfl 1 (by decide) kw_78 hv_g16 dX8_add_31 ?_
      refine lv_iconst (v := 1) hx hb dX8_add_34 (by decide) ?_
      refine lv_iadd hx hb dX8_add_35 ?_
      obtain ⟨S17, g18, h⟩ := hq_bind h
      obtain ⟨fs_g18, hs_g18, hl_g18, e_g18⟩ := pV_at g18
      refine hq_put hx hb hts hown hE hI hs_g18 inG8 tyX8 tyX8_ok nmX8 rfl 1 (by decide) kw_78 rfl (v := .int (v15 + 1)) rfl rfl rfl hl_g18 e_g18 dX8_add_36 (fun H locs hI => ?_)
      exact hq_vret hx hb hr hlocks h0 hI h dX8_add_39
    · have h := hq_f h c14
      refine lv_aload_n hx hb dX8_add_19 rfl (lv_at hl 0 rfl) ?_
      obtain ⟨b19, g20, h⟩ := hq_bind h
      obtain ⟨fs_g20, hs_g20, hv_g20⟩ := gR_at g20
      refine hq_get hx hb hts hown hE hI hs_g20 inG8 rfl 0 (by decide) kw_77 hv_g20 dX8_add_20 ?_
      refine lv_aload_n hx hb dX8_add_23 rfl (lv_at hl 0 rfl) ?_
      obtain ⟨v21, g22, h⟩ := hq_bind h
      obtain ⟨fs_g22, hs_g22, hv_g22⟩ := gI_at g22
      refine hq_get hx hb hts hown hE hI hs_g22 inG8 rfl 1 (by decide) kw_78 hv_g22 dX8_add_24 ?_
      refine lv_iload_n hx hb dX8_add_27 rfl (lv_at hl 1 rfl) ?_
      obtain ⟨S24, g23, h⟩ := hq_bind h
      refine hq_iast hx hb hE hI g23 dX8_add_28 (fun H locs hI => ?_)
      refine lv_aload_n hx hb dX8_add_29 rfl (lv_at hl 0 rfl) ?_
      refine lv_dup hx hb dX8_add_30 rfl ?_
      obtain ⟨v25, g26, h⟩ := hq_bind h
      obtain ⟨fs_g26, hs_g26, hv_g26⟩ := gI_at g26
      refine hq_get hx hb hts hown hE hI hs_g26 inG8 rfl 1 (by decide) kw_78 hv_g26 dX8_add_31 ?_
      refine lv_iconst (v := 1) hx hb dX8_add_34 (by decide) ?_
      refine lv_iadd hx hb dX8_add_35 ?_
      obtain ⟨S27, g28, h⟩ := hq_bind h
      obtain ⟨fs_g28, hs_g28, hl_g28, e_g28⟩ := pV_at g28
      refine hq_put hx hb hts hown hE hI hs_g28 inG8 tyX8 tyX8_ok nmX8 rfl 1 (by decide) kw_78 rfl (v := .int (v25 + 1)) rfl rfl rfl hl_g28 e_g28 dX8_add_36 (fun H locs hI => ?_)
      exact hq_vret hx hb hr hlocks h0 hI h dX8_add_39
-- RodDips$Try.number()I
theorem dX9_number_0 : decode cX9_number 0 = .ok (.aload_n 0, 1) := by decide +kernel
theorem dX9_number_1 : decode cX9_number 1 = .ok (.getfield 13, 3) := by decide +kernel
theorem dX9_number_4 : decode cX9_number 4 = .ok (.ireturn, 1) := by decide +kernel
def f_X9_number (S : HSt) (a0 : Nat) : Option (Int32 × HSt) := (gIT S a0 1).bind fun v1 => some (v1, S)
abbrev rm_X9_number : Room := { frames := 0, cells := 0, slots := 0, locals := 0 }
abbrev w_X9_number : List Cond := Cond.code yX9_number cX9_number 1 (Option.some FieldType.int) :: lwG
theorem yd_X9_number : yX9_number.cls ≠ "java/lang/invoke/MethodHandle" ∧ yX9_number.cls ≠ "java/lang/invoke/VarHandle" ∧ (parseMethodDescriptor yX9_number.desc).map (fun d => d.parameters.length) = some 0 := by decide +kernel
theorem ye_X9_number : yX9_number.cls = RX9 ∧ yX9_number.cls ≠ "java/lang/invoke/MethodHandle" ∧ yX9_number.cls ≠ "java/lang/invoke/VarHandle" ∧ (parseMethodDescriptor yX9_number.desc).map (fun d => d.parameters.length) = some 0 := by decide +kernel
set_option maxHeartbeats 4000000 in
set_option maxRecDepth 100000 in
theorem c_X9_number (l : Launch) (D : va_G) (kA ρ : Nat → Nat) (HB : Heap) (S : HSt) (a0 : Nat) (res : Int32 × HSt) (h : f_X9_number S a0 = some res) : Met l yX9_number w_X9_number rm_X9_number (hPc D kA ρ HB S [.ref a0]) (hQi D kA HB S res) 0 0 (hFree HB) := by
  refine Met.ofW (cc := cX9_number) (maxL := 1) (ret := (Option.some FieldType.int)) (by decide) rfl ?_
  intro p e s m args below meth c s₁ B hml hv
  obtain ⟨rfl, hE, h0⟩ := hv
  have hx := B.exec
  have hb := B.bytes
  have hr := B.returns
  have hts0 := atoms_spec (ws := w_X9_number) B.pre
  have hts : ∀ w ∈ lwG, w.before _ s = true := fun w hw => hts0 w (List.mem_cons_of_mem _ hw)
  have hown : s.vm.findClass RX9 = some m.cls := findClass_of_methodNamed B.named
  have hlocks := B.notSynchronized
  have hI : hqX D kA HB S.2 S s.heap [] := ⟨h0, Nat.le_refl _, fun _ q => absurd q List.not_mem_nil⟩
  have hl := lv_entry ([.ref a0]) (n := 1) (Nat.le_of_ble_eq_true rfl)
  rw [lg_entry_eq]
  generalize (lg_sl ([.ref a0]) ++ List.replicate (1 - (lg_sl ([.ref a0])).length) Slot.unset).toArray = ls at hl ⊢
  have hl : lv_has ls 1 [(0, .ref a0)] := hl
  unfold f_X9_number at h
  refine lv_aload_n hx hb dX9_number_0 rfl (lv_at hl 0 rfl) ?_
  obtain ⟨v1, g2, h⟩ := hq_bind h
  obtain ⟨c_g2, fs_g2, hk_g2, hs_g2, hv_g2⟩ := gIT_at g2
  obtain ⟨C_g2, hc_g2, hi_g2⟩ := hKin_at hk_g2
  refine hq_get hx hb hts hown hE hI hs_g2 hi_g2 hc_g2 1 (by decide) kw_219 hv_g2 dX9_number_1 ?_
  exact hq_iret hx hb hr hlocks h0 hI h dX9_number_4
-- RodDips$Try.place()I
theorem dX9_place_0 : decode cX9_place 0 = .ok (.aload_n 0, 1) := by decide +kernel
theorem dX9_place_1 : decode cX9_place 1 = .ok (.getfield 17, 3) := by decide +kernel
theorem dX9_place_4 : decode cX9_place 4 = .ok (.ireturn, 1) := by decide +kernel
def f_X9_place (S : HSt) (a0 : Nat) : Option (Int32 × HSt) := (gIT S a0 6).bind fun v1 => some (v1, S)
abbrev rm_X9_place : Room := { frames := 0, cells := 0, slots := 0, locals := 0 }
abbrev w_X9_place : List Cond := Cond.code yX9_place cX9_place 1 (Option.some FieldType.int) :: lwG
theorem yd_X9_place : yX9_place.cls ≠ "java/lang/invoke/MethodHandle" ∧ yX9_place.cls ≠ "java/lang/invoke/VarHandle" ∧ (parseMethodDescriptor yX9_place.desc).map (fun d => d.parameters.length) = some 0 := by decide +kernel
theorem ye_X9_place : yX9_place.cls = RX9 ∧ yX9_place.cls ≠ "java/lang/invoke/MethodHandle" ∧ yX9_place.cls ≠ "java/lang/invoke/VarHandle" ∧ (parseMethodDescriptor yX9_place.desc).map (fun d => d.parameters.length) = some 0 := by decide +kernel
set_option maxHeartbeats 4000000 in
set_option maxRecDepth 100000 in
theorem c_X9_place (l : Launch) (D : va_G) (kA ρ : Nat → Nat) (HB : Heap) (S : HSt) (a0 : Nat) (res : Int32 × HSt) (h : f_X9_place S a0 = some res) : Met l yX9_place w_X9_place rm_X9_place (hPc D kA ρ HB S [.ref a0]) (hQi D kA HB S res) 0 0 (hFree HB) := by
  refine Met.ofW (cc := cX9_place) (maxL := 1) (ret := (Option.some FieldType.int)) (by decide) rfl ?_
  intro p e s m args below meth c s₁ B hml hv
  obtain ⟨rfl, hE, h0⟩ := hv
  have hx := B.exec
  have hb := B.bytes
  have hr := B.returns
  have hts0 := atoms_spec (ws := w_X9_place) B.pre
  have hts : ∀ w ∈ lwG, w.before _ s = true := fun w hw => hts0 w (List.mem_cons_of_mem _ hw)
  have hown : s.vm.findClass RX9 = some m.cls := findClass_of_methodNamed B.named
  have hlocks := B.notSynchronized
  have hI : hqX D kA HB S.2 S s.heap [] := ⟨h0, Nat.le_refl _, fun _ q => absurd q List.not_mem_nil⟩
  have hl := lv_entry ([.ref a0]) (n := 1) (Nat.le_of_ble_eq_true rfl)
  rw [lg_entry_eq]
  generalize (lg_sl ([.ref a0]) ++ List.replicate (1 - (lg_sl ([.ref a0])).length) Slot.unset).toArray = ls at hl ⊢
  have hl : lv_has ls 1 [(0, .ref a0)] := hl
  unfold f_X9_place at h
  refine lv_aload_n hx hb dX9_place_0 rfl (lv_at hl 0 rfl) ?_
  obtain ⟨v1, g2, h⟩ := hq_bind h
  obtain ⟨c_g2, fs_g2, hk_g2, hs_g2, hv_g2⟩ := gIT_at g2
  obtain ⟨C_g2, hc_g2, hi_g2⟩ := hKin_at hk_g2
  refine hq_get hx hb hts hown hE hI hs_g2 hi_g2 hc_g2 6 (by decide) kw_230 hv_g2 dX9_place_1 ?_
  exact hq_iret hx hb hr hlocks h0 hI h dX9_place_4
-- RodDips$Try.begin(I)V
theorem dX9_begin_0 : decode cX9_begin 0 = .ok (.aload_n 0, 1) := by decide +kernel
theorem dX9_begin_1 : decode cX9_begin 1 = .ok (.getfield 7, 3) := by decide +kernel
theorem dX9_begin_4 : decode cX9_begin 4 = .ok (.ifnull 11, 3) := by decide +kernel
theorem dX9_begin_7 : decode cX9_begin 7 = .ok (.aload_n 0, 1) := by decide +kernel
theorem dX9_begin_8 : decode cX9_begin 8 = .ok (.getfield 7, 3) := by decide +kernel
theorem dX9_begin_11 : decode cX9_begin 11 = .ok (.iload_n 1, 1) := by decide +kernel
theorem dX9_begin_12 : decode cX9_begin 12 = .ok (.invokevirtual 20, 3) := by decide +kernel
theorem dX9_begin_15 : decode cX9_begin 15 = .ok (.return_, 1) := by decide +kernel
def f_X9_begin (S : HSt) (a0 : Nat) (a1 : Int32) : Option (HSt) := (gRT S a0 0).bind fun b1 => oC b1 (some S) fun r3 => (gRT S a0 0).bind fun b4 => oC b4 (none) fun r6 => if gC S r6 = some 8 then ((f_X8_add S r6 a1).bind fun S9 => some S9) else none
abbrev rm_X9_begin : Room := { frames := 1, cells := 0, slots := 0, locals := 21 }
abbrev w_X9_begin : List Cond := Cond.code yX9_begin cX9_begin 2 none :: lwG
theorem yd_X9_begin : yX9_begin.cls ≠ "java/lang/invoke/MethodHandle" ∧ yX9_begin.cls ≠ "java/lang/invoke/VarHandle" ∧ (parseMethodDescriptor yX9_begin.desc).map (fun d => d.parameters.length) = some 1 := by decide +kernel
theorem ye_X9_begin : yX9_begin.cls = RX9 ∧ yX9_begin.cls ≠ "java/lang/invoke/MethodHandle" ∧ yX9_begin.cls ≠ "java/lang/invoke/VarHandle" ∧ (parseMethodDescriptor yX9_begin.desc).map (fun d => d.parameters.length) = some 1 := by decide +kernel
set_option maxHeartbeats 4000000 in
set_option maxRecDepth 100000 in
theorem c_X9_begin (l : Launch) (D : va_G) (kA ρ : Nat → Nat) (HB : Heap) (S : HSt) (a0 : Nat) (a1 : Int32) (res : HSt) (h : f_X9_begin S a0 a1 = some res) : Met l yX9_begin w_X9_begin rm_X9_begin (hPc D kA ρ HB S [.ref a0, .int a1]) (hQv D kA HB S res) 0 0 (hFree HB) := by
  refine Met.ofW (cc := cX9_begin) (maxL := 2) (ret := none) (by decide) rfl ?_
  intro p e s m args below meth c s₁ B hml hv
  obtain ⟨rfl, hE, h0⟩ := hv
  have hx := B.exec
  have hb := B.bytes
  have hr := B.returns
  have hts0 := atoms_spec (ws := w_X9_begin) B.pre
  have hts : ∀ w ∈ lwG, w.before _ s = true := fun w hw => hts0 w (List.mem_cons_of_mem _ hw)
  have hown : s.vm.findClass RX9 = some m.cls := findClass_of_methodNamed B.named
  have hlocks := B.notSynchronized
  have hI : hqX D kA HB S.2 S s.heap [] := ⟨h0, Nat.le_refl _, fun _ q => absurd q List.not_mem_nil⟩
  have hl := lv_entry ([.ref a0, .int a1]) (n := 2) (Nat.le_of_ble_eq_true rfl)
  rw [lg_entry_eq]
  generalize (lg_sl ([.ref a0, .int a1]) ++ List.replicate (2 - (lg_sl ([.ref a0, .int a1])).length) Slot.unset).toArray = ls at hl ⊢
  have hl : lv_has ls 2 [(0, .ref a0), (1, .int a1)] := hl
  unfold f_X9_begin at h
  refine lv_aload_n hx hb dX9_begin_0 rfl (lv_at hl 0 rfl) ?_
  obtain ⟨b1, g2, h⟩ := hq_bind h
  obtain ⟨c_g2, fs_g2, hk_g2, hs_g2, hv_g2⟩ := gRT_at g2
  obtain ⟨C_g2, hc_g2, hi_g2⟩ := hKin_at hk_g2
  refine hq_get hx hb hts hown hE hI hs_g2 hi_g2 hc_g2 0 (by decide) kw_218 hv_g2 dX9_begin_1 ?_
  rcases b1 with _ | r3
  · have h := oC_n h
    refine lv_ifnullN (tgt := 15) hx hb dX9_begin_4 (by decide) ?_
    exact hq_vret hx hb hr hlocks h0 hI h dX9_begin_15
  · have h := oC_s h
    refine lv_ifnull hx hb dX9_begin_4 ?_
    refine lv_aload_n hx hb dX9_begin_7 rfl (lv_at hl 0 rfl) ?_
    obtain ⟨b4, g5, h⟩ := hq_bind h
    obtain ⟨c_g5, fs_g5, hk_g5, hs_g5, hv_g5⟩ := gRT_at g5
    obtain ⟨C_g5, hc_g5, hi_g5⟩ := hKin_at hk_g5
    refine hq_get hx hb hts hown hE hI hs_g5 hi_g5 hc_g5 0 (by decide) kw_218 hv_g5 dX9_begin_8 ?_
    rcases b4 with _ | r6
    · have h := oC_n h
      refine lv_iload_n hx hb dX9_begin_11 rfl (lv_at hl 1 rfl) ?_
      cases h
    · have h := oC_s h
      refine lv_iload_n hx hb dX9_begin_11 rfl (lv_at hl 1 rfl) ?_
      obtain ⟨g8, h⟩ := hq_g h
      obtain ⟨S9, g7, h⟩ := hq_bind h
      refine hq_callv hI (va_runV (As := [.int a1]) (rest := []) ⟨hx, hb, hml, hown, hts⟩ (c_X8_add l D kA ρ HB S r6 a1 _ g7) (cwV 1 hts (gdIn (List.forall_mem_cons.mpr ⟨kw_813, (List.forall_mem_cons.mpr ⟨kw_814, (List.forall_mem_cons.mpr ⟨kw_815, (List.forall_mem_cons.mpr ⟨kw_4, (fun _ h => absurd h List.not_mem_nil)⟩)⟩)⟩)⟩) kw_816) rfl rfl rfl ye_X8_add ⟨Nat.le_of_ble_eq_true rfl, Nat.le_of_ble_eq_true rfl⟩) (hq_preC hE hI g8 rfl _) rfl rfl hl.1 rfl (lv_room (Nat.le_of_ble_eq_true rfl)) dX9_begin_12 ⟨Nat.le_of_ble_eq_true rfl, Nat.le_of_ble_eq_true rfl⟩) (fun H locs hI => ?_)
      exact hq_vret hx hb hr hlocks h0 hI h dX9_begin_15
-- RodDips$Try.valueOf(II)I
theorem dX9_valueOf_0 : decode cX9_valueOf 0 = .ok (.iload_n 1, 1) := by decide +kernel
theorem dX9_valueOf_1 : decode cX9_valueOf 1 = .ok (.tableswitch 139 100 120 #[104, 139, 139, 139, 139, 139, 139, 109, 139, 99, 129, 139, 134, 139, 139, 124, 119, 139, 139, 139, 114], 99) := by decide +kernel
theorem dX9_valueOf_100 : decode cX9_valueOf 100 = .ok (.aload_n 0, 1) := by decide +kernel
theorem dX9_valueOf_101 : decode cX9_valueOf 101 = .ok (.getfield 26, 3) := by decide +kernel
theorem dX9_valueOf_104 : decode cX9_valueOf 104 = .ok (.ireturn, 1) := by decide +kernel
theorem dX9_valueOf_105 : decode cX9_valueOf 105 = .ok (.aload_n 0, 1) := by decide +kernel
theorem dX9_valueOf_106 : decode cX9_valueOf 106 = .ok (.getfield 29, 3) := by decide +kernel
theorem dX9_valueOf_109 : decode cX9_valueOf 109 = .ok (.ireturn, 1) := by decide +kernel
theorem dX9_valueOf_110 : decode cX9_valueOf 110 = .ok (.aload_n 0, 1) := by decide +kernel
theorem dX9_valueOf_111 : decode cX9_valueOf 111 = .ok (.getfield 32, 3) := by decide +kernel
theorem dX9_valueOf_114 : decode cX9_valueOf 114 = .ok (.ireturn, 1) := by decide +kernel
theorem dX9_valueOf_115 : decode cX9_valueOf 115 = .ok (.aload_n 0, 1) := by decide +kernel
theorem dX9_valueOf_116 : decode cX9_valueOf 116 = .ok (.getfield 35, 3) := by decide +kernel
theorem dX9_valueOf_119 : decode cX9_valueOf 119 = .ok (.ireturn, 1) := by decide +kernel
theorem dX9_valueOf_120 : decode cX9_valueOf 120 = .ok (.aload_n 0, 1) := by decide +kernel
theorem dX9_valueOf_121 : decode cX9_valueOf 121 = .ok (.getfield 13, 3) := by decide +kernel
theorem dX9_valueOf_124 : decode cX9_valueOf 124 = .ok (.ireturn, 1) := by decide +kernel
theorem dX9_valueOf_125 : decode cX9_valueOf 125 = .ok (.aload_n 0, 1) := by decide +kernel
theorem dX9_valueOf_126 : decode cX9_valueOf 126 = .ok (.getfield 17, 3) := by decide +kernel
theorem dX9_valueOf_129 : decode cX9_valueOf 129 = .ok (.ireturn, 1) := by decide +kernel
theorem dX9_valueOf_130 : decode cX9_valueOf 130 = .ok (.aload_n 0, 1) := by decide +kernel
theorem dX9_valueOf_131 : decode cX9_valueOf 131 = .ok (.getfield 38, 3) := by decide +kernel
theorem dX9_valueOf_134 : decode cX9_valueOf 134 = .ok (.ireturn, 1) := by decide +kernel
theorem dX9_valueOf_135 : decode cX9_valueOf 135 = .ok (.aload_n 0, 1) := by decide +kernel
theorem dX9_valueOf_136 : decode cX9_valueOf 136 = .ok (.getfield 41, 3) := by decide +kernel
theorem dX9_valueOf_139 : decode cX9_valueOf 139 = .ok (.ireturn, 1) := by decide +kernel
theorem dX9_valueOf_140 : decode cX9_valueOf 140 = .ok (.iload_n 2, 1) := by decide +kernel
theorem dX9_valueOf_141 : decode cX9_valueOf 141 = .ok (.ireturn, 1) := by decide +kernel
def f_X9_valueOf (S : HSt) (a0 : Nat) (a1 : Int32) (a2 : Int32) : Option (Int32 × HSt) := if a1 = 100 then ((gIT S a0 3).bind fun v9 => some (v9, S)) else (if a1 = 107 then ((gIT S a0 4).bind fun v11 => some (v11, S)) else (if a1 = 109 then ((gIT S a0 2).bind fun v13 => some (v13, S)) else (if a1 = 110 then ((gIT S a0 7).bind fun v15 => some (v15, S)) else (if a1 = 112 then ((gIT S a0 5).bind fun v17 => some (v17, S)) else (if a1 = 115 then ((gIT S a0 6).bind fun v19 => some (v19, S)) else (if a1 = 116 then ((gIT S a0 1).bind fun v21 => some (v21, S)) else (if a1 = 120 then ((gIT S a0 8).bind fun v23 => some (v23, S)) else (some (a2, S)))))))))
abbrev rm_X9_valueOf : Room := { frames := 0, cells := 0, slots := 0, locals := 0 }
abbrev w_X9_valueOf : List Cond := Cond.code yX9_valueOf cX9_valueOf 3 (Option.some FieldType.int) :: lwG
theorem yd_X9_valueOf : yX9_valueOf.cls ≠ "java/lang/invoke/MethodHandle" ∧ yX9_valueOf.cls ≠ "java/lang/invoke/VarHandle" ∧ (parseMethodDescriptor yX9_valueOf.desc).map (fun d => d.parameters.length) = some 2 := by decide +kernel
theorem ye_X9_valueOf : yX9_valueOf.cls = RX9 ∧ yX9_valueOf.cls ≠ "java/lang/invoke/MethodHandle" ∧ yX9_valueOf.cls ≠ "java/lang/invoke/VarHandle" ∧ (parseMethodDescriptor yX9_valueOf.desc).map (fun d => d.parameters.length) = some 2 := by decide +kernel
set_option maxHeartbeats 4000000 in
set_option maxRecDepth 100000 in
theorem c_X9_valueOf (l : Launch) (D : va_G) (kA ρ : Nat → Nat) (HB : Heap) (S : HSt) (a0 : Nat) (a1 : Int32) (a2 : Int32) (res : Int32 × HSt) (h : f_X9_valueOf S a0 a1 a2 = some res) : Met l yX9_valueOf w_X9_valueOf rm_X9_valueOf (hPc D kA ρ HB S [.ref a0, .int a1, .int a2]) (hQi D kA HB S res) 0 0 (hFree HB) := by
  refine Met.ofW (cc := cX9_valueOf) (maxL := 3) (ret := (Option.some FieldType.int)) (by decide) rfl ?_
  intro p e s m args below meth c s₁ B hml hv
  obtain ⟨rfl, hE, h0⟩ := hv
  have hx := B.exec
  have hb := B.bytes
  have hr := B.returns
  have hts0 := atoms_spec (ws := w_X9_valueOf) B.pre
  have hts : ∀ w ∈ lwG, w.before _ s = true := fun w hw => hts0 w (List.mem_cons_of_mem _ hw)
  have hown : s.vm.findClass RX9 = some m.cls := findClass_of_methodNamed B.named
  have hlocks := B.notSynchronized
  have hI : hqX D kA HB S.2 S s.heap [] := ⟨h0, Nat.le_refl _, fun _ q => absurd q List.not_mem_nil⟩
  have hl := lv_entry ([.ref a0, .int a1, .int a2]) (n := 3) (Nat.le_of_ble_eq_true rfl)
  rw [lg_entry_eq]
  generalize (lg_sl ([.ref a0, .int a1, .int a2]) ++ List.replicate (3 - (lg_sl ([.ref a0, .int a1, .int a2])).length) Slot.unset).toArray = ls at hl ⊢
  have hl : lv_has ls 3 [(0, .ref a0), (1, .int a1), (2, .int a2)] := hl
  unfold f_X9_valueOf at h
  refine lv_iload_n hx hb dX9_valueOf_0 rfl (lv_at hl 1 rfl) ?_
  by_cases c1 : a1 = 100
  · have h := hq_t h c1
    refine lv_tableIn (tgt := 105) hx hb dX9_valueOf_1 (by rw [c1]; decide) (by rw [c1]; decide) (by rw [c1]; rfl) (by decide) ?_
    refine lv_aload_n hx hb dX9_valueOf_105 rfl (lv_at hl 0 rfl) ?_
    obtain ⟨v9, g10, h⟩ := hq_bind h
    obtain ⟨c_g10, fs_g10, hk_g10, hs_g10, hv_g10⟩ := gIT_at g10
    obtain ⟨C_g10, hc_g10, hi_g10⟩ := hKin_at hk_g10
    refine hq_get hx hb hts hown hE hI hs_g10 hi_g10 hc_g10 3 (by decide) kw_224 hv_g10 dX9_valueOf_106 ?_
    exact hq_iret hx hb hr hlocks h0 hI h dX9_valueOf_109
  have h := hq_f h c1
  by_cases c2 : a1 = 107
  · have h := hq_t h c2
    refine lv_tableIn (tgt := 110) hx hb dX9_valueOf_1 (by rw [c2]; decide) (by rw [c2]; decide) (by rw [c2]; rfl) (by decide) ?_
    refine lv_aload_n hx hb dX9_valueOf_110 rfl (lv_at hl 0 rfl) ?_
    obtain ⟨v11, g12, h⟩ := hq_bind h
    obtain ⟨c_g12, fs_g12, hk_g12, hs_g12, hv_g12⟩ := gIT_at g12
    obtain ⟨C_g12, hc_g12, hi_g12⟩ := hKin_at hk_g12
    refine hq_get hx hb hts hown hE hI hs_g12 hi_g12 hc_g12 4 (by decide) kw_226 hv_g12 dX9_valueOf_111 ?_
    exact hq_iret hx hb hr hlocks h0 hI h dX9_valueOf_114
  have h := hq_f h c2
  by_cases c3 : a1 = 109
  · have h := hq_t h c3
    refine lv_tableIn (tgt := 100) hx hb dX9_valueOf_1 (by rw [c3]; decide) (by rw [c3]; decide) (by rw [c3]; rfl) (by decide) ?_
    refine lv_aload_n hx hb dX9_valueOf_100 rfl (lv_at hl 0 rfl) ?_
    obtain ⟨v13, g14, h⟩ := hq_bind h
    obtain ⟨c_g14, fs_g14, hk_g14, hs_g14, hv_g14⟩ := gIT_at g14
    obtain ⟨C_g14, hc_g14, hi_g14⟩ := hKin_at hk_g14
    refine hq_get hx hb hts hown hE hI hs_g14 hi_g14 hc_g14 2 (by decide) kw_222 hv_g14 dX9_valueOf_101 ?_
    exact hq_iret hx hb hr hlocks h0 hI h dX9_valueOf_104
  have h := hq_f h c3
  by_cases c4 : a1 = 110
  · have h := hq_t h c4
    refine lv_tableIn (tgt := 130) hx hb dX9_valueOf_1 (by rw [c4]; decide) (by rw [c4]; decide) (by rw [c4]; rfl) (by decide) ?_
    refine lv_aload_n hx hb dX9_valueOf_130 rfl (lv_at hl 0 rfl) ?_
    obtain ⟨v15, g16, h⟩ := hq_bind h
    obtain ⟨c_g16, fs_g16, hk_g16, hs_g16, hv_g16⟩ := gIT_at g16
    obtain ⟨C_g16, hc_g16, hi_g16⟩ := hKin_at hk_g16
    refine hq_get hx hb hts hown hE hI hs_g16 hi_g16 hc_g16 7 (by decide) kw_233 hv_g16 dX9_valueOf_131 ?_
    exact hq_iret hx hb hr hlocks h0 hI h dX9_valueOf_134
  have h := hq_f h c4
  by_cases c5 : a1 = 112
  · have h := hq_t h c5
    refine lv_tableIn (tgt := 135) hx hb dX9_valueOf_1 (by rw [c5]; decide) (by rw [c5]; decide) (by rw [c5]; rfl) (by decide) ?_
    refine lv_aload_n hx hb dX9_valueOf_135 rfl (lv_at hl 0 rfl) ?_
    obtain ⟨v17, g18, h⟩ := hq_bind h
    obtain ⟨c_g18, fs_g18, hk_g18, hs_g18, hv_g18⟩ := gIT_at g18
    obtain ⟨C_g18, hc_g18, hi_g18⟩ := hKin_at hk_g18
    refine hq_get hx hb hts hown hE hI hs_g18 hi_g18 hc_g18 5 (by decide) kw_228 hv_g18 dX9_valueOf_136 ?_
    exact hq_iret hx hb hr hlocks h0 hI h dX9_valueOf_139
  have h := hq_f h c5
  by_cases c6 : a1 = 115
  · have h := hq_t h c6
    refine lv_tableIn (tgt := 125) hx hb dX9_valueOf_1 (by rw [c6]; decide) (by rw [c6]; decide) (by rw [c6]; rfl) (by decide) ?_
    refine lv_aload_n hx hb dX9_valueOf_125 rfl (lv_at hl 0 rfl) ?_
    obtain ⟨v19, g20, h⟩ := hq_bind h
    obtain ⟨c_g20, fs_g20, hk_g20, hs_g20, hv_g20⟩ := gIT_at g20
    obtain ⟨C_g20, hc_g20, hi_g20⟩ := hKin_at hk_g20
    refine hq_get hx hb hts hown hE hI hs_g20 hi_g20 hc_g20 6 (by decide) kw_230 hv_g20 dX9_valueOf_126 ?_
    exact hq_iret hx hb hr hlocks h0 hI h dX9_valueOf_129
  have h := hq_f h c6
  by_cases c7 : a1 = 116
  · have h := hq_t h c7
    refine lv_tableIn (tgt := 120) hx hb dX9_valueOf_1 (by rw [c7]; decide) (by rw [c7]; decide) (by rw [c7]; rfl) (by decide) ?_
    refine lv_aload_n hx hb dX9_valueOf_120 rfl (lv_at hl 0 rfl) ?_
    obtain ⟨v21, g22, h⟩ := hq_bind h
    obtain ⟨c_g22, fs_g22, hk_g22, hs_g22, hv_g22⟩ := gIT_at g22
    obtain ⟨C_g22, hc_g22, hi_g22⟩ := hKin_at hk_g22
    refine hq_get hx hb hts hown hE hI hs_g22 hi_g22 hc_g22 1 (by decide) kw_219 hv_g22 dX9_valueOf_121 ?_
    exact hq_iret hx hb hr hlocks h0 hI h dX9_valueOf_124
  have h := hq_f h c7
  by_cases c8 : a1 = 120
  · have h := hq_t h c8
    refine lv_tableIn (tgt := 115) hx hb dX9_valueOf_1 (by rw [c8]; decide) (by rw [c8]; decide) (by rw [c8]; rfl) (by decide) ?_
    refine lv_aload_n hx hb dX9_valueOf_115 rfl (lv_at hl 0 rfl) ?_
    obtain ⟨v23, g24, h⟩ := hq_bind h
    obtain ⟨c_g24, fs_g24, hk_g24, hs_g24, hv_g24⟩ := gIT_at g24
    obtain ⟨C_g24, hc_g24, hi_g24⟩ := hKin_at hk_g24
    refine hq_get hx hb hts hown hE hI hs_g24 hi_g24 hc_g24 8 (by decide) kw_235 hv_g24 dX9_valueOf_116 ?_
    exact hq_iret hx hb hr hlocks h0 hI h dX9_valueOf_119
  have h := hq_f h c8
  have t_c1 := lv_neT c1 (a := 100) (by decide)
  have t_c2 := lv_neT c2 (a := 107) (by decide)
  have t_c3 := lv_neT c3 (a := 109) (by decide)
  have t_c4 := lv_neT c4 (a := 110) (by decide)
  have t_c5 := lv_neT c5 (a := 112) (by decide)
  have t_c6 := lv_neT c6 (a := 115) (by decide)
  have t_c7 := lv_neT c7 (a := 116) (by decide)
  have t_c8 := lv_neT c8 (a := 120) (by decide)
  have hz : Int32.toInt a1 < 100 ∨ 120 < Int32.toInt a1 ∨ Int32.toInt a1 = 101 ∨ Int32.toInt a1 = 102 ∨ Int32.toInt a1 = 103 ∨ Int32.toInt a1 = 104 ∨ Int32.toInt a1 = 105 ∨ Int32.toInt a1 = 106 ∨ Int32.toInt a1 = 108 ∨ Int32.toInt a1 = 111 ∨ Int32.toInt a1 = 113 ∨ Int32.toInt a1 = 114 ∨ Int32.toInt a1 = 117 ∨ Int32.toInt a1 = 118 ∨ Int32.toInt a1 = 119 := by omega
  refine hq_table (tgt := 140) hx hb dX9_valueOf_1 (by rcases hz with q | q | q | q | q | q | q | q | q | q | q | q | q | q | q <;> first | exact Or.inl ⟨Or.inl q, by decide⟩ | exact Or.inl ⟨Or.inr q, by decide⟩ | exact Or.inr ⟨by rw [q]; decide, by rw [q]; decide, _, by rw [q]; rfl, by decide⟩) ?_
  refine lv_iload_n hx hb dX9_valueOf_140 rfl (lv_at hl 2 rfl) ?_
  exact hq_iret hx hb hr hlocks h0 hI h dX9_valueOf_141
-- RodDips$Try.say(I)I
theorem dX9_say_0 : decode cX9_say 0 = .ok (.aload_n 0, 1) := by decide +kernel
theorem dX9_say_1 : decode cX9_say 1 = .ok (.iconst 1, 1) := by decide +kernel
theorem dX9_say_2 : decode cX9_say 2 = .ok (.invokevirtual 44, 3) := by decide +kernel
theorem dX9_say_5 : decode cX9_say 5 = .ok (.iload_n 1, 1) := by decide +kernel
theorem dX9_say_6 : decode cX9_say 6 = .ok (.aload_n 0, 1) := by decide +kernel
theorem dX9_say_7 : decode cX9_say 7 = .ok (.getfield 13, 3) := by decide +kernel
theorem dX9_say_10 : decode cX9_say 10 = .ok (.iadd, 1) := by decide +kernel
theorem dX9_say_11 : decode cX9_say 11 = .ok (.ireturn, 1) := by decide +kernel
def fv_X9_begin (S : HSt) (a0 : Nat) (a1 : Int32) : Option (HSt) := oC (gC S a0) none fun k => if k = 0 then f_X9_begin S a0 a1 else if k = 1 then f_X9_begin S a0 a1 else if k = 2 then f_X9_begin S a0 a1 else if k = 3 then f_X9_begin S a0 a1 else if k = 5 then f_X9_begin S a0 a1 else if k = 9 then f_X9_begin S a0 a1 else if k = 10 then f_X9_begin S a0 a1 else none
def f_X9_say (S : HSt) (a0 : Nat) (a1 : Int32) : Option (Int32 × HSt) := (fv_X9_begin S a0 1).bind fun S2 => (gIT S2 a0 1).bind fun v3 => some (a1 + v3, S2)
abbrev rm_X9_say : Room := { frames := 2, cells := 0, slots := 0, locals := 42 }
abbrev w_X9_say : List Cond := Cond.code yX9_say cX9_say 2 (Option.some FieldType.int) :: lwG
theorem yd_X9_say : yX9_say.cls ≠ "java/lang/invoke/MethodHandle" ∧ yX9_say.cls ≠ "java/lang/invoke/VarHandle" ∧ (parseMethodDescriptor yX9_say.desc).map (fun d => d.parameters.length) = some 1 := by decide +kernel
theorem ye_X9_say : yX9_say.cls = RX9 ∧ yX9_say.cls ≠ "java/lang/invoke/MethodHandle" ∧ yX9_say.cls ≠ "java/lang/invoke/VarHandle" ∧ (parseMethodDescriptor yX9_say.desc).map (fun d => d.parameters.length) = some 1 := by decide +kernel
set_option maxHeartbeats 4000000 in
set_option maxRecDepth 100000 in
theorem c_X9_say (l : Launch) (D : va_G) (kA ρ : Nat → Nat) (HB : Heap) (S : HSt) (a0 : Nat) (a1 : Int32) (res : Int32 × HSt) (h : f_X9_say S a0 a1 = some res) : Met l yX9_say w_X9_say rm_X9_say (hPc D kA ρ HB S [.ref a0, .int a1]) (hQi D kA HB S res) 0 0 (hFree HB) := by
  refine Met.ofW (cc := cX9_say) (maxL := 2) (ret := (Option.some FieldType.int)) (by decide) rfl ?_
  intro p e s m args below meth c s₁ B hml hv
  obtain ⟨rfl, hE, h0⟩ := hv
  have hx := B.exec
  have hb := B.bytes
  have hr := B.returns
  have hts0 := atoms_spec (ws := w_X9_say) B.pre
  have hts : ∀ w ∈ lwG, w.before _ s = true := fun w hw => hts0 w (List.mem_cons_of_mem _ hw)
  have hown : s.vm.findClass RX9 = some m.cls := findClass_of_methodNamed B.named
  have hlocks := B.notSynchronized
  have hI : hqX D kA HB S.2 S s.heap [] := ⟨h0, Nat.le_refl _, fun _ q => absurd q List.not_mem_nil⟩
  generalize s.heap = H at hI ⊢
  generalize ([] : List Loc) = locs at hI ⊢
  have hl := lv_entry ([.ref a0, .int a1]) (n := 2) (Nat.le_of_ble_eq_true rfl)
  rw [lg_entry_eq]
  generalize (lg_sl ([.ref a0, .int a1]) ++ List.replicate (2 - (lg_sl ([.ref a0, .int a1])).length) Slot.unset).toArray = ls at hl ⊢
  have hl : lv_has ls 2 [(0, .ref a0), (1, .int a1)] := hl
  unfold f_X9_say at h
  refine lv_aload_n hx hb dX9_say_0 rfl (lv_at hl 0 rfl) ?_
  refine lv_iconst (v := 1) hx hb dX9_say_1 (by decide) ?_
  obtain ⟨S2, g1, h⟩ := hq_bind h
  have hrun_g1 : va_Run p l e rm_X9_say s m ([.ref a0, .int a1] : List Value).toArray below meth c H locs 0 0 0 0 (F0 m 2 ls [.int 1, .ref a0]) [] (hQv D kA HB S S2 ([.ref a0, .int 1] : List Value).toArray) (hFree HB) := by
    unfold fv_X9_begin at g1
    rcases hk_g1 : gC S a0 with _ | k_g1
    · rw [hk_g1] at g1
      cases g1
    · rw [hk_g1] at g1
      have g1 := oC_s g1
      by_cases k0_g1 : k_g1 = 0
      · subst k0_g1
        have g1 := hq_t g1 rfl
        exact va_runU (As := [.int 1]) (rest := []) ⟨hx, hb, hml, hown, hts⟩ (c_X9_begin l D kA ρ HB S a0 1 _ g1) (va_cwU 1 hts (gdIn (List.forall_mem_cons.mpr ⟨kw_837, (List.forall_mem_cons.mpr ⟨kw_1366, (List.forall_mem_cons.mpr ⟨kw_1367, (List.forall_mem_cons.mpr ⟨kw_811, (List.forall_mem_cons.mpr ⟨kw_7, (fun _ h => absurd h List.not_mem_nil)⟩)⟩)⟩)⟩)⟩) kw_812) rfl rfl rfl rfl (by decide +kernel) ⟨Nat.le_of_ble_eq_true rfl, Nat.le_of_ble_eq_true rfl⟩) (hq_preC hE hI hk_g1 rfl _) rfl rfl hl.1 rfl (lv_room (Nat.le_of_ble_eq_true rfl)) dX9_say_2 ⟨Nat.le_of_ble_eq_true rfl, Nat.le_of_ble_eq_true rfl⟩
      have g1 := hq_f g1 k0_g1
      by_cases k1_g1 : k_g1 = 1
      · subst k1_g1
        have g1 := hq_t g1 rfl
        exact va_runU (As := [.int 1]) (rest := []) ⟨hx, hb, hml, hown, hts⟩ (c_X9_begin l D kA ρ HB S a0 1 _ g1) (va_cwU 1 hts (gdIn (List.forall_mem_cons.mpr ⟨kw_837, (List.forall_mem_cons.mpr ⟨kw_1366, (List.forall_mem_cons.mpr ⟨kw_1368, (List.forall_mem_cons.mpr ⟨kw_811, (List.forall_mem_cons.mpr ⟨kw_7, (fun _ h => absurd h List.not_mem_nil)⟩)⟩)⟩)⟩)⟩) kw_812) rfl rfl rfl rfl (by decide +kernel) ⟨Nat.le_of_ble_eq_true rfl, Nat.le_of_ble_eq_true rfl⟩) (hq_preC hE hI hk_g1 rfl _) rfl rfl hl.1 rfl (lv_room (Nat.le_of_ble_eq_true rfl)) dX9_say_2 ⟨Nat.le_of_ble_eq_true rfl, Nat.le_of_ble_eq_true rfl⟩
      have g1 := hq_f g1 k1_g1
      by_cases k2_g1 : k_g1 = 2
      · subst k2_g1
        have g1 := hq_t g1 rfl
        exact va_runU (As := [.int 1]) (rest := []) ⟨hx, hb, hml, hown, hts⟩ (c_X9_begin l D kA ρ HB S a0 1 _ g1) (va_cwU 1 hts (gdIn (List.forall_mem_cons.mpr ⟨kw_837, (List.forall_mem_cons.mpr ⟨kw_1366, (List.forall_mem_cons.mpr ⟨kw_1369, (List.forall_mem_cons.mpr ⟨kw_811, (List.forall_mem_cons.mpr ⟨kw_7, (fun _ h => absurd h List.not_mem_nil)⟩)⟩)⟩)⟩)⟩) kw_812) rfl rfl rfl rfl (by decide +kernel) ⟨Nat.le_of_ble_eq_true rfl, Nat.le_of_ble_eq_true rfl⟩) (hq_preC hE hI hk_g1 rfl _) rfl rfl hl.1 rfl (lv_room (Nat.le_of_ble_eq_true rfl)) dX9_say_2 ⟨Nat.le_of_ble_eq_true rfl, Nat.le_of_ble_eq_true rfl⟩
      have g1 := hq_f g1 k2_g1
      by_cases k3_g1 : k_g1 = 3
      · subst k3_g1
        have g1 := hq_t g1 rfl
        exact va_runU (As := [.int 1]) (rest := []) ⟨hx, hb, hml, hown, hts⟩ (c_X9_begin l D kA ρ HB S a0 1 _ g1) (va_cwU 1 hts (gdIn (List.forall_mem_cons.mpr ⟨kw_837, (List.forall_mem_cons.mpr ⟨kw_1366, (List.forall_mem_cons.mpr ⟨kw_1370, (List.forall_mem_cons.mpr ⟨kw_811, (List.forall_mem_cons.mpr ⟨kw_7, (fun _ h => absurd h List.not_mem_nil)⟩)⟩)⟩)⟩)⟩) kw_812) rfl rfl rfl rfl (by decide +kernel) ⟨Nat.le_of_ble_eq_true rfl, Nat.le_of_ble_eq_true rfl⟩) (hq_preC hE hI hk_g1 rfl _) rfl rfl hl.1 rfl (lv_room (Nat.le_of_ble_eq_true rfl)) dX9_say_2 ⟨Nat.le_of_ble_eq_true rfl, Nat.le_of_ble_eq_true rfl⟩
      have g1 := hq_f g1 k3_g1
      by_cases k5_g1 : k_g1 = 5
      · subst k5_g1
        have g1 := hq_t g1 rfl
        exact va_runU (As := [.int 1]) (rest := []) ⟨hx, hb, hml, hown, hts⟩ (c_X9_begin l D kA ρ HB S a0 1 _ g1) (va_cwU 1 hts (gdIn (List.forall_mem_cons.mpr ⟨kw_837, (List.forall_mem_cons.mpr ⟨kw_1366, (List.forall_mem_cons.mpr ⟨kw_1371, (List.forall_mem_cons.mpr ⟨kw_811, (List.forall_mem_cons.mpr ⟨kw_7, (fun _ h => absurd h List.not_mem_nil)⟩)⟩)⟩)⟩)⟩) kw_812) rfl rfl rfl rfl (by decide +kernel) ⟨Nat.le_of_ble_eq_true rfl, Nat.le_of_ble_eq_true rfl⟩) (hq_preC hE hI hk_g1 rfl _) rfl rfl hl.1 rfl (lv_room (Nat.le_of_ble_eq_true rfl)) dX9_say_2 ⟨Nat.le_of_ble_eq_true rfl, Nat.le_of_ble_eq_true rfl⟩
      have g1 := hq_f g1 k5_g1
      by_cases k9_g1 : k_g1 = 9
      · subst k9_g1
        have g1 := hq_t g1 rfl
        exact va_runV (As := [.int 1]) (rest := []) ⟨hx, hb, hml, hown, hts⟩ (c_X9_begin l D kA ρ HB S a0 1 _ g1) (cwV 1 hts (gdIn (List.forall_mem_cons.mpr ⟨kw_837, (List.forall_mem_cons.mpr ⟨kw_811, (List.forall_mem_cons.mpr ⟨kw_1372, (List.forall_mem_cons.mpr ⟨kw_7, (fun _ h => absurd h List.not_mem_nil)⟩)⟩)⟩)⟩) kw_812) rfl rfl rfl ye_X9_begin ⟨Nat.le_of_ble_eq_true rfl, Nat.le_of_ble_eq_true rfl⟩) (hq_preC hE hI hk_g1 rfl _) rfl rfl hl.1 rfl (lv_room (Nat.le_of_ble_eq_true rfl)) dX9_say_2 ⟨Nat.le_of_ble_eq_true rfl, Nat.le_of_ble_eq_true rfl⟩
      have g1 := hq_f g1 k9_g1
      by_cases k10_g1 : k_g1 = 10
      · subst k10_g1
        have g1 := hq_t g1 rfl
        exact va_runU (As := [.int 1]) (rest := []) ⟨hx, hb, hml, hown, hts⟩ (c_X9_begin l D kA ρ HB S a0 1 _ g1) (va_cwU 1 hts (gdIn (List.forall_mem_cons.mpr ⟨kw_837, (List.forall_mem_cons.mpr ⟨kw_1366, (List.forall_mem_cons.mpr ⟨kw_1373, (List.forall_mem_cons.mpr ⟨kw_811, (List.forall_mem_cons.mpr ⟨kw_7, (fun _ h => absurd h List.not_mem_nil)⟩)⟩)⟩)⟩)⟩) kw_812) rfl rfl rfl rfl (by decide +kernel) ⟨Nat.le_of_ble_eq_true rfl, Nat.le_of_ble_eq_true rfl⟩) (hq_preC hE hI hk_g1 rfl _) rfl rfl hl.1 rfl (lv_room (Nat.le_of_ble_eq_true rfl)) dX9_say_2 ⟨Nat.le_of_ble_eq_true rfl, Nat.le_of_ble_eq_true rfl⟩
      have g1 := hq_f g1 k10_g1
      cases g1
  refine hq_callv hI hrun_g1 (fun H locs hI => ?_)
  refine lv_iload_n hx hb dX9_say_5 rfl (lv_at hl 1 rfl) ?_
  refine lv_aload_n hx hb dX9_say_6 rfl (lv_at hl 0 rfl) ?_
  obtain ⟨v3, g4, h⟩ := hq_bind h
  obtain ⟨c_g4, fs_g4, hk_g4, hs_g4, hv_g4⟩ := gIT_at g4
  obtain ⟨C_g4, hc_g4, hi_g4⟩ := hKin_at hk_g4
  refine hq_get hx hb hts hown hE hI hs_g4 hi_g4 hc_g4 1 (by decide) kw_219 hv_g4 dX9_say_7 ?_
  refine lv_iadd hx hb dX9_say_10 ?_
  exact hq_iret hx hb hr hlocks h0 hI h dX9_say_11
-- RodDips$Boxed.say(I)I
theorem dX1_say_0 : decode cX1_say 0 = .ok (.aload_n 0, 1) := by decide +kernel
theorem dX1_say_1 : decode cX1_say 1 = .ok (.bipush 51, 2) := by decide +kernel
theorem dX1_say_3 : decode cX1_say 3 = .ok (.invokevirtual 7, 3) := by decide +kernel
theorem dX1_say_6 : decode cX1_say 6 = .ok (.aload_n 0, 1) := by decide +kernel
theorem dX1_say_7 : decode cX1_say 7 = .ok (.iload_n 1, 1) := by decide +kernel
theorem dX1_say_8 : decode cX1_say 8 = .ok (.invokespecial 13, 3) := by decide +kernel
theorem dX1_say_11 : decode cX1_say 11 = .ok (.aload_n 0, 1) := by decide +kernel
theorem dX1_say_12 : decode cX1_say 12 = .ok (.invokevirtual 17, 3) := by decide +kernel
theorem dX1_say_15 : decode cX1_say 15 = .ok (.ixor, 1) := by decide +kernel
theorem dX1_say_16 : decode cX1_say 16 = .ok (.ireturn, 1) := by decide +kernel
def fv_X1_begin (S : HSt) (a0 : Nat) (a1 : Int32) : Option (HSt) := oC (gC S a0) none fun k => if k = 1 then f_X9_begin S a0 a1 else none
def fv_X1_number (S : HSt) (a0 : Nat) : Option (Int32 × HSt) := oC (gC S a0) none fun k => if k = 1 then f_X9_number S a0 else none
def f_X1_say (S : HSt) (a0 : Nat) (a1 : Int32) : Option (Int32 × HSt) := (fv_X1_begin S a0 51).bind fun S2 => if gK S2 a0 = true then (bd2 (f_X9_say S2 a0 a1) fun v6 S5 => bd2 (fv_X1_number S5 a0) fun v9 S8 => some (v6 ^^^ v9, S8)) else none
abbrev rm_X1_say : Room := { frames := 3, cells := 0, slots := 0, locals := 63 }
abbrev w_X1_say : List Cond := Cond.code yX1_say cX1_say 2 (Option.some FieldType.int) :: lwG
theorem yd_X1_say : yX1_say.cls ≠ "java/lang/invoke/MethodHandle" ∧ yX1_say.cls ≠ "java/lang/invoke/VarHandle" ∧ (parseMethodDescriptor yX1_say.desc).map (fun d => d.parameters.length) = some 1 := by decide +kernel
theorem ye_X1_say : yX1_say.cls = RX1 ∧ yX1_say.cls ≠ "java/lang/invoke/MethodHandle" ∧ yX1_say.cls ≠ "java/lang/invoke/VarHandle" ∧ (parseMethodDescriptor yX1_say.desc).map (fun d => d.parameters.length) = some 1 := by decide +kernel
set_option maxHeartbeats 4000000 in
set_option maxRecDepth 100000 in
theorem c_X1_say (l : Launch) (D : va_G) (kA ρ : Nat → Nat) (HB : Heap) (S : HSt) (a0 : Nat) (a1 : Int32) (res : Int32 × HSt) (h : f_X1_say S a0 a1 = some res) : Met l yX1_say w_X1_say rm_X1_say (hPc D kA ρ HB S [.ref a0, .int a1]) (hQi D kA HB S res) 0 0 (hFree HB) := by
  refine Met.ofW (cc := cX1_say) (maxL := 2) (ret := (Option.some FieldType.int)) (by decide) rfl ?_
  intro p e s m args below meth c s₁ B hml hv
  obtain ⟨rfl, hE, h0⟩ := hv
  have hx := B.exec
  have hb := B.bytes
  have hr := B.returns
  have hts0 := atoms_spec (ws := w_X1_say) B.pre
  have hts : ∀ w ∈ lwG, w.before _ s = true := fun w hw => hts0 w (List.mem_cons_of_mem _ hw)
  have hown : s.vm.findClass RX1 = some m.cls := findClass_of_methodNamed B.named
  have hlocks := B.notSynchronized
  have hI : hqX D kA HB S.2 S s.heap [] := ⟨h0, Nat.le_refl _, fun _ q => absurd q List.not_mem_nil⟩
  generalize s.heap = H at hI ⊢
  generalize ([] : List Loc) = locs at hI ⊢
  have hl := lv_entry ([.ref a0, .int a1]) (n := 2) (Nat.le_of_ble_eq_true rfl)
  rw [lg_entry_eq]
  generalize (lg_sl ([.ref a0, .int a1]) ++ List.replicate (2 - (lg_sl ([.ref a0, .int a1])).length) Slot.unset).toArray = ls at hl ⊢
  have hl : lv_has ls 2 [(0, .ref a0), (1, .int a1)] := hl
  unfold f_X1_say at h
  refine lv_aload_n hx hb dX1_say_0 rfl (lv_at hl 0 rfl) ?_
  refine lv_bipush (v := 51) hx hb dX1_say_1 (by decide) ?_
  obtain ⟨S2, g1, h⟩ := hq_bind h
  have hrun_g1 : va_Run p l e rm_X1_say s m ([.ref a0, .int a1] : List Value).toArray below meth c H locs 0 0 0 0 (F0 m 3 ls [.int 51, .ref a0]) [] (hQv D kA HB S S2 ([.ref a0, .int 51] : List Value).toArray) (hFree HB) := by
    unfold fv_X1_begin at g1
    rcases hk_g1 : gC S a0 with _ | k_g1
    · rw [hk_g1] at g1
      cases g1
    · rw [hk_g1] at g1
      have g1 := oC_s g1
      by_cases k1_g1 : k_g1 = 1
      · subst k1_g1
        have g1 := hq_t g1 rfl
        exact va_runU (As := [.int 51]) (rest := []) ⟨hx, hb, hml, hown, hts⟩ (c_X9_begin l D kA ρ HB S a0 51 _ g1) (va_cwU 1 hts (gdIn (List.forall_mem_cons.mpr ⟨kw_807, (List.forall_mem_cons.mpr ⟨kw_808, (List.forall_mem_cons.mpr ⟨kw_810, (List.forall_mem_cons.mpr ⟨kw_811, (List.forall_mem_cons.mpr ⟨kw_7, (fun _ h => absurd h List.not_mem_nil)⟩)⟩)⟩)⟩)⟩) kw_812) rfl rfl rfl rfl (by decide +kernel) ⟨Nat.le_of_ble_eq_true rfl, Nat.le_of_ble_eq_true rfl⟩) (hq_preC hE hI hk_g1 rfl _) rfl rfl hl.1 rfl (lv_room (Nat.le_of_ble_eq_true rfl)) dX1_say_3 ⟨Nat.le_of_ble_eq_true rfl, Nat.le_of_ble_eq_true rfl⟩
      have g1 := hq_f g1 k1_g1
      cases g1
  refine hq_callv hI hrun_g1 (fun H locs hI => ?_)
  refine lv_aload_n hx hb dX1_say_6 rfl (lv_at hl 0 rfl) ?_
  refine lv_iload_n hx hb dX1_say_7 rfl (lv_at hl 1 rfl) ?_
  obtain ⟨g4, h⟩ := hq_g h
  obtain ⟨v6, S5, g3, h⟩ := hq_bd2 h
  refine hq_calli hI (hq_runSI (As := [.int a1]) (rest := []) (n := 1) hI hE g4 ⟨hx, hb, hml, hown, hts⟩ (c_X9_say l D kA ρ HB S2 a0 a1 _ g3) (gdIn (hd := []) (fun _ h => absurd h List.not_mem_nil) kw_836) rfl rfl kw_817 kw_818 kw_318 kw_270 kw_800 kw_7 rfl rfl (by decide +kernel) ⟨Nat.le_of_ble_eq_true rfl, Nat.le_of_ble_eq_true rfl⟩ rfl rfl hl.1 rfl (lv_room (Nat.le_of_ble_eq_true rfl)) dX1_say_8 ⟨Nat.le_of_ble_eq_true rfl, Nat.le_of_ble_eq_true rfl⟩) (fun H locs hI => ?_)
  refine lv_aload_n hx hb dX1_say_11 rfl (lv_at hl 0 rfl) ?_
  obtain ⟨v9, S8, g7, h⟩ := hq_bd2 h
  have hrun_g7 : va_Run p l e rm_X1_say s m ([.ref a0, .int a1] : List Value).toArray below meth c H locs 0 0 0 0 (F0 m 12 ls [.ref a0, .int v6]) [.int v6] (hQi D kA HB S5 (v9, S8) ([.ref a0] : List Value).toArray) (hFree HB) := by
    unfold fv_X1_number at g7
    rcases hk_g7 : gC S5 a0 with _ | k_g7
    · rw [hk_g7] at g7
      cases g7
    · rw [hk_g7] at g7
      have g7 := oC_s g7
      by_cases k1_g7 : k_g7 = 1
      · subst k1_g7
        have g7 := hq_t g7 rfl
        exact va_runU (As := []) (rest := [.int v6]) ⟨hx, hb, hml, hown, hts⟩ (c_X9_number l D kA ρ HB S5 a0 _ g7) (va_cwU 0 hts (gdIn (List.forall_mem_cons.mpr ⟨kw_820, (List.forall_mem_cons.mpr ⟨kw_821, (List.forall_mem_cons.mpr ⟨kw_823, (List.forall_mem_cons.mpr ⟨kw_824, (List.forall_mem_cons.mpr ⟨kw_7, (fun _ h => absurd h List.not_mem_nil)⟩)⟩)⟩)⟩)⟩) kw_825) rfl rfl rfl rfl (by decide +kernel) ⟨Nat.le_of_ble_eq_true rfl, Nat.le_of_ble_eq_true rfl⟩) (hq_preC hE hI hk_g7 rfl _) rfl rfl hl.1 rfl (lv_room (Nat.le_of_ble_eq_true rfl)) dX1_say_12 ⟨Nat.le_of_ble_eq_true rfl, Nat.le_of_ble_eq_true rfl⟩
      have g7 := hq_f g7 k1_g7
      cases g7
  refine hq_calli hI hrun_g7 (fun H locs hI => ?_)
  refine lv_ixor hx hb dX1_say_15 ?_
  exact hq_iret hx hb hr hlocks h0 hI h dX1_say_16
-- RodDips$Field.say(I)I
theorem dX2_say_0 : decode cX2_say 0 = .ok (.aload_n 0, 1) := by decide +kernel
theorem dX2_say_1 : decode cX2_say 1 = .ok (.bipush 11, 2) := by decide +kernel
theorem dX2_say_3 : decode cX2_say 3 = .ok (.invokevirtual 7, 3) := by decide +kernel
theorem dX2_say_6 : decode cX2_say 6 = .ok (.aload_n 0, 1) := by decide +kernel
theorem dX2_say_7 : decode cX2_say 7 = .ok (.iload_n 1, 1) := by decide +kernel
theorem dX2_say_8 : decode cX2_say 8 = .ok (.iconst 3, 1) := by decide +kernel
theorem dX2_say_9 : decode cX2_say 9 = .ok (.imul, 1) := by decide +kernel
theorem dX2_say_10 : decode cX2_say 10 = .ok (.invokespecial 13, 3) := by decide +kernel
theorem dX2_say_13 : decode cX2_say 13 = .ok (.ireturn, 1) := by decide +kernel
def fv_X2_begin (S : HSt) (a0 : Nat) (a1 : Int32) : Option (HSt) := oC (gC S a0) none fun k => if k = 2 then f_X9_begin S a0 a1 else none
def f_X2_say (S : HSt) (a0 : Nat) (a1 : Int32) : Option (Int32 × HSt) := (fv_X2_begin S a0 11).bind fun S2 => if gK S2 a0 = true then (bd2 (f_X9_say S2 a0 (a1 * 3)) fun v6 S5 => some (v6, S5)) else none
abbrev rm_X2_say : Room := { frames := 3, cells := 0, slots := 0, locals := 63 }
abbrev w_X2_say : List Cond := Cond.code yX2_say cX2_say 2 (Option.some FieldType.int) :: lwG
theorem yd_X2_say : yX2_say.cls ≠ "java/lang/invoke/MethodHandle" ∧ yX2_say.cls ≠ "java/lang/invoke/VarHandle" ∧ (parseMethodDescriptor yX2_say.desc).map (fun d => d.parameters.length) = some 1 := by decide +kernel
theorem ye_X2_say : yX2_say.cls = RX2 ∧ yX2_say.cls ≠ "java/lang/invoke/MethodHandle" ∧ yX2_say.cls ≠ "java/lang/invoke/VarHandle" ∧ (parseMethodDescriptor yX2_say.desc).map (fun d => d.parameters.length) = some 1 := by decide +kernel
set_option maxHeartbeats 4000000 in
set_option maxRecDepth 100000 in
theorem c_X2_say (l : Launch) (D : va_G) (kA ρ : Nat → Nat) (HB : Heap) (S : HSt) (a0 : Nat) (a1 : Int32) (res : Int32 × HSt) (h : f_X2_say S a0 a1 = some res) : Met l yX2_say w_X2_say rm_X2_say (hPc D kA ρ HB S [.ref a0, .int a1]) (hQi D kA HB S res) 0 0 (hFree HB) := by
  refine Met.ofW (cc := cX2_say) (maxL := 2) (ret := (Option.some FieldType.int)) (by decide) rfl ?_
  intro p e s m args below meth c s₁ B hml hv
  obtain ⟨rfl, hE, h0⟩ := hv
  have hx := B.exec
  have hb := B.bytes
  have hr := B.returns
  have hts0 := atoms_spec (ws := w_X2_say) B.pre
  have hts : ∀ w ∈ lwG, w.before _ s = true := fun w hw => hts0 w (List.mem_cons_of_mem _ hw)
  have hown : s.vm.findClass RX2 = some m.cls := findClass_of_methodNamed B.named
  have hlocks := B.notSynchronized
  have hI : hqX D kA HB S.2 S s.heap [] := ⟨h0, Nat.le_refl _, fun _ q => absurd q List.not_mem_nil⟩
  generalize s.heap = H at hI ⊢
  generalize ([] : List Loc) = locs at hI ⊢
  have hl := lv_entry ([.ref a0, .int a1]) (n := 2) (Nat.le_of_ble_eq_true rfl)
  rw [lg_entry_eq]
  generalize (lg_sl ([.ref a0, .int a1]) ++ List.replicate (2 - (lg_sl ([.ref a0, .int a1])).length) Slot.unset).toArray = ls at hl ⊢
  have hl : lv_has ls 2 [(0, .ref a0), (1, .int a1)] := hl
  unfold f_X2_say at h
  refine lv_aload_n hx hb dX2_say_0 rfl (lv_at hl 0 rfl) ?_
  refine lv_bipush (v := 11) hx hb dX2_say_1 (by decide) ?_
  obtain ⟨S2, g1, h⟩ := hq_bind h
  have hrun_g1 : va_Run p l e rm_X2_say s m ([.ref a0, .int a1] : List Value).toArray below meth c H locs 0 0 0 0 (F0 m 3 ls [.int 11, .ref a0]) [] (hQv D kA HB S S2 ([.ref a0, .int 11] : List Value).toArray) (hFree HB) := by
    unfold fv_X2_begin at g1
    rcases hk_g1 : gC S a0 with _ | k_g1
    · rw [hk_g1] at g1
      cases g1
    · rw [hk_g1] at g1
      have g1 := oC_s g1
      by_cases k2_g1 : k_g1 = 2
      · subst k2_g1
        have g1 := hq_t g1 rfl
        exact va_runU (As := [.int 11]) (rest := []) ⟨hx, hb, hml, hown, hts⟩ (c_X9_begin l D kA ρ HB S a0 11 _ g1) (va_cwU 1 hts (gdIn (List.forall_mem_cons.mpr ⟨kw_829, (List.forall_mem_cons.mpr ⟨kw_830, (List.forall_mem_cons.mpr ⟨kw_831, (List.forall_mem_cons.mpr ⟨kw_811, (List.forall_mem_cons.mpr ⟨kw_7, (fun _ h => absurd h List.not_mem_nil)⟩)⟩)⟩)⟩)⟩) kw_812) rfl rfl rfl rfl (by decide +kernel) ⟨Nat.le_of_ble_eq_true rfl, Nat.le_of_ble_eq_true rfl⟩) (hq_preC hE hI hk_g1 rfl _) rfl rfl hl.1 rfl (lv_room (Nat.le_of_ble_eq_true rfl)) dX2_say_3 ⟨Nat.le_of_ble_eq_true rfl, Nat.le_of_ble_eq_true rfl⟩
      have g1 := hq_f g1 k2_g1
      cases g1
  refine hq_callv hI hrun_g1 (fun H locs hI => ?_)
  refine lv_aload_n hx hb dX2_say_6 rfl (lv_at hl 0 rfl) ?_
  refine lv_iload_n hx hb dX2_say_7 rfl (lv_at hl 1 rfl) ?_
  refine lv_iconst (v := 3) hx hb dX2_say_8 (by decide) ?_
  refine lv_imul hx hb dX2_say_9 ?_
  obtain ⟨g4, h⟩ := hq_g h
  obtain ⟨v6, S5, g3, h⟩ := hq_bd2 h
  obtain ⟨k_g4, fs_g4, hk_g4, he_g4⟩ := gK_at g4
  obtain ⟨C_g4, hc_g4, hz_g4⟩ := hKin_at hk_g4
  refine hq_calli hI (va_runSU (As := [.int (a1 * 3)]) (rest := []) (hE.1.1 _ _ hc_g4).2 ⟨hx, hb, hml, hown, hts⟩ (c_X9_say l D kA ρ HB S2 a0 (a1 * 3) _ g3) (va_cwSU 1 hts (gdIn (List.forall_mem_cons.mpr ⟨kw_832, (List.forall_mem_cons.mpr ⟨kw_802, (List.forall_mem_cons.mpr ⟨kw_254, (List.forall_mem_cons.mpr ⟨kw_800, (List.forall_mem_cons.mpr ⟨kw_7, (fun _ h => absurd h List.not_mem_nil)⟩)⟩)⟩)⟩)⟩) kw_836) rfl rfl rfl (by decide +kernel) ⟨Nat.le_of_ble_eq_true rfl, Nat.le_of_ble_eq_true rfl⟩) (hq_preV hE hI he_g4 hc_g4 _) rfl rfl hl.1 rfl (lv_room (Nat.le_of_ble_eq_true rfl)) dX2_say_10 ⟨Nat.le_of_ble_eq_true rfl, Nat.le_of_ble_eq_true rfl⟩) (fun H locs hI => ?_)
  exact hq_iret hx hb hr hlocks h0 hI h dX2_say_13
-- RodDips$Try.know(I)I
theorem dX9_know_0 : decode cX9_know 0 = .ok (.aload_n 0, 1) := by decide +kernel
theorem dX9_know_1 : decode cX9_know 1 = .ok (.iconst 2, 1) := by decide +kernel
theorem dX9_know_2 : decode cX9_know 2 = .ok (.invokevirtual 44, 3) := by decide +kernel
theorem dX9_know_5 : decode cX9_know 5 = .ok (.aload_n 0, 1) := by decide +kernel
theorem dX9_know_6 : decode cX9_know 6 = .ok (.iload_n 1, 1) := by decide +kernel
theorem dX9_know_7 : decode cX9_know 7 = .ok (.invokevirtual 47, 3) := by decide +kernel
theorem dX9_know_10 : decode cX9_know 10 = .ok (.aload_n 0, 1) := by decide +kernel
theorem dX9_know_11 : decode cX9_know 11 = .ok (.getfield 17, 3) := by decide +kernel
theorem dX9_know_14 : decode cX9_know 14 = .ok (.isub, 1) := by decide +kernel
theorem dX9_know_15 : decode cX9_know 15 = .ok (.ireturn, 1) := by decide +kernel
def fv_X9_say (S : HSt) (a0 : Nat) (a1 : Int32) : Option (Int32 × HSt) := oC (gC S a0) none fun k => if k = 0 then f_X9_say S a0 a1 else if k = 1 then f_X1_say S a0 a1 else if k = 2 then f_X2_say S a0 a1 else if k = 3 then f_X9_say S a0 a1 else if k = 5 then f_X9_say S a0 a1 else if k = 9 then f_X9_say S a0 a1 else if k = 10 then f_X9_say S a0 a1 else none
def f_X9_know (S : HSt) (a0 : Nat) (a1 : Int32) : Option (Int32 × HSt) := (fv_X9_begin S a0 2).bind fun S2 => bd2 (fv_X9_say S2 a0 a1) fun v5 S4 => (gIT S4 a0 6).bind fun v6 => some (v5 - v6, S4)
abbrev rm_X9_know : Room := { frames := 4, cells := 0, slots := 0, locals := 84 }
abbrev w_X9_know : List Cond := Cond.code yX9_know cX9_know 2 (Option.some FieldType.int) :: lwG
theorem yd_X9_know : yX9_know.cls ≠ "java/lang/invoke/MethodHandle" ∧ yX9_know.cls ≠ "java/lang/invoke/VarHandle" ∧ (parseMethodDescriptor yX9_know.desc).map (fun d => d.parameters.length) = some 1 := by decide +kernel
theorem ye_X9_know : yX9_know.cls = RX9 ∧ yX9_know.cls ≠ "java/lang/invoke/MethodHandle" ∧ yX9_know.cls ≠ "java/lang/invoke/VarHandle" ∧ (parseMethodDescriptor yX9_know.desc).map (fun d => d.parameters.length) = some 1 := by decide +kernel
set_option maxHeartbeats 4000000 in
set_option maxRecDepth 100000 in
theorem c_X9_know (l : Launch) (D : va_G) (kA ρ : Nat → Nat) (HB : Heap) (S : HSt) (a0 : Nat) (a1 : Int32) (res : Int32 × HSt) (h : f_X9_know S a0 a1 = some res) : Met l yX9_know w_X9_know rm_X9_know (hPc D kA ρ HB S [.ref a0, .int a1]) (hQi D kA HB S res) 0 0 (hFree HB) := by
  refine Met.ofW (cc := cX9_know) (maxL := 2) (ret := (Option.some FieldType.int)) (by decide) rfl ?_
  intro p e s m args below meth c s₁ B hml hv
  obtain ⟨rfl, hE, h0⟩ := hv
  have hx := B.exec
  have hb := B.bytes
  have hr := B.returns
  have hts0 := atoms_spec (ws := w_X9_know) B.pre
  have hts : ∀ w ∈ lwG, w.before _ s = true := fun w hw => hts0 w (List.mem_cons_of_mem _ hw)
  have hown : s.vm.findClass RX9 = some m.cls := findClass_of_methodNamed B.named
  have hlocks := B.notSynchronized
  have hI : hqX D kA HB S.2 S s.heap [] := ⟨h0, Nat.le_refl _, fun _ q => absurd q List.not_mem_nil⟩
  generalize s.heap = H at hI ⊢
  generalize ([] : List Loc) = locs at hI ⊢
  have hl := lv_entry ([.ref a0, .int a1]) (n := 2) (Nat.le_of_ble_eq_true rfl)
  rw [lg_entry_eq]
  generalize (lg_sl ([.ref a0, .int a1]) ++ List.replicate (2 - (lg_sl ([.ref a0, .int a1])).length) Slot.unset).toArray = ls at hl ⊢
  have hl : lv_has ls 2 [(0, .ref a0), (1, .int a1)] := hl
  unfold f_X9_know at h
  refine lv_aload_n hx hb dX9_know_0 rfl (lv_at hl 0 rfl) ?_
  refine lv_iconst (v := 2) hx hb dX9_know_1 (by decide) ?_
  obtain ⟨S2, g1, h⟩ := hq_bind h
  have hrun_g1 : va_Run p l e rm_X9_know s m ([.ref a0, .int a1] : List Value).toArray below meth c H locs 0 0 0 0 (F0 m 2 ls [.int 2, .ref a0]) [] (hQv D kA HB S S2 ([.ref a0, .int 2] : List Value).toArray) (hFree HB) := by
    unfold fv_X9_begin at g1
    rcases hk_g1 : gC S a0 with _ | k_g1
    · rw [hk_g1] at g1
      cases g1
    · rw [hk_g1] at g1
      have g1 := oC_s g1
      by_cases k0_g1 : k_g1 = 0
      · subst k0_g1
        have g1 := hq_t g1 rfl
        exact va_runU (As := [.int 2]) (rest := []) ⟨hx, hb, hml, hown, hts⟩ (c_X9_begin l D kA ρ HB S a0 2 _ g1) (va_cwU 1 hts (gdIn (List.forall_mem_cons.mpr ⟨kw_837, (List.forall_mem_cons.mpr ⟨kw_1366, (List.forall_mem_cons.mpr ⟨kw_1367, (List.forall_mem_cons.mpr ⟨kw_811, (List.forall_mem_cons.mpr ⟨kw_7, (fun _ h => absurd h List.not_mem_nil)⟩)⟩)⟩)⟩)⟩) kw_812) rfl rfl rfl rfl (by decide +kernel) ⟨Nat.le_of_ble_eq_true rfl, Nat.le_of_ble_eq_true rfl⟩) (hq_preC hE hI hk_g1 rfl _) rfl rfl hl.1 rfl (lv_room (Nat.le_of_ble_eq_true rfl)) dX9_know_2 ⟨Nat.le_of_ble_eq_true rfl, Nat.le_of_ble_eq_true rfl⟩
      have g1 := hq_f g1 k0_g1
      by_cases k1_g1 : k_g1 = 1
      · subst k1_g1
        have g1 := hq_t g1 rfl
        exact va_runU (As := [.int 2]) (rest := []) ⟨hx, hb, hml, hown, hts⟩ (c_X9_begin l D kA ρ HB S a0 2 _ g1) (va_cwU 1 hts (gdIn (List.forall_mem_cons.mpr ⟨kw_837, (List.forall_mem_cons.mpr ⟨kw_1366, (List.forall_mem_cons.mpr ⟨kw_1368, (List.forall_mem_cons.mpr ⟨kw_811, (List.forall_mem_cons.mpr ⟨kw_7, (fun _ h => absurd h List.not_mem_nil)⟩)⟩)⟩)⟩)⟩) kw_812) rfl rfl rfl rfl (by decide +kernel) ⟨Nat.le_of_ble_eq_true rfl, Nat.le_of_ble_eq_true rfl⟩) (hq_preC hE hI hk_g1 rfl _) rfl rfl hl.1 rfl (lv_room (Nat.le_of_ble_eq_true rfl)) dX9_know_2 ⟨Nat.le_of_ble_eq_true rfl, Nat.le_of_ble_eq_true rfl⟩
      have g1 := hq_f g1 k1_g1
      by_cases k2_g1 : k_g1 = 2
      · subst k2_g1
        have g1 := hq_t g1 rfl
        exact va_runU (As := [.int 2]) (rest := []) ⟨hx, hb, hml, hown, hts⟩ (c_X9_begin l D kA ρ HB S a0 2 _ g1) (va_cwU 1 hts (gdIn (List.forall_mem_cons.mpr ⟨kw_837, (List.forall_mem_cons.mpr ⟨kw_1366, (List.forall_mem_cons.mpr ⟨kw_1369, (List.forall_mem_cons.mpr ⟨kw_811, (List.forall_mem_cons.mpr ⟨kw_7, (fun _ h => absurd h List.not_mem_nil)⟩)⟩)⟩)⟩)⟩) kw_812) rfl rfl rfl rfl (by decide +kernel) ⟨Nat.le_of_ble_eq_true rfl, Nat.le_of_ble_eq_true rfl⟩) (hq_preC hE hI hk_g1 rfl _) rfl rfl hl.1 rfl (lv_room (Nat.le_of_ble_eq_true rfl)) dX9_know_2 ⟨Nat.le_of_ble_eq_true rfl, Nat.le_of_ble_eq_true rfl⟩
      have g1 := hq_f g1 k2_g1
      by_cases k3_g1 : k_g1 = 3
      · subst k3_g1
        have g1 := hq_t g1 rfl
        exact va_runU (As := [.int 2]) (rest := []) ⟨hx, hb, hml, hown, hts⟩ (c_X9_begin l D kA ρ HB S a0 2 _ g1) (va_cwU 1 hts (gdIn (List.forall_mem_cons.mpr ⟨kw_837, (List.forall_mem_cons.mpr ⟨kw_1366, (List.forall_mem_cons.mpr ⟨kw_1370, (List.forall_mem_cons.mpr ⟨kw_811, (List.forall_mem_cons.mpr ⟨kw_7, (fun _ h => absurd h List.not_mem_nil)⟩)⟩)⟩)⟩)⟩) kw_812) rfl rfl rfl rfl (by decide +kernel) ⟨Nat.le_of_ble_eq_true rfl, Nat.le_of_ble_eq_true rfl⟩) (hq_preC hE hI hk_g1 rfl _) rfl rfl hl.1 rfl (lv_room (Nat.le_of_ble_eq_true rfl)) dX9_know_2 ⟨Nat.le_of_ble_eq_true rfl, Nat.le_of_ble_eq_true rfl⟩
      have g1 := hq_f g1 k3_g1
      by_cases k5_g1 : k_g1 = 5
      · subst k5_g1
        have g1 := hq_t g1 rfl
        exact va_runU (As := [.int 2]) (rest := []) ⟨hx, hb, hml, hown, hts⟩ (c_X9_begin l D kA ρ HB S a0 2 _ g1) (va_cwU 1 hts (gdIn (List.forall_mem_cons.mpr ⟨kw_837, (List.forall_mem_cons.mpr ⟨kw_1366, (List.forall_mem_cons.mpr ⟨kw_1371, (List.forall_mem_cons.mpr ⟨kw_811, (List.forall_mem_cons.mpr ⟨kw_7, (fun _ h => absurd h List.not_mem_nil)⟩)⟩)⟩)⟩)⟩) kw_812) rfl rfl rfl rfl (by decide +kernel) ⟨Nat.le_of_ble_eq_true rfl, Nat.le_of_ble_eq_true rfl⟩) (hq_preC hE hI hk_g1 rfl _) rfl rfl hl.1 rfl (lv_room (Nat.le_of_ble_eq_true rfl)) dX9_know_2 ⟨Nat.le_of_ble_eq_true rfl, Nat.le_of_ble_eq_true rfl⟩
      have g1 := hq_f g1 k5_g1
      by_cases k9_g1 : k_g1 = 9
      · subst k9_g1
        have g1 := hq_t g1 rfl
        exact va_runV (As := [.int 2]) (rest := []) ⟨hx, hb, hml, hown, hts⟩ (c_X9_begin l D kA ρ HB S a0 2 _ g1) (cwV 1 hts (gdIn (List.forall_mem_cons.mpr ⟨kw_837, (List.forall_mem_cons.mpr ⟨kw_811, (List.forall_mem_cons.mpr ⟨kw_1372, (List.forall_mem_cons.mpr ⟨kw_7, (fun _ h => absurd h List.not_mem_nil)⟩)⟩)⟩)⟩) kw_812) rfl rfl rfl ye_X9_begin ⟨Nat.le_of_ble_eq_true rfl, Nat.le_of_ble_eq_true rfl⟩) (hq_preC hE hI hk_g1 rfl _) rfl rfl hl.1 rfl (lv_room (Nat.le_of_ble_eq_true rfl)) dX9_know_2 ⟨Nat.le_of_ble_eq_true rfl, Nat.le_of_ble_eq_true rfl⟩
      have g1 := hq_f g1 k9_g1
      by_cases k10_g1 : k_g1 = 10
      · subst k10_g1
        have g1 := hq_t g1 rfl
        exact va_runU (As := [.int 2]) (rest := []) ⟨hx, hb, hml, hown, hts⟩ (c_X9_begin l D kA ρ HB S a0 2 _ g1) (va_cwU 1 hts (gdIn (List.forall_mem_cons.mpr ⟨kw_837, (List.forall_mem_cons.mpr ⟨kw_1366, (List.forall_mem_cons.mpr ⟨kw_1373, (List.forall_mem_cons.mpr ⟨kw_811, (List.forall_mem_cons.mpr ⟨kw_7, (fun _ h => absurd h List.not_mem_nil)⟩)⟩)⟩)⟩)⟩) kw_812) rfl rfl rfl rfl (by decide +kernel) ⟨Nat.le_of_ble_eq_true rfl, Nat.le_of_ble_eq_true rfl⟩) (hq_preC hE hI hk_g1 rfl _) rfl rfl hl.1 rfl (lv_room (Nat.le_of_ble_eq_true rfl)) dX9_know_2 ⟨Nat.le_of_ble_eq_true rfl, Nat.le_of_ble_eq_true rfl⟩
      have g1 := hq_f g1 k10_g1
      cases g1
  refine hq_callv hI hrun_g1 (fun H locs hI => ?_)
  refine lv_aload_n hx hb dX9_know_5 rfl (lv_at hl 0 rfl) ?_
  refine lv_iload_n hx hb dX9_know_6 rfl (lv_at hl 1 rfl) ?_
  obtain ⟨v5, S4, g3, h⟩ := hq_bd2 h
  have hrun_g3 : va_Run p l e rm_X9_know s m ([.ref a0, .int a1] : List Value).toArray below meth c H locs 0 0 0 0 (F0 m 7 ls [.int a1, .ref a0]) [] (hQi D kA HB S2 (v5, S4) ([.ref a0, .int a1] : List Value).toArray) (hFree HB) := by
    unfold fv_X9_say at g3
    rcases hk_g3 : gC S2 a0 with _ | k_g3
    · rw [hk_g3] at g3
      cases g3
    · rw [hk_g3] at g3
      have g3 := oC_s g3
      by_cases k0_g3 : k_g3 = 0
      · subst k0_g3
        have g3 := hq_t g3 rfl
        exact va_runU (As := [.int a1]) (rest := []) ⟨hx, hb, hml, hown, hts⟩ (c_X9_say l D kA ρ HB S2 a0 a1 _ g3) (va_cwU 1 hts (gdIn (List.forall_mem_cons.mpr ⟨kw_871, (List.forall_mem_cons.mpr ⟨kw_802, (List.forall_mem_cons.mpr ⟨kw_803, (List.forall_mem_cons.mpr ⟨kw_800, (List.forall_mem_cons.mpr ⟨kw_7, (fun _ h => absurd h List.not_mem_nil)⟩)⟩)⟩)⟩)⟩) kw_836) rfl rfl rfl rfl (by decide +kernel) ⟨Nat.le_of_ble_eq_true rfl, Nat.le_of_ble_eq_true rfl⟩) (hq_preC hE hI hk_g3 rfl _) rfl rfl hl.1 rfl (lv_room (Nat.le_of_ble_eq_true rfl)) dX9_know_7 ⟨Nat.le_of_ble_eq_true rfl, Nat.le_of_ble_eq_true rfl⟩
      have g3 := hq_f g3 k0_g3
      by_cases k1_g3 : k_g3 = 1
      · subst k1_g3
        have g3 := hq_t g3 rfl
        exact va_runU (As := [.int a1]) (rest := []) ⟨hx, hb, hml, hown, hts⟩ (c_X1_say l D kA ρ HB S2 a0 a1 _ g3) (va_cwO 1 hts (gdIn (List.forall_mem_cons.mpr ⟨kw_871, (List.forall_mem_cons.mpr ⟨kw_802, (List.forall_mem_cons.mpr ⟨kw_800, (List.forall_mem_cons.mpr ⟨kw_804, (List.forall_mem_cons.mpr ⟨kw_805, (List.forall_mem_cons.mpr ⟨kw_12, (fun _ h => absurd h List.not_mem_nil)⟩)⟩)⟩)⟩)⟩)⟩) kw_806) rfl rfl rfl kw_836 (by decide +kernel) ⟨Nat.le_of_ble_eq_true rfl, Nat.le_of_ble_eq_true rfl⟩) (hq_preC hE hI hk_g3 rfl _) rfl rfl hl.1 rfl (lv_room (Nat.le_of_ble_eq_true rfl)) dX9_know_7 ⟨Nat.le_of_ble_eq_true rfl, Nat.le_of_ble_eq_true rfl⟩
      have g3 := hq_f g3 k1_g3
      by_cases k2_g3 : k_g3 = 2
      · subst k2_g3
        have g3 := hq_t g3 rfl
        exact va_runU (As := [.int a1]) (rest := []) ⟨hx, hb, hml, hown, hts⟩ (c_X2_say l D kA ρ HB S2 a0 a1 _ g3) (va_cwO 1 hts (gdIn (List.forall_mem_cons.mpr ⟨kw_871, (List.forall_mem_cons.mpr ⟨kw_802, (List.forall_mem_cons.mpr ⟨kw_800, (List.forall_mem_cons.mpr ⟨kw_826, (List.forall_mem_cons.mpr ⟨kw_827, (List.forall_mem_cons.mpr ⟨kw_8, (fun _ h => absurd h List.not_mem_nil)⟩)⟩)⟩)⟩)⟩)⟩) kw_828) rfl rfl rfl kw_836 (by decide +kernel) ⟨Nat.le_of_ble_eq_true rfl, Nat.le_of_ble_eq_true rfl⟩) (hq_preC hE hI hk_g3 rfl _) rfl rfl hl.1 rfl (lv_room (Nat.le_of_ble_eq_true rfl)) dX9_know_7 ⟨Nat.le_of_ble_eq_true rfl, Nat.le_of_ble_eq_true rfl⟩
      have g3 := hq_f g3 k2_g3
      by_cases k3_g3 : k_g3 = 3
      · subst k3_g3
        have g3 := hq_t g3 rfl
        exact va_runU (As := [.int a1]) (rest := []) ⟨hx, hb, hml, hown, hts⟩ (c_X9_say l D kA ρ HB S2 a0 a1 _ g3) (va_cwU 1 hts (gdIn (List.forall_mem_cons.mpr ⟨kw_871, (List.forall_mem_cons.mpr ⟨kw_802, (List.forall_mem_cons.mpr ⟨kw_833, (List.forall_mem_cons.mpr ⟨kw_800, (List.forall_mem_cons.mpr ⟨kw_7, (fun _ h => absurd h List.not_mem_nil)⟩)⟩)⟩)⟩)⟩) kw_836) rfl rfl rfl rfl (by decide +kernel) ⟨Nat.le_of_ble_eq_true rfl, Nat.le_of_ble_eq_true rfl⟩) (hq_preC hE hI hk_g3 rfl _) rfl rfl hl.1 rfl (lv_room (Nat.le_of_ble_eq_true rfl)) dX9_know_7 ⟨Nat.le_of_ble_eq_true rfl, Nat.le_of_ble_eq_true rfl⟩
      have g3 := hq_f g3 k3_g3
      by_cases k5_g3 : k_g3 = 5
      · subst k5_g3
        have g3 := hq_t g3 rfl
        exact va_runU (As := [.int a1]) (rest := []) ⟨hx, hb, hml, hown, hts⟩ (c_X9_say l D kA ρ HB S2 a0 a1 _ g3) (va_cwU 1 hts (gdIn (List.forall_mem_cons.mpr ⟨kw_871, (List.forall_mem_cons.mpr ⟨kw_802, (List.forall_mem_cons.mpr ⟨kw_834, (List.forall_mem_cons.mpr ⟨kw_800, (List.forall_mem_cons.mpr ⟨kw_7, (fun _ h => absurd h List.not_mem_nil)⟩)⟩)⟩)⟩)⟩) kw_836) rfl rfl rfl rfl (by decide +kernel) ⟨Nat.le_of_ble_eq_true rfl, Nat.le_of_ble_eq_true rfl⟩) (hq_preC hE hI hk_g3 rfl _) rfl rfl hl.1 rfl (lv_room (Nat.le_of_ble_eq_true rfl)) dX9_know_7 ⟨Nat.le_of_ble_eq_true rfl, Nat.le_of_ble_eq_true rfl⟩
      have g3 := hq_f g3 k5_g3
      by_cases k9_g3 : k_g3 = 9
      · subst k9_g3
        have g3 := hq_t g3 rfl
        exact va_runV (As := [.int a1]) (rest := []) ⟨hx, hb, hml, hown, hts⟩ (c_X9_say l D kA ρ HB S2 a0 a1 _ g3) (cwV 1 hts (gdIn (List.forall_mem_cons.mpr ⟨kw_871, (List.forall_mem_cons.mpr ⟨kw_800, (List.forall_mem_cons.mpr ⟨kw_801, (List.forall_mem_cons.mpr ⟨kw_7, (fun _ h => absurd h List.not_mem_nil)⟩)⟩)⟩)⟩) kw_836) rfl rfl rfl ye_X9_say ⟨Nat.le_of_ble_eq_true rfl, Nat.le_of_ble_eq_true rfl⟩) (hq_preC hE hI hk_g3 rfl _) rfl rfl hl.1 rfl (lv_room (Nat.le_of_ble_eq_true rfl)) dX9_know_7 ⟨Nat.le_of_ble_eq_true rfl, Nat.le_of_ble_eq_true rfl⟩
      have g3 := hq_f g3 k9_g3
      by_cases k10_g3 : k_g3 = 10
      · subst k10_g3
        have g3 := hq_t g3 rfl
        exact va_runU (As := [.int a1]) (rest := []) ⟨hx, hb, hml, hown, hts⟩ (c_X9_say l D kA ρ HB S2 a0 a1 _ g3) (va_cwU 1 hts (gdIn (List.forall_mem_cons.mpr ⟨kw_871, (List.forall_mem_cons.mpr ⟨kw_802, (List.forall_mem_cons.mpr ⟨kw_835, (List.forall_mem_cons.mpr ⟨kw_800, (List.forall_mem_cons.mpr ⟨kw_7, (fun _ h => absurd h List.not_mem_nil)⟩)⟩)⟩)⟩)⟩) kw_836) rfl rfl rfl rfl (by decide +kernel) ⟨Nat.le_of_ble_eq_true rfl, Nat.le_of_ble_eq_true rfl⟩) (hq_preC hE hI hk_g3 rfl _) rfl rfl hl.1 rfl (lv_room (Nat.le_of_ble_eq_true rfl)) dX9_know_7 ⟨Nat.le_of_ble_eq_true rfl, Nat.le_of_ble_eq_true rfl⟩
      have g3 := hq_f g3 k10_g3
      cases g3
  refine hq_calli hI hrun_g3 (fun H locs hI => ?_)
  refine lv_aload_n hx hb dX9_know_10 rfl (lv_at hl 0 rfl) ?_
  obtain ⟨v6, g7, h⟩ := hq_bind h
  obtain ⟨c_g7, fs_g7, hk_g7, hs_g7, hv_g7⟩ := gIT_at g7
  obtain ⟨C_g7, hc_g7, hi_g7⟩ := hKin_at hk_g7
  refine hq_get hx hb hts hown hE hI hs_g7 hi_g7 hc_g7 6 (by decide) kw_230 hv_g7 dX9_know_11 ?_
  refine lv_isub hx hb dX9_know_14 ?_
  exact hq_iret hx hb hr hlocks h0 hI h dX9_know_15
-- RodDips$Barn.know(I)I
theorem dX0_know_0 : decode cX0_know 0 = .ok (.aload_n 0, 1) := by decide +kernel
theorem dX0_know_1 : decode cX0_know 1 = .ok (.bipush 21, 2) := by decide +kernel
theorem dX0_know_3 : decode cX0_know 3 = .ok (.invokevirtual 7, 3) := by decide +kernel
theorem dX0_know_6 : decode cX0_know 6 = .ok (.aload_n 0, 1) := by decide +kernel
theorem dX0_know_7 : decode cX0_know 7 = .ok (.iload_n 1, 1) := by decide +kernel
theorem dX0_know_8 : decode cX0_know 8 = .ok (.invokespecial 13, 3) := by decide +kernel
theorem dX0_know_11 : decode cX0_know 11 = .ok (.ineg, 1) := by decide +kernel
theorem dX0_know_12 : decode cX0_know 12 = .ok (.ireturn, 1) := by decide +kernel
def fv_X0_begin (S : HSt) (a0 : Nat) (a1 : Int32) : Option (HSt) := oC (gC S a0) none fun k => if k = 0 then f_X9_begin S a0 a1 else if k = 1 then f_X9_begin S a0 a1 else if k = 3 then f_X9_begin S a0 a1 else none
def f_X0_know (S : HSt) (a0 : Nat) (a1 : Int32) : Option (Int32 × HSt) := (fv_X0_begin S a0 21).bind fun S2 => if gK S2 a0 = true then (bd2 (f_X9_know S2 a0 a1) fun v6 S5 => some (-v6, S5)) else none
abbrev rm_X0_know : Room := { frames := 5, cells := 0, slots := 0, locals := 105 }
abbrev w_X0_know : List Cond := Cond.code yX0_know cX0_know 2 (Option.some FieldType.int) :: lwG
theorem yd_X0_know : yX0_know.cls ≠ "java/lang/invoke/MethodHandle" ∧ yX0_know.cls ≠ "java/lang/invoke/VarHandle" ∧ (parseMethodDescriptor yX0_know.desc).map (fun d => d.parameters.length) = some 1 := by decide +kernel
theorem ye_X0_know : yX0_know.cls = RX0 ∧ yX0_know.cls ≠ "java/lang/invoke/MethodHandle" ∧ yX0_know.cls ≠ "java/lang/invoke/VarHandle" ∧ (parseMethodDescriptor yX0_know.desc).map (fun d => d.parameters.length) = some 1 := by decide +kernel
set_option maxHeartbeats 4000000 in
set_option maxRecDepth 100000 in
theorem c_X0_know (l : Launch) (D : va_G) (kA ρ : Nat → Nat) (HB : Heap) (S : HSt) (a0 : Nat) (a1 : Int32) (res : Int32 × HSt) (h : f_X0_know S a0 a1 = some res) : Met l yX0_know w_X0_know rm_X0_know (hPc D kA ρ HB S [.ref a0, .int a1]) (hQi D kA HB S res) 0 0 (hFree HB) := by
  refine Met.ofW (cc := cX0_know) (maxL := 2) (ret := (Option.some FieldType.int)) (by decide) rfl ?_
  intro p e s m args below meth c s₁ B hml hv
  obtain ⟨rfl, hE, h0⟩ := hv
  have hx := B.exec
  have hb := B.bytes
  have hr := B.returns
  have hts0 := atoms_spec (ws := w_X0_know) B.pre
  have hts : ∀ w ∈ lwG, w.before _ s = true := fun w hw => hts0 w (List.mem_cons_of_mem _ hw)
  have hown : s.vm.findClass RX0 = some m.cls := findClass_of_methodNamed B.named
  have hlocks := B.notSynchronized
  have hI : hqX D kA HB S.2 S s.heap [] := ⟨h0, Nat.le_refl _, fun _ q => absurd q List.not_mem_nil⟩
  generalize s.heap = H at hI ⊢
  generalize ([] : List Loc) = locs at hI ⊢
  have hl := lv_entry ([.ref a0, .int a1]) (n := 2) (Nat.le_of_ble_eq_true rfl)
  rw [lg_entry_eq]
  generalize (lg_sl ([.ref a0, .int a1]) ++ List.replicate (2 - (lg_sl ([.ref a0, .int a1])).length) Slot.unset).toArray = ls at hl ⊢
  have hl : lv_has ls 2 [(0, .ref a0), (1, .int a1)] := hl
  unfold f_X0_know at h
  refine lv_aload_n hx hb dX0_know_0 rfl (lv_at hl 0 rfl) ?_
  refine lv_bipush (v := 21) hx hb dX0_know_1 (by decide) ?_
  obtain ⟨S2, g1, h⟩ := hq_bind h
  have hrun_g1 : va_Run p l e rm_X0_know s m ([.ref a0, .int a1] : List Value).toArray below meth c H locs 0 0 0 0 (F0 m 3 ls [.int 21, .ref a0]) [] (hQv D kA HB S S2 ([.ref a0, .int 21] : List Value).toArray) (hFree HB) := by
    unfold fv_X0_begin at g1
    rcases hk_g1 : gC S a0 with _ | k_g1
    · rw [hk_g1] at g1
      cases g1
    · rw [hk_g1] at g1
      have g1 := oC_s g1
      by_cases k0_g1 : k_g1 = 0
      · subst k0_g1
        have g1 := hq_t g1 rfl
        exact va_runU (As := [.int 21]) (rest := []) ⟨hx, hb, hml, hown, hts⟩ (c_X9_begin l D kA ρ HB S a0 21 _ g1) (va_cwU 1 hts (gdIn (List.forall_mem_cons.mpr ⟨kw_845, (List.forall_mem_cons.mpr ⟨kw_846, (List.forall_mem_cons.mpr ⟨kw_847, (List.forall_mem_cons.mpr ⟨kw_811, (List.forall_mem_cons.mpr ⟨kw_7, (fun _ h => absurd h List.not_mem_nil)⟩)⟩)⟩)⟩)⟩) kw_812) rfl rfl rfl rfl (by decide +kernel) ⟨Nat.le_of_ble_eq_true rfl, Nat.le_of_ble_eq_true rfl⟩) (hq_preC hE hI hk_g1 rfl _) rfl rfl hl.1 rfl (lv_room (Nat.le_of_ble_eq_true rfl)) dX0_know_3 ⟨Nat.le_of_ble_eq_true rfl, Nat.le_of_ble_eq_true rfl⟩
      have g1 := hq_f g1 k0_g1
      by_cases k1_g1 : k_g1 = 1
      · subst k1_g1
        have g1 := hq_t g1 rfl
        exact va_runU (As := [.int 21]) (rest := []) ⟨hx, hb, hml, hown, hts⟩ (c_X9_begin l D kA ρ HB S a0 21 _ g1) (va_cwU 1 hts (gdIn (List.forall_mem_cons.mpr ⟨kw_845, (List.forall_mem_cons.mpr ⟨kw_846, (List.forall_mem_cons.mpr ⟨kw_848, (List.forall_mem_cons.mpr ⟨kw_811, (List.forall_mem_cons.mpr ⟨kw_7, (fun _ h => absurd h List.not_mem_nil)⟩)⟩)⟩)⟩)⟩) kw_812) rfl rfl rfl rfl (by decide +kernel) ⟨Nat.le_of_ble_eq_true rfl, Nat.le_of_ble_eq_true rfl⟩) (hq_preC hE hI hk_g1 rfl _) rfl rfl hl.1 rfl (lv_room (Nat.le_of_ble_eq_true rfl)) dX0_know_3 ⟨Nat.le_of_ble_eq_true rfl, Nat.le_of_ble_eq_true rfl⟩
      have g1 := hq_f g1 k1_g1
      by_cases k3_g1 : k_g1 = 3
      · subst k3_g1
        have g1 := hq_t g1 rfl
        exact va_runU (As := [.int 21]) (rest := []) ⟨hx, hb, hml, hown, hts⟩ (c_X9_begin l D kA ρ HB S a0 21 _ g1) (va_cwU 1 hts (gdIn (List.forall_mem_cons.mpr ⟨kw_845, (List.forall_mem_cons.mpr ⟨kw_846, (List.forall_mem_cons.mpr ⟨kw_849, (List.forall_mem_cons.mpr ⟨kw_811, (List.forall_mem_cons.mpr ⟨kw_7, (fun _ h => absurd h List.not_mem_nil)⟩)⟩)⟩)⟩)⟩) kw_812) rfl rfl rfl rfl (by decide +kernel) ⟨Nat.le_of_ble_eq_true rfl, Nat.le_of_ble_eq_true rfl⟩) (hq_preC hE hI hk_g1 rfl _) rfl rfl hl.1 rfl (lv_room (Nat.le_of_ble_eq_true rfl)) dX0_know_3 ⟨Nat.le_of_ble_eq_true rfl, Nat.le_of_ble_eq_true rfl⟩
      have g1 := hq_f g1 k3_g1
      cases g1
  refine hq_callv hI hrun_g1 (fun H locs hI => ?_)
  refine lv_aload_n hx hb dX0_know_6 rfl (lv_at hl 0 rfl) ?_
  refine lv_iload_n hx hb dX0_know_7 rfl (lv_at hl 1 rfl) ?_
  obtain ⟨g4, h⟩ := hq_g h
  obtain ⟨v6, S5, g3, h⟩ := hq_bd2 h
  obtain ⟨k_g4, fs_g4, hk_g4, he_g4⟩ := gK_at g4
  obtain ⟨C_g4, hc_g4, hz_g4⟩ := hKin_at hk_g4
  refine hq_calli hI (va_runSU (As := [.int a1]) (rest := []) (hE.1.1 _ _ hc_g4).2 ⟨hx, hb, hml, hown, hts⟩ (c_X9_know l D kA ρ HB S2 a0 a1 _ g3) (va_cwSU 1 hts (gdIn (List.forall_mem_cons.mpr ⟨kw_850, (List.forall_mem_cons.mpr ⟨kw_841, (List.forall_mem_cons.mpr ⟨kw_270, (List.forall_mem_cons.mpr ⟨kw_839, (List.forall_mem_cons.mpr ⟨kw_7, (fun _ h => absurd h List.not_mem_nil)⟩)⟩)⟩)⟩)⟩) kw_870) rfl rfl rfl (by decide +kernel) ⟨Nat.le_of_ble_eq_true rfl, Nat.le_of_ble_eq_true rfl⟩) (hq_preV hE hI he_g4 hc_g4 _) rfl rfl hl.1 rfl (lv_room (Nat.le_of_ble_eq_true rfl)) dX0_know_8 ⟨Nat.le_of_ble_eq_true rfl, Nat.le_of_ble_eq_true rfl⟩) (fun H locs hI => ?_)
  refine lv_ineg hx hb dX0_know_11 ?_
  exact hq_iret hx hb hr hlocks h0 hI h dX0_know_12
-- RodDips$Warm.know(I)I
theorem dX10_know_0 : decode cX10_know 0 = .ok (.aload_n 0, 1) := by decide +kernel
theorem dX10_know_1 : decode cX10_know 1 = .ok (.bipush 61, 2) := by decide +kernel
theorem dX10_know_3 : decode cX10_know 3 = .ok (.invokevirtual 7, 3) := by decide +kernel
theorem dX10_know_6 : decode cX10_know 6 = .ok (.aload_n 0, 1) := by decide +kernel
theorem dX10_know_7 : decode cX10_know 7 = .ok (.iload_n 1, 1) := by decide +kernel
theorem dX10_know_8 : decode cX10_know 8 = .ok (.invokespecial 13, 3) := by decide +kernel
theorem dX10_know_11 : decode cX10_know 11 = .ok (.aload_n 0, 1) := by decide +kernel
theorem dX10_know_12 : decode cX10_know 12 = .ok (.invokevirtual 17, 3) := by decide +kernel
theorem dX10_know_15 : decode cX10_know 15 = .ok (.iadd, 1) := by decide +kernel
theorem dX10_know_16 : decode cX10_know 16 = .ok (.ireturn, 1) := by decide +kernel
def fv_X10_begin (S : HSt) (a0 : Nat) (a1 : Int32) : Option (HSt) := oC (gC S a0) none fun k => if k = 10 then f_X9_begin S a0 a1 else none
def fv_X10_place (S : HSt) (a0 : Nat) : Option (Int32 × HSt) := oC (gC S a0) none fun k => if k = 10 then f_X9_place S a0 else none
def f_X10_know (S : HSt) (a0 : Nat) (a1 : Int32) : Option (Int32 × HSt) := (fv_X10_begin S a0 61).bind fun S2 => if gK S2 a0 = true then (bd2 (f_X9_know S2 a0 a1) fun v6 S5 => bd2 (fv_X10_place S5 a0) fun v9 S8 => some (v6 + v9, S8)) else none
abbrev rm_X10_know : Room := { frames := 5, cells := 0, slots := 0, locals := 105 }
abbrev w_X10_know : List Cond := Cond.code yX10_know cX10_know 2 (Option.some FieldType.int) :: lwG
theorem yd_X10_know : yX10_know.cls ≠ "java/lang/invoke/MethodHandle" ∧ yX10_know.cls ≠ "java/lang/invoke/VarHandle" ∧ (parseMethodDescriptor yX10_know.desc).map (fun d => d.parameters.length) = some 1 := by decide +kernel
theorem ye_X10_know : yX10_know.cls = RX10 ∧ yX10_know.cls ≠ "java/lang/invoke/MethodHandle" ∧ yX10_know.cls ≠ "java/lang/invoke/VarHandle" ∧ (parseMethodDescriptor yX10_know.desc).map (fun d => d.parameters.length) = some 1 := by decide +kernel
set_option maxHeartbeats 4000000 in
set_option maxRecDepth 100000 in
theorem c_X10_know (l : Launch) (D : va_G) (kA ρ : Nat → Nat) (HB : Heap) (S : HSt) (a0 : Nat) (a1 : Int32) (res : Int32 × HSt) (h : f_X10_know S a0 a1 = some res) : Met l yX10_know w_X10_know rm_X10_know (hPc D kA ρ HB S [.ref a0, .int a1]) (hQi D kA HB S res) 0 0 (hFree HB) := by
  refine Met.ofW (cc := cX10_know) (maxL := 2) (ret := (Option.some FieldType.int)) (by decide) rfl ?_
  intro p e s m args below meth c s₁ B hml hv
  obtain ⟨rfl, hE, h0⟩ := hv
  have hx := B.exec
  have hb := B.bytes
  have hr := B.returns
  have hts0 := atoms_spec (ws := w_X10_know) B.pre
  have hts : ∀ w ∈ lwG, w.before _ s = true := fun w hw => hts0 w (List.mem_cons_of_mem _ hw)
  have hown : s.vm.findClass RX10 = some m.cls := findClass_of_methodNamed B.named
  have hlocks := B.notSynchronized
  have hI : hqX D kA HB S.2 S s.heap [] := ⟨h0, Nat.le_refl _, fun _ q => absurd q List.not_mem_nil⟩
  generalize s.heap = H at hI ⊢
  generalize ([] : List Loc) = locs at hI ⊢
  have hl := lv_entry ([.ref a0, .int a1]) (n := 2) (Nat.le_of_ble_eq_true rfl)
  rw [lg_entry_eq]
  generalize (lg_sl ([.ref a0, .int a1]) ++ List.replicate (2 - (lg_sl ([.ref a0, .int a1])).length) Slot.unset).toArray = ls at hl ⊢
  have hl : lv_has ls 2 [(0, .ref a0), (1, .int a1)] := hl
  unfold f_X10_know at h
  refine lv_aload_n hx hb dX10_know_0 rfl (lv_at hl 0 rfl) ?_
  refine lv_bipush (v := 61) hx hb dX10_know_1 (by decide) ?_
  obtain ⟨S2, g1, h⟩ := hq_bind h
  have hrun_g1 : va_Run p l e rm_X10_know s m ([.ref a0, .int a1] : List Value).toArray below meth c H locs 0 0 0 0 (F0 m 3 ls [.int 61, .ref a0]) [] (hQv D kA HB S S2 ([.ref a0, .int 61] : List Value).toArray) (hFree HB) := by
    unfold fv_X10_begin at g1
    rcases hk_g1 : gC S a0 with _ | k_g1
    · rw [hk_g1] at g1
      cases g1
    · rw [hk_g1] at g1
      have g1 := oC_s g1
      by_cases k10_g1 : k_g1 = 10
      · subst k10_g1
        have g1 := hq_t g1 rfl
        exact va_runU (As := [.int 61]) (rest := []) ⟨hx, hb, hml, hown, hts⟩ (c_X9_begin l D kA ρ HB S a0 61 _ g1) (va_cwU 1 hts (gdIn (List.forall_mem_cons.mpr ⟨kw_858, (List.forall_mem_cons.mpr ⟨kw_859, (List.forall_mem_cons.mpr ⟨kw_860, (List.forall_mem_cons.mpr ⟨kw_811, (List.forall_mem_cons.mpr ⟨kw_7, (fun _ h => absurd h List.not_mem_nil)⟩)⟩)⟩)⟩)⟩) kw_812) rfl rfl rfl rfl (by decide +kernel) ⟨Nat.le_of_ble_eq_true rfl, Nat.le_of_ble_eq_true rfl⟩) (hq_preC hE hI hk_g1 rfl _) rfl rfl hl.1 rfl (lv_room (Nat.le_of_ble_eq_true rfl)) dX10_know_3 ⟨Nat.le_of_ble_eq_true rfl, Nat.le_of_ble_eq_true rfl⟩
      have g1 := hq_f g1 k10_g1
      cases g1
  refine hq_callv hI hrun_g1 (fun H locs hI => ?_)
  refine lv_aload_n hx hb dX10_know_6 rfl (lv_at hl 0 rfl) ?_
  refine lv_iload_n hx hb dX10_know_7 rfl (lv_at hl 1 rfl) ?_
  obtain ⟨g4, h⟩ := hq_g h
  obtain ⟨v6, S5, g3, h⟩ := hq_bd2 h
  refine hq_calli hI (hq_runSI (As := [.int a1]) (rest := []) (n := 1) hI hE g4 ⟨hx, hb, hml, hown, hts⟩ (c_X9_know l D kA ρ HB S2 a0 a1 _ g3) (gdIn (hd := []) (fun _ h => absurd h List.not_mem_nil) kw_870) rfl rfl kw_861 kw_862 kw_334 kw_286 kw_839 kw_7 rfl rfl (by decide +kernel) ⟨Nat.le_of_ble_eq_true rfl, Nat.le_of_ble_eq_true rfl⟩ rfl rfl hl.1 rfl (lv_room (Nat.le_of_ble_eq_true rfl)) dX10_know_8 ⟨Nat.le_of_ble_eq_true rfl, Nat.le_of_ble_eq_true rfl⟩) (fun H locs hI => ?_)
  refine lv_aload_n hx hb dX10_know_11 rfl (lv_at hl 0 rfl) ?_
  obtain ⟨v9, S8, g7, h⟩ := hq_bd2 h
  have hrun_g7 : va_Run p l e rm_X10_know s m ([.ref a0, .int a1] : List Value).toArray below meth c H locs 0 0 0 0 (F0 m 12 ls [.ref a0, .int v6]) [.int v6] (hQi D kA HB S5 (v9, S8) ([.ref a0] : List Value).toArray) (hFree HB) := by
    unfold fv_X10_place at g7
    rcases hk_g7 : gC S5 a0 with _ | k_g7
    · rw [hk_g7] at g7
      cases g7
    · rw [hk_g7] at g7
      have g7 := oC_s g7
      by_cases k10_g7 : k_g7 = 10
      · subst k10_g7
        have g7 := hq_t g7 rfl
        exact va_runU (As := []) (rest := [.int v6]) ⟨hx, hb, hml, hown, hts⟩ (c_X9_place l D kA ρ HB S5 a0 _ g7) (va_cwU 0 hts (gdIn (List.forall_mem_cons.mpr ⟨kw_864, (List.forall_mem_cons.mpr ⟨kw_865, (List.forall_mem_cons.mpr ⟨kw_867, (List.forall_mem_cons.mpr ⟨kw_868, (List.forall_mem_cons.mpr ⟨kw_7, (fun _ h => absurd h List.not_mem_nil)⟩)⟩)⟩)⟩)⟩) kw_869) rfl rfl rfl rfl (by decide +kernel) ⟨Nat.le_of_ble_eq_true rfl, Nat.le_of_ble_eq_true rfl⟩) (hq_preC hE hI hk_g7 rfl _) rfl rfl hl.1 rfl (lv_room (Nat.le_of_ble_eq_true rfl)) dX10_know_12 ⟨Nat.le_of_ble_eq_true rfl, Nat.le_of_ble_eq_true rfl⟩
      have g7 := hq_f g7 k10_g7
      cases g7
  refine hq_calli hI hrun_g7 (fun H locs hI => ?_)
  refine lv_iadd hx hb dX10_know_15 ?_
  exact hq_iret hx hb hr hlocks h0 hI h dX10_know_16
-- RodDips$Try.tell(I)I
theorem dX9_tell_0 : decode cX9_tell 0 = .ok (.aload_n 0, 1) := by decide +kernel
theorem dX9_tell_1 : decode cX9_tell 1 = .ok (.iconst 3, 1) := by decide +kernel
theorem dX9_tell_2 : decode cX9_tell 2 = .ok (.invokevirtual 44, 3) := by decide +kernel
theorem dX9_tell_5 : decode cX9_tell 5 = .ok (.aload_n 0, 1) := by decide +kernel
theorem dX9_tell_6 : decode cX9_tell 6 = .ok (.iload_n 1, 1) := by decide +kernel
theorem dX9_tell_7 : decode cX9_tell 7 = .ok (.invokevirtual 51, 3) := by decide +kernel
theorem dX9_tell_10 : decode cX9_tell 10 = .ok (.iconst 2, 1) := by decide +kernel
theorem dX9_tell_11 : decode cX9_tell 11 = .ok (.imul, 1) := by decide +kernel
theorem dX9_tell_12 : decode cX9_tell 12 = .ok (.ireturn, 1) := by decide +kernel
def fv_X9_know (S : HSt) (a0 : Nat) (a1 : Int32) : Option (Int32 × HSt) := oC (gC S a0) none fun k => if k = 0 then f_X0_know S a0 a1 else if k = 1 then f_X0_know S a0 a1 else if k = 2 then f_X9_know S a0 a1 else if k = 3 then f_X0_know S a0 a1 else if k = 5 then f_X9_know S a0 a1 else if k = 9 then f_X9_know S a0 a1 else if k = 10 then f_X10_know S a0 a1 else none
def f_X9_tell (S : HSt) (a0 : Nat) (a1 : Int32) : Option (Int32 × HSt) := (fv_X9_begin S a0 3).bind fun S2 => bd2 (fv_X9_know S2 a0 a1) fun v5 S4 => some (v5 * 2, S4)
abbrev rm_X9_tell : Room := { frames := 6, cells := 0, slots := 0, locals := 126 }
abbrev w_X9_tell : List Cond := Cond.code yX9_tell cX9_tell 2 (Option.some FieldType.int) :: lwG
theorem yd_X9_tell : yX9_tell.cls ≠ "java/lang/invoke/MethodHandle" ∧ yX9_tell.cls ≠ "java/lang/invoke/VarHandle" ∧ (parseMethodDescriptor yX9_tell.desc).map (fun d => d.parameters.length) = some 1 := by decide +kernel
theorem ye_X9_tell : yX9_tell.cls = RX9 ∧ yX9_tell.cls ≠ "java/lang/invoke/MethodHandle" ∧ yX9_tell.cls ≠ "java/lang/invoke/VarHandle" ∧ (parseMethodDescriptor yX9_tell.desc).map (fun d => d.parameters.length) = some 1 := by decide +kernel
set_option maxHeartbeats 4000000 in
set_option maxRecDepth 100000 in
theorem c_X9_tell (l : Launch) (D : va_G) (kA ρ : Nat → Nat) (HB : Heap) (S : HSt) (a0 : Nat) (a1 : Int32) (res : Int32 × HSt) (h : f_X9_tell S a0 a1 = some res) : Met l yX9_tell w_X9_tell rm_X9_tell (hPc D kA ρ HB S [.ref a0, .int a1]) (hQi D kA HB S res) 0 0 (hFree HB) := by
  refine Met.ofW (cc := cX9_tell) (maxL := 2) (ret := (Option.some FieldType.int)) (by decide) rfl ?_
  intro p e s m args below meth c s₁ B hml hv
  obtain ⟨rfl, hE, h0⟩ := hv
  have hx := B.exec
  have hb := B.bytes
  have hr := B.returns
  have hts0 := atoms_spec (ws := w_X9_tell) B.pre
  have hts : ∀ w ∈ lwG, w.before _ s = true := fun w hw => hts0 w (List.mem_cons_of_mem _ hw)
  have hown : s.vm.findClass RX9 = some m.cls := findClass_of_methodNamed B.named
  have hlocks := B.notSynchronized
  have hI : hqX D kA HB S.2 S s.heap [] := ⟨h0, Nat.le_refl _, fun _ q => absurd q List.not_mem_nil⟩
  generalize s.heap = H at hI ⊢
  generalize ([] : List Loc) = locs at hI ⊢
  have hl := lv_entry ([.ref a0, .int a1]) (n := 2) (Nat.le_of_ble_eq_true rfl)
  rw [lg_entry_eq]
  generalize (lg_sl ([.ref a0, .int a1]) ++ List.replicate (2 - (lg_sl ([.ref a0, .int a1])).length) Slot.unset).toArray = ls at hl ⊢
  have hl : lv_has ls 2 [(0, .ref a0), (1, .int a1)] := hl
  unfold f_X9_tell at h
  refine lv_aload_n hx hb dX9_tell_0 rfl (lv_at hl 0 rfl) ?_
  refine lv_iconst (v := 3) hx hb dX9_tell_1 (by decide) ?_
  obtain ⟨S2, g1, h⟩ := hq_bind h
  have hrun_g1 : va_Run p l e rm_X9_tell s m ([.ref a0, .int a1] : List Value).toArray below meth c H locs 0 0 0 0 (F0 m 2 ls [.int 3, .ref a0]) [] (hQv D kA HB S S2 ([.ref a0, .int 3] : List Value).toArray) (hFree HB) := by
    unfold fv_X9_begin at g1
    rcases hk_g1 : gC S a0 with _ | k_g1
    · rw [hk_g1] at g1
      cases g1
    · rw [hk_g1] at g1
      have g1 := oC_s g1
      by_cases k0_g1 : k_g1 = 0
      · subst k0_g1
        have g1 := hq_t g1 rfl
        exact va_runU (As := [.int 3]) (rest := []) ⟨hx, hb, hml, hown, hts⟩ (c_X9_begin l D kA ρ HB S a0 3 _ g1) (va_cwU 1 hts (gdIn (List.forall_mem_cons.mpr ⟨kw_837, (List.forall_mem_cons.mpr ⟨kw_1366, (List.forall_mem_cons.mpr ⟨kw_1367, (List.forall_mem_cons.mpr ⟨kw_811, (List.forall_mem_cons.mpr ⟨kw_7, (fun _ h => absurd h List.not_mem_nil)⟩)⟩)⟩)⟩)⟩) kw_812) rfl rfl rfl rfl (by decide +kernel) ⟨Nat.le_of_ble_eq_true rfl, Nat.le_of_ble_eq_true rfl⟩) (hq_preC hE hI hk_g1 rfl _) rfl rfl hl.1 rfl (lv_room (Nat.le_of_ble_eq_true rfl)) dX9_tell_2 ⟨Nat.le_of_ble_eq_true rfl, Nat.le_of_ble_eq_true rfl⟩
      have g1 := hq_f g1 k0_g1
      by_cases k1_g1 : k_g1 = 1
      · subst k1_g1
        have g1 := hq_t g1 rfl
        exact va_runU (As := [.int 3]) (rest := []) ⟨hx, hb, hml, hown, hts⟩ (c_X9_begin l D kA ρ HB S a0 3 _ g1) (va_cwU 1 hts (gdIn (List.forall_mem_cons.mpr ⟨kw_837, (List.forall_mem_cons.mpr ⟨kw_1366, (List.forall_mem_cons.mpr ⟨kw_1368, (List.forall_mem_cons.mpr ⟨kw_811, (List.forall_mem_cons.mpr ⟨kw_7, (fun _ h => absurd h List.not_mem_nil)⟩)⟩)⟩)⟩)⟩) kw_812) rfl rfl rfl rfl (by decide +kernel) ⟨Nat.le_of_ble_eq_true rfl, Nat.le_of_ble_eq_true rfl⟩) (hq_preC hE hI hk_g1 rfl _) rfl rfl hl.1 rfl (lv_room (Nat.le_of_ble_eq_true rfl)) dX9_tell_2 ⟨Nat.le_of_ble_eq_true rfl, Nat.le_of_ble_eq_true rfl⟩
      have g1 := hq_f g1 k1_g1
      by_cases k2_g1 : k_g1 = 2
      · subst k2_g1
        have g1 := hq_t g1 rfl
        exact va_runU (As := [.int 3]) (rest := []) ⟨hx, hb, hml, hown, hts⟩ (c_X9_begin l D kA ρ HB S a0 3 _ g1) (va_cwU 1 hts (gdIn (List.forall_mem_cons.mpr ⟨kw_837, (List.forall_mem_cons.mpr ⟨kw_1366, (List.forall_mem_cons.mpr ⟨kw_1369, (List.forall_mem_cons.mpr ⟨kw_811, (List.forall_mem_cons.mpr ⟨kw_7, (fun _ h => absurd h List.not_mem_nil)⟩)⟩)⟩)⟩)⟩) kw_812) rfl rfl rfl rfl (by decide +kernel) ⟨Nat.le_of_ble_eq_true rfl, Nat.le_of_ble_eq_true rfl⟩) (hq_preC hE hI hk_g1 rfl _) rfl rfl hl.1 rfl (lv_room (Nat.le_of_ble_eq_true rfl)) dX9_tell_2 ⟨Nat.le_of_ble_eq_true rfl, Nat.le_of_ble_eq_true rfl⟩
      have g1 := hq_f g1 k2_g1
      by_cases k3_g1 : k_g1 = 3
      · subst k3_g1
        have g1 := hq_t g1 rfl
        exact va_runU (As := [.int 3]) (rest := []) ⟨hx, hb, hml, hown, hts⟩ (c_X9_begin l D kA ρ HB S a0 3 _ g1) (va_cwU 1 hts (gdIn (List.forall_mem_cons.mpr ⟨kw_837, (List.forall_mem_cons.mpr ⟨kw_1366, (List.forall_mem_cons.mpr ⟨kw_1370, (List.forall_mem_cons.mpr ⟨kw_811, (List.forall_mem_cons.mpr ⟨kw_7, (fun _ h => absurd h List.not_mem_nil)⟩)⟩)⟩)⟩)⟩) kw_812) rfl rfl rfl rfl (by decide +kernel) ⟨Nat.le_of_ble_eq_true rfl, Nat.le_of_ble_eq_true rfl⟩) (hq_preC hE hI hk_g1 rfl _) rfl rfl hl.1 rfl (lv_room (Nat.le_of_ble_eq_true rfl)) dX9_tell_2 ⟨Nat.le_of_ble_eq_true rfl, Nat.le_of_ble_eq_true rfl⟩
      have g1 := hq_f g1 k3_g1
      by_cases k5_g1 : k_g1 = 5
      · subst k5_g1
        have g1 := hq_t g1 rfl
        exact va_runU (As := [.int 3]) (rest := []) ⟨hx, hb, hml, hown, hts⟩ (c_X9_begin l D kA ρ HB S a0 3 _ g1) (va_cwU 1 hts (gdIn (List.forall_mem_cons.mpr ⟨kw_837, (List.forall_mem_cons.mpr ⟨kw_1366, (List.forall_mem_cons.mpr ⟨kw_1371, (List.forall_mem_cons.mpr ⟨kw_811, (List.forall_mem_cons.mpr ⟨kw_7, (fun _ h => absurd h List.not_mem_nil)⟩)⟩)⟩)⟩)⟩) kw_812) rfl rfl rfl rfl (by decide +kernel) ⟨Nat.le_of_ble_eq_true rfl, Nat.le_of_ble_eq_true rfl⟩) (hq_preC hE hI hk_g1 rfl _) rfl rfl hl.1 rfl (lv_room (Nat.le_of_ble_eq_true rfl)) dX9_tell_2 ⟨Nat.le_of_ble_eq_true rfl, Nat.le_of_ble_eq_true rfl⟩
      have g1 := hq_f g1 k5_g1
      by_cases k9_g1 : k_g1 = 9
      · subst k9_g1
        have g1 := hq_t g1 rfl
        exact va_runV (As := [.int 3]) (rest := []) ⟨hx, hb, hml, hown, hts⟩ (c_X9_begin l D kA ρ HB S a0 3 _ g1) (cwV 1 hts (gdIn (List.forall_mem_cons.mpr ⟨kw_837, (List.forall_mem_cons.mpr ⟨kw_811, (List.forall_mem_cons.mpr ⟨kw_1372, (List.forall_mem_cons.mpr ⟨kw_7, (fun _ h => absurd h List.not_mem_nil)⟩)⟩)⟩)⟩) kw_812) rfl rfl rfl ye_X9_begin ⟨Nat.le_of_ble_eq_true rfl, Nat.le_of_ble_eq_true rfl⟩) (hq_preC hE hI hk_g1 rfl _) rfl rfl hl.1 rfl (lv_room (Nat.le_of_ble_eq_true rfl)) dX9_tell_2 ⟨Nat.le_of_ble_eq_true rfl, Nat.le_of_ble_eq_true rfl⟩
      have g1 := hq_f g1 k9_g1
      by_cases k10_g1 : k_g1 = 10
      · subst k10_g1
        have g1 := hq_t g1 rfl
        exact va_runU (As := [.int 3]) (rest := []) ⟨hx, hb, hml, hown, hts⟩ (c_X9_begin l D kA ρ HB S a0 3 _ g1) (va_cwU 1 hts (gdIn (List.forall_mem_cons.mpr ⟨kw_837, (List.forall_mem_cons.mpr ⟨kw_1366, (List.forall_mem_cons.mpr ⟨kw_1373, (List.forall_mem_cons.mpr ⟨kw_811, (List.forall_mem_cons.mpr ⟨kw_7, (fun _ h => absurd h List.not_mem_nil)⟩)⟩)⟩)⟩)⟩) kw_812) rfl rfl rfl rfl (by decide +kernel) ⟨Nat.le_of_ble_eq_true rfl, Nat.le_of_ble_eq_true rfl⟩) (hq_preC hE hI hk_g1 rfl _) rfl rfl hl.1 rfl (lv_room (Nat.le_of_ble_eq_true rfl)) dX9_tell_2 ⟨Nat.le_of_ble_eq_true rfl, Nat.le_of_ble_eq_true rfl⟩
      have g1 := hq_f g1 k10_g1
      cases g1
  refine hq_callv hI hrun_g1 (fun H locs hI => ?_)
  refine lv_aload_n hx hb dX9_tell_5 rfl (lv_at hl 0 rfl) ?_
  refine lv_iload_n hx hb dX9_tell_6 rfl (lv_at hl 1 rfl) ?_
  obtain ⟨v5, S4, g3, h⟩ := hq_bd2 h
  have hrun_g3 : va_Run p l e rm_X9_tell s m ([.ref a0, .int a1] : List Value).toArray below meth c H locs 0 0 0 0 (F0 m 7 ls [.int a1, .ref a0]) [] (hQi D kA HB S2 (v5, S4) ([.ref a0, .int a1] : List Value).toArray) (hFree HB) := by
    unfold fv_X9_know at g3
    rcases hk_g3 : gC S2 a0 with _ | k_g3
    · rw [hk_g3] at g3
      cases g3
    · rw [hk_g3] at g3
      have g3 := oC_s g3
      by_cases k0_g3 : k_g3 = 0
      · subst k0_g3
        have g3 := hq_t g3 rfl
        exact va_runU (As := [.int a1]) (rest := []) ⟨hx, hb, hml, hown, hts⟩ (c_X0_know l D kA ρ HB S2 a0 a1 _ g3) (va_cwO 1 hts (gdIn (List.forall_mem_cons.mpr ⟨kw_901, (List.forall_mem_cons.mpr ⟨kw_841, (List.forall_mem_cons.mpr ⟨kw_839, (List.forall_mem_cons.mpr ⟨kw_842, (List.forall_mem_cons.mpr ⟨kw_843, (List.forall_mem_cons.mpr ⟨kw_9, (fun _ h => absurd h List.not_mem_nil)⟩)⟩)⟩)⟩)⟩)⟩) kw_844) rfl rfl rfl kw_870 (by decide +kernel) ⟨Nat.le_of_ble_eq_true rfl, Nat.le_of_ble_eq_true rfl⟩) (hq_preC hE hI hk_g3 rfl _) rfl rfl hl.1 rfl (lv_room (Nat.le_of_ble_eq_true rfl)) dX9_tell_7 ⟨Nat.le_of_ble_eq_true rfl, Nat.le_of_ble_eq_true rfl⟩
      have g3 := hq_f g3 k0_g3
      by_cases k1_g3 : k_g3 = 1
      · subst k1_g3
        have g3 := hq_t g3 rfl
        exact va_runU (As := [.int a1]) (rest := []) ⟨hx, hb, hml, hown, hts⟩ (c_X0_know l D kA ρ HB S2 a0 a1 _ g3) (va_cwO 1 hts (gdIn (List.forall_mem_cons.mpr ⟨kw_901, (List.forall_mem_cons.mpr ⟨kw_841, (List.forall_mem_cons.mpr ⟨kw_839, (List.forall_mem_cons.mpr ⟨kw_851, (List.forall_mem_cons.mpr ⟨kw_843, (List.forall_mem_cons.mpr ⟨kw_9, (fun _ h => absurd h List.not_mem_nil)⟩)⟩)⟩)⟩)⟩)⟩) kw_844) rfl rfl rfl kw_870 (by decide +kernel) ⟨Nat.le_of_ble_eq_true rfl, Nat.le_of_ble_eq_true rfl⟩) (hq_preC hE hI hk_g3 rfl _) rfl rfl hl.1 rfl (lv_room (Nat.le_of_ble_eq_true rfl)) dX9_tell_7 ⟨Nat.le_of_ble_eq_true rfl, Nat.le_of_ble_eq_true rfl⟩
      have g3 := hq_f g3 k1_g3
      by_cases k2_g3 : k_g3 = 2
      · subst k2_g3
        have g3 := hq_t g3 rfl
        exact va_runU (As := [.int a1]) (rest := []) ⟨hx, hb, hml, hown, hts⟩ (c_X9_know l D kA ρ HB S2 a0 a1 _ g3) (va_cwU 1 hts (gdIn (List.forall_mem_cons.mpr ⟨kw_901, (List.forall_mem_cons.mpr ⟨kw_841, (List.forall_mem_cons.mpr ⟨kw_852, (List.forall_mem_cons.mpr ⟨kw_839, (List.forall_mem_cons.mpr ⟨kw_7, (fun _ h => absurd h List.not_mem_nil)⟩)⟩)⟩)⟩)⟩) kw_870) rfl rfl rfl rfl (by decide +kernel) ⟨Nat.le_of_ble_eq_true rfl, Nat.le_of_ble_eq_true rfl⟩) (hq_preC hE hI hk_g3 rfl _) rfl rfl hl.1 rfl (lv_room (Nat.le_of_ble_eq_true rfl)) dX9_tell_7 ⟨Nat.le_of_ble_eq_true rfl, Nat.le_of_ble_eq_true rfl⟩
      have g3 := hq_f g3 k2_g3
      by_cases k3_g3 : k_g3 = 3
      · subst k3_g3
        have g3 := hq_t g3 rfl
        exact va_runU (As := [.int a1]) (rest := []) ⟨hx, hb, hml, hown, hts⟩ (c_X0_know l D kA ρ HB S2 a0 a1 _ g3) (va_cwO 1 hts (gdIn (List.forall_mem_cons.mpr ⟨kw_901, (List.forall_mem_cons.mpr ⟨kw_841, (List.forall_mem_cons.mpr ⟨kw_839, (List.forall_mem_cons.mpr ⟨kw_853, (List.forall_mem_cons.mpr ⟨kw_843, (List.forall_mem_cons.mpr ⟨kw_9, (fun _ h => absurd h List.not_mem_nil)⟩)⟩)⟩)⟩)⟩)⟩) kw_844) rfl rfl rfl kw_870 (by decide +kernel) ⟨Nat.le_of_ble_eq_true rfl, Nat.le_of_ble_eq_true rfl⟩) (hq_preC hE hI hk_g3 rfl _) rfl rfl hl.1 rfl (lv_room (Nat.le_of_ble_eq_true rfl)) dX9_tell_7 ⟨Nat.le_of_ble_eq_true rfl, Nat.le_of_ble_eq_true rfl⟩
      have g3 := hq_f g3 k3_g3
      by_cases k5_g3 : k_g3 = 5
      · subst k5_g3
        have g3 := hq_t g3 rfl
        exact va_runU (As := [.int a1]) (rest := []) ⟨hx, hb, hml, hown, hts⟩ (c_X9_know l D kA ρ HB S2 a0 a1 _ g3) (va_cwU 1 hts (gdIn (List.forall_mem_cons.mpr ⟨kw_901, (List.forall_mem_cons.mpr ⟨kw_841, (List.forall_mem_cons.mpr ⟨kw_854, (List.forall_mem_cons.mpr ⟨kw_839, (List.forall_mem_cons.mpr ⟨kw_7, (fun _ h => absurd h List.not_mem_nil)⟩)⟩)⟩)⟩)⟩) kw_870) rfl rfl rfl rfl (by decide +kernel) ⟨Nat.le_of_ble_eq_true rfl, Nat.le_of_ble_eq_true rfl⟩) (hq_preC hE hI hk_g3 rfl _) rfl rfl hl.1 rfl (lv_room (Nat.le_of_ble_eq_true rfl)) dX9_tell_7 ⟨Nat.le_of_ble_eq_true rfl, Nat.le_of_ble_eq_true rfl⟩
      have g3 := hq_f g3 k5_g3
      by_cases k9_g3 : k_g3 = 9
      · subst k9_g3
        have g3 := hq_t g3 rfl
        exact va_runV (As := [.int a1]) (rest := []) ⟨hx, hb, hml, hown, hts⟩ (c_X9_know l D kA ρ HB S2 a0 a1 _ g3) (cwV 1 hts (gdIn (List.forall_mem_cons.mpr ⟨kw_901, (List.forall_mem_cons.mpr ⟨kw_839, (List.forall_mem_cons.mpr ⟨kw_840, (List.forall_mem_cons.mpr ⟨kw_7, (fun _ h => absurd h List.not_mem_nil)⟩)⟩)⟩)⟩) kw_870) rfl rfl rfl ye_X9_know ⟨Nat.le_of_ble_eq_true rfl, Nat.le_of_ble_eq_true rfl⟩) (hq_preC hE hI hk_g3 rfl _) rfl rfl hl.1 rfl (lv_room (Nat.le_of_ble_eq_true rfl)) dX9_tell_7 ⟨Nat.le_of_ble_eq_true rfl, Nat.le_of_ble_eq_true rfl⟩
      have g3 := hq_f g3 k9_g3
      by_cases k10_g3 : k_g3 = 10
      · subst k10_g3
        have g3 := hq_t g3 rfl
        exact va_runU (As := [.int a1]) (rest := []) ⟨hx, hb, hml, hown, hts⟩ (c_X10_know l D kA ρ HB S2 a0 a1 _ g3) (va_cwO 1 hts (gdIn (List.forall_mem_cons.mpr ⟨kw_901, (List.forall_mem_cons.mpr ⟨kw_841, (List.forall_mem_cons.mpr ⟨kw_839, (List.forall_mem_cons.mpr ⟨kw_855, (List.forall_mem_cons.mpr ⟨kw_856, (List.forall_mem_cons.mpr ⟨kw_13, (fun _ h => absurd h List.not_mem_nil)⟩)⟩)⟩)⟩)⟩)⟩) kw_857) rfl rfl rfl kw_870 (by decide +kernel) ⟨Nat.le_of_ble_eq_true rfl, Nat.le_of_ble_eq_true rfl⟩) (hq_preC hE hI hk_g3 rfl _) rfl rfl hl.1 rfl (lv_room (Nat.le_of_ble_eq_true rfl)) dX9_tell_7 ⟨Nat.le_of_ble_eq_true rfl, Nat.le_of_ble_eq_true rfl⟩
      have g3 := hq_f g3 k10_g3
      cases g3
  refine hq_calli hI hrun_g3 (fun H locs hI => ?_)
  refine lv_iconst (v := 2) hx hb dX9_tell_10 (by decide) ?_
  refine lv_imul hx hb dX9_tell_11 ?_
  exact hq_iret hx hb hr hlocks h0 hI h dX9_tell_12
-- RodDips$Seen.tell(I)I
theorem dX5_tell_0 : decode cX5_tell 0 = .ok (.aload_n 0, 1) := by decide +kernel
theorem dX5_tell_1 : decode cX5_tell 1 = .ok (.bipush 31, 2) := by decide +kernel
theorem dX5_tell_3 : decode cX5_tell 3 = .ok (.invokevirtual 7, 3) := by decide +kernel
theorem dX5_tell_6 : decode cX5_tell 6 = .ok (.aload_n 0, 1) := by decide +kernel
theorem dX5_tell_7 : decode cX5_tell 7 = .ok (.iload_n 1, 1) := by decide +kernel
theorem dX5_tell_8 : decode cX5_tell 8 = .ok (.invokespecial 13, 3) := by decide +kernel
theorem dX5_tell_11 : decode cX5_tell 11 = .ok (.bipush 7, 2) := by decide +kernel
theorem dX5_tell_13 : decode cX5_tell 13 = .ok (.ixor, 1) := by decide +kernel
theorem dX5_tell_14 : decode cX5_tell 14 = .ok (.ireturn, 1) := by decide +kernel
def fv_X5_begin (S : HSt) (a0 : Nat) (a1 : Int32) : Option (HSt) := oC (gC S a0) none fun k => if k = 5 then f_X9_begin S a0 a1 else if k = 10 then f_X9_begin S a0 a1 else none
def f_X5_tell (S : HSt) (a0 : Nat) (a1 : Int32) : Option (Int32 × HSt) := (fv_X5_begin S a0 31).bind fun S2 => if gK S2 a0 = true then (bd2 (f_X9_tell S2 a0 a1) fun v6 S5 => some (v6 ^^^ 7, S5)) else none
abbrev rm_X5_tell : Room := { frames := 7, cells := 0, slots := 0, locals := 147 }
abbrev w_X5_tell : List Cond := Cond.code yX5_tell cX5_tell 2 (Option.some FieldType.int) :: lwG
theorem yd_X5_tell : yX5_tell.cls ≠ "java/lang/invoke/MethodHandle" ∧ yX5_tell.cls ≠ "java/lang/invoke/VarHandle" ∧ (parseMethodDescriptor yX5_tell.desc).map (fun d => d.parameters.length) = some 1 := by decide +kernel
theorem ye_X5_tell : yX5_tell.cls = RX5 ∧ yX5_tell.cls ≠ "java/lang/invoke/MethodHandle" ∧ yX5_tell.cls ≠ "java/lang/invoke/VarHandle" ∧ (parseMethodDescriptor yX5_tell.desc).map (fun d => d.parameters.length) = some 1 := by decide +kernel
set_option maxHeartbeats 4000000 in
set_option maxRecDepth 100000 in
theorem c_X5_tell (l : Launch) (D : va_G) (kA ρ : Nat → Nat) (HB : Heap) (S : HSt) (a0 : Nat) (a1 : Int32) (res : Int32 × HSt) (h : f_X5_tell S a0 a1 = some res) : Met l yX5_tell w_X5_tell rm_X5_tell (hPc D kA ρ HB S [.ref a0, .int a1]) (hQi D kA HB S res) 0 0 (hFree HB) := by
  refine Met.ofW (cc := cX5_tell) (maxL := 2) (ret := (Option.some FieldType.int)) (by decide) rfl ?_
  intro p e s m args below meth c s₁ B hml hv
  obtain ⟨rfl, hE, h0⟩ := hv
  have hx := B.exec
  have hb := B.bytes
  have hr := B.returns
  have hts0 := atoms_spec (ws := w_X5_tell) B.pre
  have hts : ∀ w ∈ lwG, w.before _ s = true := fun w hw => hts0 w (List.mem_cons_of_mem _ hw)
  have hown : s.vm.findClass RX5 = some m.cls := findClass_of_methodNamed B.named
  have hlocks := B.notSynchronized
  have hI : hqX D kA HB S.2 S s.heap [] := ⟨h0, Nat.le_refl _, fun _ q => absurd q List.not_mem_nil⟩
  generalize s.heap = H at hI ⊢
  generalize ([] : List Loc) = locs at hI ⊢
  have hl := lv_entry ([.ref a0, .int a1]) (n := 2) (Nat.le_of_ble_eq_true rfl)
  rw [lg_entry_eq]
  generalize (lg_sl ([.ref a0, .int a1]) ++ List.replicate (2 - (lg_sl ([.ref a0, .int a1])).length) Slot.unset).toArray = ls at hl ⊢
  have hl : lv_has ls 2 [(0, .ref a0), (1, .int a1)] := hl
  unfold f_X5_tell at h
  refine lv_aload_n hx hb dX5_tell_0 rfl (lv_at hl 0 rfl) ?_
  refine lv_bipush (v := 31) hx hb dX5_tell_1 (by decide) ?_
  obtain ⟨S2, g1, h⟩ := hq_bind h
  have hrun_g1 : va_Run p l e rm_X5_tell s m ([.ref a0, .int a1] : List Value).toArray below meth c H locs 0 0 0 0 (F0 m 3 ls [.int 31, .ref a0]) [] (hQv D kA HB S S2 ([.ref a0, .int 31] : List Value).toArray) (hFree HB) := by
    unfold fv_X5_begin at g1
    rcases hk_g1 : gC S a0 with _ | k_g1
    · rw [hk_g1] at g1
      cases g1
    · rw [hk_g1] at g1
      have g1 := oC_s g1
      by_cases k5_g1 : k_g1 = 5
      · subst k5_g1
        have g1 := hq_t g1 rfl
        exact va_runU (As := [.int 31]) (rest := []) ⟨hx, hb, hml, hown, hts⟩ (c_X9_begin l D kA ρ HB S a0 31 _ g1) (va_cwU 1 hts (gdIn (List.forall_mem_cons.mpr ⟨kw_894, (List.forall_mem_cons.mpr ⟨kw_895, (List.forall_mem_cons.mpr ⟨kw_896, (List.forall_mem_cons.mpr ⟨kw_811, (List.forall_mem_cons.mpr ⟨kw_7, (fun _ h => absurd h List.not_mem_nil)⟩)⟩)⟩)⟩)⟩) kw_812) rfl rfl rfl rfl (by decide +kernel) ⟨Nat.le_of_ble_eq_true rfl, Nat.le_of_ble_eq_true rfl⟩) (hq_preC hE hI hk_g1 rfl _) rfl rfl hl.1 rfl (lv_room (Nat.le_of_ble_eq_true rfl)) dX5_tell_3 ⟨Nat.le_of_ble_eq_true rfl, Nat.le_of_ble_eq_true rfl⟩
      have g1 := hq_f g1 k5_g1
      by_cases k10_g1 : k_g1 = 10
      · subst k10_g1
        have g1 := hq_t g1 rfl
        exact va_runU (As := [.int 31]) (rest := []) ⟨hx, hb, hml, hown, hts⟩ (c_X9_begin l D kA ρ HB S a0 31 _ g1) (va_cwU 1 hts (gdIn (List.forall_mem_cons.mpr ⟨kw_894, (List.forall_mem_cons.mpr ⟨kw_895, (List.forall_mem_cons.mpr ⟨kw_897, (List.forall_mem_cons.mpr ⟨kw_811, (List.forall_mem_cons.mpr ⟨kw_7, (fun _ h => absurd h List.not_mem_nil)⟩)⟩)⟩)⟩)⟩) kw_812) rfl rfl rfl rfl (by decide +kernel) ⟨Nat.le_of_ble_eq_true rfl, Nat.le_of_ble_eq_true rfl⟩) (hq_preC hE hI hk_g1 rfl _) rfl rfl hl.1 rfl (lv_room (Nat.le_of_ble_eq_true rfl)) dX5_tell_3 ⟨Nat.le_of_ble_eq_true rfl, Nat.le_of_ble_eq_true rfl⟩
      have g1 := hq_f g1 k10_g1
      cases g1
  refine hq_callv hI hrun_g1 (fun H locs hI => ?_)
  refine lv_aload_n hx hb dX5_tell_6 rfl (lv_at hl 0 rfl) ?_
  refine lv_iload_n hx hb dX5_tell_7 rfl (lv_at hl 1 rfl) ?_
  obtain ⟨g4, h⟩ := hq_g h
  obtain ⟨v6, S5, g3, h⟩ := hq_bd2 h
  obtain ⟨k_g4, fs_g4, hk_g4, he_g4⟩ := gK_at g4
  obtain ⟨C_g4, hc_g4, hz_g4⟩ := hKin_at hk_g4
  refine hq_calli hI (va_runSU (As := [.int a1]) (rest := []) (hE.1.1 _ _ hc_g4).2 ⟨hx, hb, hml, hown, hts⟩ (c_X9_tell l D kA ρ HB S2 a0 a1 _ g3) (va_cwSU 1 hts (gdIn (List.forall_mem_cons.mpr ⟨kw_898, (List.forall_mem_cons.mpr ⟨kw_875, (List.forall_mem_cons.mpr ⟨kw_286, (List.forall_mem_cons.mpr ⟨kw_873, (List.forall_mem_cons.mpr ⟨kw_7, (fun _ h => absurd h List.not_mem_nil)⟩)⟩)⟩)⟩)⟩) kw_900) rfl rfl rfl (by decide +kernel) ⟨Nat.le_of_ble_eq_true rfl, Nat.le_of_ble_eq_true rfl⟩) (hq_preV hE hI he_g4 hc_g4 _) rfl rfl hl.1 rfl (lv_room (Nat.le_of_ble_eq_true rfl)) dX5_tell_8 ⟨Nat.le_of_ble_eq_true rfl, Nat.le_of_ble_eq_true rfl⟩) (fun H locs hI => ?_)
  refine lv_bipush (v := 7) hx hb dX5_tell_11 (by decide) ?_
  refine lv_ixor hx hb dX5_tell_13 ?_
  exact hq_iret hx hb hr hlocks h0 hI h dX5_tell_14
-- RodDips$Middle.tell(I)I
theorem dX3_tell_0 : decode cX3_tell 0 = .ok (.aload_n 0, 1) := by decide +kernel
theorem dX3_tell_1 : decode cX3_tell 1 = .ok (.bipush 41, 2) := by decide +kernel
theorem dX3_tell_3 : decode cX3_tell 3 = .ok (.invokevirtual 7, 3) := by decide +kernel
theorem dX3_tell_6 : decode cX3_tell 6 = .ok (.aload_n 0, 1) := by decide +kernel
theorem dX3_tell_7 : decode cX3_tell 7 = .ok (.iload_n 1, 1) := by decide +kernel
theorem dX3_tell_8 : decode cX3_tell 8 = .ok (.iconst 1, 1) := by decide +kernel
theorem dX3_tell_9 : decode cX3_tell 9 = .ok (.isub, 1) := by decide +kernel
theorem dX3_tell_10 : decode cX3_tell 10 = .ok (.invokespecial 13, 3) := by decide +kernel
theorem dX3_tell_13 : decode cX3_tell 13 = .ok (.aload_n 0, 1) := by decide +kernel
theorem dX3_tell_14 : decode cX3_tell 14 = .ok (.iconst 2, 1) := by decide +kernel
theorem dX3_tell_15 : decode cX3_tell 15 = .ok (.invokevirtual 17, 3) := by decide +kernel
theorem dX3_tell_18 : decode cX3_tell 18 = .ok (.iadd, 1) := by decide +kernel
theorem dX3_tell_19 : decode cX3_tell 19 = .ok (.ireturn, 1) := by decide +kernel
def fv_X3_begin (S : HSt) (a0 : Nat) (a1 : Int32) : Option (HSt) := oC (gC S a0) none fun k => if k = 3 then f_X9_begin S a0 a1 else none
def fv_X3_say (S : HSt) (a0 : Nat) (a1 : Int32) : Option (Int32 × HSt) := oC (gC S a0) none fun k => if k = 3 then f_X9_say S a0 a1 else none
def f_X3_tell (S : HSt) (a0 : Nat) (a1 : Int32) : Option (Int32 × HSt) := (fv_X3_begin S a0 41).bind fun S2 => if gK S2 a0 = true then (bd2 (f_X9_tell S2 a0 (a1 - 1)) fun v6 S5 => bd2 (fv_X3_say S5 a0 2) fun v9 S8 => some (v6 + v9, S8)) else none
abbrev rm_X3_tell : Room := { frames := 7, cells := 0, slots := 0, locals := 147 }
abbrev w_X3_tell : List Cond := Cond.code yX3_tell cX3_tell 2 (Option.some FieldType.int) :: lwG
theorem yd_X3_tell : yX3_tell.cls ≠ "java/lang/invoke/MethodHandle" ∧ yX3_tell.cls ≠ "java/lang/invoke/VarHandle" ∧ (parseMethodDescriptor yX3_tell.desc).map (fun d => d.parameters.length) = some 1 := by decide +kernel
theorem ye_X3_tell : yX3_tell.cls = RX3 ∧ yX3_tell.cls ≠ "java/lang/invoke/MethodHandle" ∧ yX3_tell.cls ≠ "java/lang/invoke/VarHandle" ∧ (parseMethodDescriptor yX3_tell.desc).map (fun d => d.parameters.length) = some 1 := by decide +kernel
set_option maxHeartbeats 4000000 in
set_option maxRecDepth 100000 in
theorem c_X3_tell (l : Launch) (D : va_G) (kA ρ : Nat → Nat) (HB : Heap) (S : HSt) (a0 : Nat) (a1 : Int32) (res : Int32 × HSt) (h : f_X3_tell S a0 a1 = some res) : Met l yX3_tell w_X3_tell rm_X3_tell (hPc D kA ρ HB S [.ref a0, .int a1]) (hQi D kA HB S res) 0 0 (hFree HB) := by
  refine Met.ofW (cc := cX3_tell) (maxL := 2) (ret := (Option.some FieldType.int)) (by decide) rfl ?_
  intro p e s m args below meth c s₁ B hml hv
  obtain ⟨rfl, hE, h0⟩ := hv
  have hx := B.exec
  have hb := B.bytes
  have hr := B.returns
  have hts0 := atoms_spec (ws := w_X3_tell) B.pre
  have hts : ∀ w ∈ lwG, w.before _ s = true := fun w hw => hts0 w (List.mem_cons_of_mem _ hw)
  have hown : s.vm.findClass RX3 = some m.cls := findClass_of_methodNamed B.named
  have hlocks := B.notSynchronized
  have hI : hqX D kA HB S.2 S s.heap [] := ⟨h0, Nat.le_refl _, fun _ q => absurd q List.not_mem_nil⟩
  generalize s.heap = H at hI ⊢
  generalize ([] : List Loc) = locs at hI ⊢
  have hl := lv_entry ([.ref a0, .int a1]) (n := 2) (Nat.le_of_ble_eq_true rfl)
  rw [lg_entry_eq]
  generalize (lg_sl ([.ref a0, .int a1]) ++ List.replicate (2 - (lg_sl ([.ref a0, .int a1])).length) Slot.unset).toArray = ls at hl ⊢
  have hl : lv_has ls 2 [(0, .ref a0), (1, .int a1)] := hl
  unfold f_X3_tell at h
  refine lv_aload_n hx hb dX3_tell_0 rfl (lv_at hl 0 rfl) ?_
  refine lv_bipush (v := 41) hx hb dX3_tell_1 (by decide) ?_
  obtain ⟨S2, g1, h⟩ := hq_bind h
  have hrun_g1 : va_Run p l e rm_X3_tell s m ([.ref a0, .int a1] : List Value).toArray below meth c H locs 0 0 0 0 (F0 m 3 ls [.int 41, .ref a0]) [] (hQv D kA HB S S2 ([.ref a0, .int 41] : List Value).toArray) (hFree HB) := by
    unfold fv_X3_begin at g1
    rcases hk_g1 : gC S a0 with _ | k_g1
    · rw [hk_g1] at g1
      cases g1
    · rw [hk_g1] at g1
      have g1 := oC_s g1
      by_cases k3_g1 : k_g1 = 3
      · subst k3_g1
        have g1 := hq_t g1 rfl
        exact va_runU (As := [.int 41]) (rest := []) ⟨hx, hb, hml, hown, hts⟩ (c_X9_begin l D kA ρ HB S a0 41 _ g1) (va_cwU 1 hts (gdIn (List.forall_mem_cons.mpr ⟨kw_882, (List.forall_mem_cons.mpr ⟨kw_883, (List.forall_mem_cons.mpr ⟨kw_884, (List.forall_mem_cons.mpr ⟨kw_811, (List.forall_mem_cons.mpr ⟨kw_7, (fun _ h => absurd h List.not_mem_nil)⟩)⟩)⟩)⟩)⟩) kw_812) rfl rfl rfl rfl (by decide +kernel) ⟨Nat.le_of_ble_eq_true rfl, Nat.le_of_ble_eq_true rfl⟩) (hq_preC hE hI hk_g1 rfl _) rfl rfl hl.1 rfl (lv_room (Nat.le_of_ble_eq_true rfl)) dX3_tell_3 ⟨Nat.le_of_ble_eq_true rfl, Nat.le_of_ble_eq_true rfl⟩
      have g1 := hq_f g1 k3_g1
      cases g1
  refine hq_callv hI hrun_g1 (fun H locs hI => ?_)
  refine lv_aload_n hx hb dX3_tell_6 rfl (lv_at hl 0 rfl) ?_
  refine lv_iload_n hx hb dX3_tell_7 rfl (lv_at hl 1 rfl) ?_
  refine lv_iconst (v := 1) hx hb dX3_tell_8 (by decide) ?_
  refine lv_isub hx hb dX3_tell_9 ?_
  obtain ⟨g4, h⟩ := hq_g h
  obtain ⟨v6, S5, g3, h⟩ := hq_bd2 h
  refine hq_calli hI (hq_runSI (As := [.int (a1 - 1)]) (rest := []) (n := 1) hI hE g4 ⟨hx, hb, hml, hown, hts⟩ (c_X9_tell l D kA ρ HB S2 a0 (a1 - 1) _ g3) (gdIn (hd := []) (fun _ h => absurd h List.not_mem_nil) kw_900) rfl rfl kw_885 kw_886 kw_302 kw_270 kw_873 kw_7 rfl rfl (by decide +kernel) ⟨Nat.le_of_ble_eq_true rfl, Nat.le_of_ble_eq_true rfl⟩ rfl rfl hl.1 rfl (lv_room (Nat.le_of_ble_eq_true rfl)) dX3_tell_10 ⟨Nat.le_of_ble_eq_true rfl, Nat.le_of_ble_eq_true rfl⟩) (fun H locs hI => ?_)
  refine lv_aload_n hx hb dX3_tell_13 rfl (lv_at hl 0 rfl) ?_
  refine lv_iconst (v := 2) hx hb dX3_tell_14 (by decide) ?_
  obtain ⟨v9, S8, g7, h⟩ := hq_bd2 h
  have hrun_g7 : va_Run p l e rm_X3_tell s m ([.ref a0, .int a1] : List Value).toArray below meth c H locs 0 0 0 0 (F0 m 15 ls [.int 2, .ref a0, .int v6]) [.int v6] (hQi D kA HB S5 (v9, S8) ([.ref a0, .int 2] : List Value).toArray) (hFree HB) := by
    unfold fv_X3_say at g7
    rcases hk_g7 : gC S5 a0 with _ | k_g7
    · rw [hk_g7] at g7
      cases g7
    · rw [hk_g7] at g7
      have g7 := oC_s g7
      by_cases k3_g7 : k_g7 = 3
      · subst k3_g7
        have g7 := hq_t g7 rfl
        exact va_runU (As := [.int 2]) (rest := [.int v6]) ⟨hx, hb, hml, hown, hts⟩ (c_X9_say l D kA ρ HB S5 a0 2 _ g7) (va_cwU 1 hts (gdIn (List.forall_mem_cons.mpr ⟨kw_888, (List.forall_mem_cons.mpr ⟨kw_889, (List.forall_mem_cons.mpr ⟨kw_890, (List.forall_mem_cons.mpr ⟨kw_800, (List.forall_mem_cons.mpr ⟨kw_7, (fun _ h => absurd h List.not_mem_nil)⟩)⟩)⟩)⟩)⟩) kw_836) rfl rfl rfl rfl (by decide +kernel) ⟨Nat.le_of_ble_eq_true rfl, Nat.le_of_ble_eq_true rfl⟩) (hq_preC hE hI hk_g7 rfl _) rfl rfl hl.1 rfl (lv_room (Nat.le_of_ble_eq_true rfl)) dX3_tell_15 ⟨Nat.le_of_ble_eq_true rfl, Nat.le_of_ble_eq_true rfl⟩
      have g7 := hq_f g7 k3_g7
      cases g7
  refine hq_calli hI hrun_g7 (fun H locs hI => ?_)
  refine lv_iadd hx hb dX3_tell_18 ?_
  exact hq_iret hx hb hr hlocks h0 hI h dX3_tell_19
