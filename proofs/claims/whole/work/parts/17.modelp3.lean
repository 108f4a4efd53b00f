/-! the reference reads texts: printed by wip/whole/gen.py -/
-- RodDipsModel.tested(ILjava/lang/String;)V
theorem dX12_tested_0 : decode cX12_tested 0 = .ok (.aload_n 0, 1) := by decide +kernel
theorem dX12_tested_1 : decode cX12_tested 1 = .ok (.aload_n 2, 1) := by decide +kernel
theorem dX12_tested_2 : decode cX12_tested 2 = .ok (.invokevirtual 120, 3) := by decide +kernel
theorem dX12_tested_5 : decode cX12_tested 5 = .ok (.aload_n 0, 1) := by decide +kernel
theorem dX12_tested_6 : decode cX12_tested 6 = .ok (.invokevirtual 101, 3) := by decide +kernel
theorem dX12_tested_9 : decode cX12_tested 9 = .ok (.aload_n 0, 1) := by decide +kernel
theorem dX12_tested_10 : decode cX12_tested 10 = .ok (.bipush (-10), 2) := by decide +kernel
theorem dX12_tested_12 : decode cX12_tested 12 = .ok (.bipush 100, 2) := by decide +kernel
theorem dX12_tested_14 : decode cX12_tested 14 = .ok (.iload_n 1, 1) := by decide +kernel
theorem dX12_tested_15 : decode cX12_tested 15 = .ok (.imul, 1) := by decide +kernel
theorem dX12_tested_16 : decode cX12_tested 16 = .ok (.isub, 1) := by decide +kernel
theorem dX12_tested_17 : decode cX12_tested 17 = .ok (.invokevirtual 98, 3) := by decide +kernel
theorem dX12_tested_20 : decode cX12_tested 20 = .ok (.return_, 1) := by decide +kernel
def f_X12_tested (ρ : Nat → Nat) (S : HSt) (a0 : Nat) (a1 : Int32) (a2 : Nat) : Option (HSt) := if gC S a0 = some 12 then ((f_X12_spells ρ S a0 a2).bind fun S3 => if gC S3 a0 = some 12 then ((f_X12_someR ρ S3 a0).bind fun S6 => if gC S6 a0 = some 12 then ((f_X12_emits S6 a0 ((-10) - (100 * a1))).bind fun S9 => some S9) else none) else none) else none
abbrev rm_X12_tested : Room := { frames := 761, cells := 0, slots := 0, locals := 15220 }
abbrev w_X12_tested : List Cond := Cond.code yX12_tested cX12_tested 3 none :: lwG
theorem yd_X12_tested : yX12_tested.cls ≠ "java/lang/invoke/MethodHandle" ∧ yX12_tested.cls ≠ "java/lang/invoke/VarHandle" ∧ (parseMethodDescriptor yX12_tested.desc).map (fun d => d.parameters.length) = some 2 := by decide +kernel
theorem ye_X12_tested : yX12_tested.cls = RX12 ∧ yX12_tested.cls ≠ "java/lang/invoke/MethodHandle" ∧ yX12_tested.cls ≠ "java/lang/invoke/VarHandle" ∧ (parseMethodDescriptor yX12_tested.desc).map (fun d => d.parameters.length) = some 2 := by decide +kernel
set_option maxHeartbeats 4000000 in
set_option maxRecDepth 100000 in
theorem c_X12_tested (l : Launch) (D : va_G) (kA ρ : Nat → Nat) (HB : Heap) (S : HSt) (a0 : Nat) (a1 : Int32) (a2 : Nat) (res : HSt) (h : f_X12_tested ρ S a0 a1 a2 = some res) : Met l yX12_tested w_X12_tested rm_X12_tested (hPc D kA ρ HB S [.ref a0, .int a1, .ref a2]) (hQv D kA HB S res) 0 0 (hFree HB) := by
  refine Met.ofW (cc := cX12_tested) (maxL := 3) (ret := none) (by decide) rfl ?_
  intro p e s m args below meth c s₁ B hml hv
  obtain ⟨rfl, hE, h0⟩ := hv
  have hx := B.exec
  have hb := B.bytes
  have hr := B.returns
  have hts0 := atoms_spec (ws := w_X12_tested) B.pre
  have hts : ∀ w ∈ lwG, w.before _ s = true := fun w hw => hts0 w (List.mem_cons_of_mem _ hw)
  have hown : s.vm.findClass RX12 = some m.cls := findClass_of_methodNamed B.named
  have hlocks := B.notSynchronized
  have hI : hqX D kA HB S.2 S s.heap [] := ⟨h0, Nat.le_refl _, fun _ q => absurd q List.not_mem_nil⟩
  have hl := lv_entry ([.ref a0, .int a1, .ref a2]) (n := 3) (Nat.le_of_ble_eq_true rfl)
  rw [lg_entry_eq]
  generalize (lg_sl ([.ref a0, .int a1, .ref a2]) ++ List.replicate (3 - (lg_sl ([.ref a0, .int a1, .ref a2])).length) Slot.unset).toArray = ls at hl ⊢
  have hl : lv_has ls 3 [(0, .ref a0), (1, .int a1), (2, .ref a2)] := hl
  unfold f_X12_tested at h
  refine lv_aload_n hx hb dX12_tested_0 rfl (lv_at hl 0 rfl) ?_
  refine lv_aload_n hx hb dX12_tested_1 rfl (lv_at hl 2 rfl) ?_
  obtain ⟨g2, h⟩ := hq_g h
  obtain ⟨S3, g1, h⟩ := hq_bind h
  refine hq_callv hI (va_runV (As := [.ref a2]) (rest := []) ⟨hx, hb, hml, hown, hts⟩ (c_X12_spells l D kA ρ HB S a0 a2 _ g1) (cwV 1 hts (gdIn (List.forall_mem_cons.mpr ⟨kw_1069, (List.forall_mem_cons.mpr ⟨kw_1071, (List.forall_mem_cons.mpr ⟨ks_37, (List.forall_mem_cons.mpr ⟨kw_6, (fun _ h => absurd h List.not_mem_nil)⟩)⟩)⟩)⟩) kw_1072) rfl rfl rfl ye_X12_spells ⟨Nat.le_of_ble_eq_true rfl, Nat.le_of_ble_eq_true rfl⟩) (hq_preC hE hI g2 rfl _) rfl rfl hl.1 rfl (lv_room (Nat.le_of_ble_eq_true rfl)) dX12_tested_2 ⟨Nat.le_of_ble_eq_true rfl, Nat.le_of_ble_eq_true rfl⟩) (fun H locs hI => ?_)
  refine lv_aload_n hx hb dX12_tested_5 rfl (lv_at hl 0 rfl) ?_
  obtain ⟨g5, h⟩ := hq_g h
  obtain ⟨S6, g4, h⟩ := hq_bind h
  refine hq_callv hI (va_runV (As := []) (rest := []) ⟨hx, hb, hml, hown, hts⟩ (c_X12_someR l D kA ρ HB S3 a0 _ g4) (cwV 0 hts (gdIn (List.forall_mem_cons.mpr ⟨kw_1089, (List.forall_mem_cons.mpr ⟨kw_1091, (List.forall_mem_cons.mpr ⟨ks_41, (List.forall_mem_cons.mpr ⟨kw_6, (fun _ h => absurd h List.not_mem_nil)⟩)⟩)⟩)⟩) kw_1092) rfl rfl rfl ye_X12_some ⟨Nat.le_of_ble_eq_true rfl, Nat.le_of_ble_eq_true rfl⟩) (hq_preC hE hI g5 rfl _) rfl rfl hl.1 rfl (lv_room (Nat.le_of_ble_eq_true rfl)) dX12_tested_6 ⟨Nat.le_of_ble_eq_true rfl, Nat.le_of_ble_eq_true rfl⟩) (fun H locs hI => ?_)
  refine lv_aload_n hx hb dX12_tested_9 rfl (lv_at hl 0 rfl) ?_
  refine lv_bipush (v := (-10)) hx hb dX12_tested_10 (by decide) ?_
  refine lv_bipush (v := 100) hx hb dX12_tested_12 (by decide) ?_
  refine lv_iload_n hx hb dX12_tested_14 rfl (lv_at hl 1 rfl) ?_
  refine lv_imul hx hb dX12_tested_15 ?_
  refine lv_isub hx hb dX12_tested_16 ?_
  obtain ⟨g8, h⟩ := hq_g h
  obtain ⟨S9, g7, h⟩ := hq_bind h
  refine hq_callv hI (va_runV (As := [.int ((-10) - (100 * a1))]) (rest := []) ⟨hx, hb, hml, hown, hts⟩ (c_X12_emits l D kA ρ HB S6 a0 ((-10) - (100 * a1)) _ g7) (cwV 1 hts (gdIn (List.forall_mem_cons.mpr ⟨kw_1101, (List.forall_mem_cons.mpr ⟨kw_1103, (List.forall_mem_cons.mpr ⟨ks_44, (List.forall_mem_cons.mpr ⟨kw_6, (fun _ h => absurd h List.not_mem_nil)⟩)⟩)⟩)⟩) kw_1104) rfl rfl rfl ye_X12_emits ⟨Nat.le_of_ble_eq_true rfl, Nat.le_of_ble_eq_true rfl⟩) (hq_preC hE hI g8 rfl _) rfl rfl hl.1 rfl (lv_room (Nat.le_of_ble_eq_true rfl)) dX12_tested_17 ⟨Nat.le_of_ble_eq_true rfl, Nat.le_of_ble_eq_true rfl⟩) (fun H locs hI => ?_)
  exact hq_vret hx hb hr hlocks h0 hI h dX12_tested_20
-- RodDipsModel.numbered(ILjava/lang/String;)V
theorem dX12_numbered_0 : decode cX12_numbered 0 = .ok (.aload_n 0, 1) := by decide +kernel
theorem dX12_numbered_1 : decode cX12_numbered 1 = .ok (.aload_n 2, 1) := by decide +kernel
theorem dX12_numbered_2 : decode cX12_numbered 2 = .ok (.invokevirtual 120, 3) := by decide +kernel
theorem dX12_numbered_5 : decode cX12_numbered 5 = .ok (.aload_n 0, 1) := by decide +kernel
theorem dX12_numbered_6 : decode cX12_numbered 6 = .ok (.invokevirtual 114, 3) := by decide +kernel
theorem dX12_numbered_9 : decode cX12_numbered 9 = .ok (.istore_n 3, 1) := by decide +kernel
theorem dX12_numbered_10 : decode cX12_numbered 10 = .ok (.aload_n 0, 1) := by decide +kernel
theorem dX12_numbered_11 : decode cX12_numbered 11 = .ok (.getfield 68, 3) := by decide +kernel
theorem dX12_numbered_14 : decode cX12_numbered 14 = .ok (.ifCond .ne 10, 3) := by decide +kernel
theorem dX12_numbered_17 : decode cX12_numbered 17 = .ok (.aload_n 0, 1) := by decide +kernel
theorem dX12_numbered_18 : decode cX12_numbered 18 = .ok (.getfield 9, 3) := by decide +kernel
theorem dX12_numbered_21 : decode cX12_numbered 21 = .ok (.iload_n 1, 1) := by decide +kernel
theorem dX12_numbered_22 : decode cX12_numbered 22 = .ok (.iload_n 3, 1) := by decide +kernel
theorem dX12_numbered_23 : decode cX12_numbered 23 = .ok (.iastore, 1) := by decide +kernel
theorem dX12_numbered_24 : decode cX12_numbered 24 = .ok (.return_, 1) := by decide +kernel
def f_X12_numbered (ρ : Nat → Nat) (S : HSt) (a0 : Nat) (a1 : Int32) (a2 : Nat) : Option (HSt) := if gC S a0 = some 12 then ((f_X12_spells ρ S a0 a2).bind fun S3 => if gC S3 a0 = some 12 then (bd2 (f_X12_figures S3 a0) fun v7 S6 => (gI S6 a0 12 7).bind fun v8 => if v8 = 0 then ((gR S6 a0 12 1).bind fun b11 => (sI S6 b11 0 a1 v7).bind fun S14 => some S14) else (some S6)) else none) else none
abbrev rm_X12_numbered : Room := { frames := 5, cells := 0, slots := 0, locals := 107 }
abbrev w_X12_numbered : List Cond := Cond.code yX12_numbered cX12_numbered 4 none :: lwG
theorem yd_X12_numbered : yX12_numbered.cls ≠ "java/lang/invoke/MethodHandle" ∧ yX12_numbered.cls ≠ "java/lang/invoke/VarHandle" ∧ (parseMethodDescriptor yX12_numbered.desc).map (fun d => d.parameters.length) = some 2 := by decide +kernel
theorem ye_X12_numbered : yX12_numbered.cls = RX12 ∧ yX12_numbered.cls ≠ "java/lang/invoke/MethodHandle" ∧ yX12_numbered.cls ≠ "java/lang/invoke/VarHandle" ∧ (parseMethodDescriptor yX12_numbered.desc).map (fun d => d.parameters.length) = some 2 := by decide +kernel
set_option maxHeartbeats 4000000 in
set_option maxRecDepth 100000 in
theorem c_X12_numbered (l : Launch) (D : va_G) (kA ρ : Nat → Nat) (HB : Heap) (S : HSt) (a0 : Nat) (a1 : Int32) (a2 : Nat) (res : HSt) (h : f_X12_numbered ρ S a0 a1 a2 = some res) : Met l yX12_numbered w_X12_numbered rm_X12_numbered (hPc D kA ρ HB S [.ref a0, .int a1, .ref a2]) (hQv D kA HB S res) 0 0 (hFree HB) := by
  refine Met.ofW (cc := cX12_numbered) (maxL := 4) (ret := none) (by decide) rfl ?_
  intro p e s m args below meth c s₁ B hml hv
  obtain ⟨rfl, hE, h0⟩ := hv
  have hx := B.exec
  have hb := B.bytes
  have hr := B.returns
  have hts0 := atoms_spec (ws := w_X12_numbered) B.pre
  have hts : ∀ w ∈ lwG, w.before _ s = true := fun w hw => hts0 w (List.mem_cons_of_mem _ hw)
  have hown : s.vm.findClass RX12 = some m.cls := findClass_of_methodNamed B.named
  have hlocks := B.notSynchronized
  have hI : hqX D kA HB S.2 S s.heap [] := ⟨h0, Nat.le_refl _, fun _ q => absurd q List.not_mem_nil⟩
  have hl := lv_entry ([.ref a0, .int a1, .ref a2]) (n := 4) (Nat.le_of_ble_eq_true rfl)
  rw [lg_entry_eq]
  generalize (lg_sl ([.ref a0, .int a1, .ref a2]) ++ List.replicate (4 - (lg_sl ([.ref a0, .int a1, .ref a2])).length) Slot.unset).toArray = ls at hl ⊢
  have hl : lv_has ls 4 [(0, .ref a0), (1, .int a1), (2, .ref a2)] := hl
  unfold f_X12_numbered at h
  refine lv_aload_n hx hb dX12_numbered_0 rfl (lv_at hl 0 rfl) ?_
  refine lv_aload_n hx hb dX12_numbered_1 rfl (lv_at hl 2 rfl) ?_
  obtain ⟨g2, h⟩ := hq_g h
  obtain ⟨S3, g1, h⟩ := hq_bind h
  refine hq_callv hI (va_runV (As := [.ref a2]) (rest := []) ⟨hx, hb, hml, hown, hts⟩ (c_X12_spells l D kA ρ HB S a0 a2 _ g1) (cwV 1 hts (gdIn (List.forall_mem_cons.mpr ⟨kw_1069, (List.forall_mem_cons.mpr ⟨kw_1071, (List.forall_mem_cons.mpr ⟨ks_37, (List.forall_mem_cons.mpr ⟨kw_6, (fun _ h => absurd h List.not_mem_nil)⟩)⟩)⟩)⟩) kw_1072) rfl rfl rfl ye_X12_spells ⟨Nat.le_of_ble_eq_true rfl, Nat.le_of_ble_eq_true rfl⟩) (hq_preC hE hI g2 rfl _) rfl rfl hl.1 rfl (lv_room (Nat.le_of_ble_eq_true rfl)) dX12_numbered_2 ⟨Nat.le_of_ble_eq_true rfl, Nat.le_of_ble_eq_true rfl⟩) (fun H locs hI => ?_)
  refine lv_aload_n hx hb dX12_numbered_5 rfl (lv_at hl 0 rfl) ?_
  obtain ⟨g5, h⟩ := hq_g h
  obtain ⟨v7, S6, g4, h⟩ := hq_bd2 h
  refine hq_calli hI (va_runV (As := []) (rest := []) ⟨hx, hb, hml, hown, hts⟩ (c_X12_figures l D kA ρ HB S3 a0 _ g4) (cwV 0 hts (gdIn (List.forall_mem_cons.mpr ⟨kw_1079, (List.forall_mem_cons.mpr ⟨kw_1081, (List.forall_mem_cons.mpr ⟨ks_39, (List.forall_mem_cons.mpr ⟨kw_6, (fun _ h => absurd h List.not_mem_nil)⟩)⟩)⟩)⟩) kw_1082) rfl rfl rfl ye_X12_figures ⟨Nat.le_of_ble_eq_true rfl, Nat.le_of_ble_eq_true rfl⟩) (hq_preC hE hI g5 rfl _) rfl rfl hl.1 rfl (lv_room (Nat.le_of_ble_eq_true rfl)) dX12_numbered_6 ⟨Nat.le_of_ble_eq_true rfl, Nat.le_of_ble_eq_true rfl⟩) (fun H locs hI => ?_)
  refine lv_istore_n (lv' := [(3, .int v7), (0, .ref a0), (1, .int a1), (2, .ref a2)]) hx hb dX12_numbered_9 rfl hl (by decide) rfl (fun ls hl => ?_)
  refine lv_aload_n hx hb dX12_numbered_10 rfl (lv_at hl 1 rfl) ?_
  obtain ⟨v8, g9, h⟩ := hq_bind h
  obtain ⟨fs_g9, hs_g9, hv_g9⟩ := gI_at g9
  refine hq_get hx hb hts hown hE hI hs_g9 inG12 rfl 7 (by decide) kw_951 hv_g9 dX12_numbered_11 ?_
  refine lv_if_ne (tgt := 24) hx hb dX12_numbered_14 (by decide) (fun c10 => ?_) (fun c10 => ?_)
  · have h := hq_f h c10
    exact hq_vret hx hb hr hlocks h0 hI h dX12_numbered_24
  · have h := hq_t h c10
    refine lv_aload_n hx hb dX12_numbered_17 rfl (lv_at hl 1 rfl) ?_
    obtain ⟨b11, g12, h⟩ := hq_bind h
    obtain ⟨fs_g12, hs_g12, hv_g12⟩ := gR_at g12
    refine hq_get hx hb hts hown hE hI hs_g12 inG12 rfl 1 (by decide) kw_945 hv_g12 dX12_numbered_18 ?_
    refine lv_iload_n hx hb dX12_numbered_21 rfl (lv_at hl 2 rfl) ?_
    refine lv_iload_n hx hb dX12_numbered_22 rfl (lv_at hl 0 rfl) ?_
    obtain ⟨S14, g13, h⟩ := hq_bind h
    refine hq_iast hx hb hE hI g13 dX12_numbered_23 (fun H locs hI => ?_)
    exact hq_vret hx hb hr hlocks h0 hI h dX12_numbered_24
-- RodDipsModel.saying(ILjava/lang/String;)V
theorem dX12_saying_0 : decode cX12_saying 0 = .ok (.aload_n 0, 1) := by decide +kernel
theorem dX12_saying_1 : decode cX12_saying 1 = .ok (.aload_n 2, 1) := by decide +kernel
theorem dX12_saying_2 : decode cX12_saying 2 = .ok (.invokevirtual 120, 3) := by decide +kernel
theorem dX12_saying_5 : decode cX12_saying 5 = .ok (.aload_n 0, 1) := by decide +kernel
theorem dX12_saying_6 : decode cX12_saying 6 = .ok (.invokevirtual 114, 3) := by decide +kernel
theorem dX12_saying_9 : decode cX12_saying 9 = .ok (.istore_n 3, 1) := by decide +kernel
theorem dX12_saying_10 : decode cX12_saying 10 = .ok (.aload_n 0, 1) := by decide +kernel
theorem dX12_saying_11 : decode cX12_saying 11 = .ok (.bipush 32, 2) := by decide +kernel
theorem dX12_saying_13 : decode cX12_saying 13 = .ok (.invokevirtual 85, 3) := by decide +kernel
theorem dX12_saying_16 : decode cX12_saying 16 = .ok (.aload_n 0, 1) := by decide +kernel
theorem dX12_saying_17 : decode cX12_saying 17 = .ok (.invokevirtual 101, 3) := by decide +kernel
theorem dX12_saying_20 : decode cX12_saying 20 = .ok (.aload_n 0, 1) := by decide +kernel
theorem dX12_saying_21 : decode cX12_saying 21 = .ok (.bipush (-10), 2) := by decide +kernel
theorem dX12_saying_23 : decode cX12_saying 23 = .ok (.bipush 100, 2) := by decide +kernel
theorem dX12_saying_25 : decode cX12_saying 25 = .ok (.iload_n 1, 1) := by decide +kernel
theorem dX12_saying_26 : decode cX12_saying 26 = .ok (.imul, 1) := by decide +kernel
theorem dX12_saying_27 : decode cX12_saying 27 = .ok (.isub, 1) := by decide +kernel
theorem dX12_saying_28 : decode cX12_saying 28 = .ok (.iload_n 3, 1) := by decide +kernel
theorem dX12_saying_29 : decode cX12_saying 29 = .ok (.isub, 1) := by decide +kernel
theorem dX12_saying_30 : decode cX12_saying 30 = .ok (.invokevirtual 98, 3) := by decide +kernel
theorem dX12_saying_33 : decode cX12_saying 33 = .ok (.return_, 1) := by decide +kernel
def f_X12_saying (ρ : Nat → Nat) (S : HSt) (a0 : Nat) (a1 : Int32) (a2 : Nat) : Option (HSt) := if gC S a0 = some 12 then ((f_X12_spells ρ S a0 a2).bind fun S3 => if gC S3 a0 = some 12 then (bd2 (f_X12_figures S3 a0) fun v7 S6 => if gC S6 a0 = some 12 then ((f_X12_must S6 a0 32).bind fun S10 => if gC S10 a0 = some 12 then ((f_X12_someR ρ S10 a0).bind fun S13 => if gC S13 a0 = some 12 then ((f_X12_emits S13 a0 (((-10) - (100 * a1)) - v7)).bind fun S16 => some S16) else none) else none) else none) else none) else none
abbrev rm_X12_saying : Room := { frames := 761, cells := 0, slots := 0, locals := 15220 }
abbrev w_X12_saying : List Cond := Cond.code yX12_saying cX12_saying 4 none :: lwG
theorem yd_X12_saying : yX12_saying.cls ≠ "java/lang/invoke/MethodHandle" ∧ yX12_saying.cls ≠ "java/lang/invoke/VarHandle" ∧ (parseMethodDescriptor yX12_saying.desc).map (fun d => d.parameters.length) = some 2 := by decide +kernel
theorem ye_X12_saying : yX12_saying.cls = RX12 ∧ yX12_saying.cls ≠ "java/lang/invoke/MethodHandle" ∧ yX12_saying.cls ≠ "java/lang/invoke/VarHandle" ∧ (parseMethodDescriptor yX12_saying.desc).map (fun d => d.parameters.length) = some 2 := by decide +kernel
set_option maxHeartbeats 4000000 in
set_option maxRecDepth 100000 in
theorem c_X12_saying (l : Launch) (D : va_G) (kA ρ : Nat → Nat) (HB : Heap) (S : HSt) (a0 : Nat) (a1 : Int32) (a2 : Nat) (res : HSt) (h : f_X12_saying ρ S a0 a1 a2 = some res) : Met l yX12_saying w_X12_saying rm_X12_saying (hPc D kA ρ HB S [.ref a0, .int a1, .ref a2]) (hQv D kA HB S res) 0 0 (hFree HB) := by
  refine Met.ofW (cc := cX12_saying) (maxL := 4) (ret := none) (by decide) rfl ?_
  intro p e s m args below meth c s₁ B hml hv
  obtain ⟨rfl, hE, h0⟩ := hv
  have hx := B.exec
  have hb := B.bytes
  have hr := B.returns
  have hts0 := atoms_spec (ws := w_X12_saying) B.pre
  have hts : ∀ w ∈ lwG, w.before _ s = true := fun w hw => hts0 w (List.mem_cons_of_mem _ hw)
  have hown : s.vm.findClass RX12 = some m.cls := findClass_of_methodNamed B.named
  have hlocks := B.notSynchronized
  have hI : hqX D kA HB S.2 S s.heap [] := ⟨h0, Nat.le_refl _, fun _ q => absurd q List.not_mem_nil⟩
  have hl := lv_entry ([.ref a0, .int a1, .ref a2]) (n := 4) (Nat.le_of_ble_eq_true rfl)
  rw [lg_entry_eq]
  generalize (lg_sl ([.ref a0, .int a1, .ref a2]) ++ List.replicate (4 - (lg_sl ([.ref a0, .int a1, .ref a2])).length) Slot.unset).toArray = ls at hl ⊢
  have hl : lv_has ls 4 [(0, .ref a0), (1, .int a1), (2, .ref a2)] := hl
  unfold f_X12_saying at h
  refine lv_aload_n hx hb dX12_saying_0 rfl (lv_at hl 0 rfl) ?_
  refine lv_aload_n hx hb dX12_saying_1 rfl (lv_at hl 2 rfl) ?_
  obtain ⟨g2, h⟩ := hq_g h
  obtain ⟨S3, g1, h⟩ := hq_bind h
  refine hq_callv hI (va_runV (As := [.ref a2]) (rest := []) ⟨hx, hb, hml, hown, hts⟩ (c_X12_spells l D kA ρ HB S a0 a2 _ g1) (cwV 1 hts (gdIn (List.forall_mem_cons.mpr ⟨kw_1069, (List.forall_mem_cons.mpr ⟨kw_1071, (List.forall_mem_cons.mpr ⟨ks_37, (List.forall_mem_cons.mpr ⟨kw_6, (fun _ h => absurd h List.not_mem_nil)⟩)⟩)⟩)⟩) kw_1072) rfl rfl rfl ye_X12_spells ⟨Nat.le_of_ble_eq_true rfl, Nat.le_of_ble_eq_true rfl⟩) (hq_preC hE hI g2 rfl _) rfl rfl hl.1 rfl (lv_room (Nat.le_of_ble_eq_true rfl)) dX12_saying_2 ⟨Nat.le_of_ble_eq_true rfl, Nat.le_of_ble_eq_true rfl⟩) (fun H locs hI => ?_)
  refine lv_aload_n hx hb dX12_saying_5 rfl (lv_at hl 0 rfl) ?_
  obtain ⟨g5, h⟩ := hq_g h
  obtain ⟨v7, S6, g4, h⟩ := hq_bd2 h
  refine hq_calli hI (va_runV (As := []) (rest := []) ⟨hx, hb, hml, hown, hts⟩ (c_X12_figures l D kA ρ HB S3 a0 _ g4) (cwV 0 hts (gdIn (List.forall_mem_cons.mpr ⟨kw_1079, (List.forall_mem_cons.mpr ⟨kw_1081, (List.forall_mem_cons.mpr ⟨ks_39, (List.forall_mem_cons.mpr ⟨kw_6, (fun _ h => absurd h List.not_mem_nil)⟩)⟩)⟩)⟩) kw_1082) rfl rfl rfl ye_X12_figures ⟨Nat.le_of_ble_eq_true rfl, Nat.le_of_ble_eq_true rfl⟩) (hq_preC hE hI g5 rfl _) rfl rfl hl.1 rfl (lv_room (Nat.le_of_ble_eq_true rfl)) dX12_saying_6 ⟨Nat.le_of_ble_eq_true rfl, Nat.le_of_ble_eq_true rfl⟩) (fun H locs hI => ?_)
  refine lv_istore_n (lv' := [(3, .int v7), (0, .ref a0), (1, .int a1), (2, .ref a2)]) hx hb dX12_saying_9 rfl hl (by decide) rfl (fun ls hl => ?_)
  refine lv_aload_n hx hb dX12_saying_10 rfl (lv_at hl 1 rfl) ?_
  refine lv_bipush (v := 32) hx hb dX12_saying_11 (by decide) ?_
  obtain ⟨g9, h⟩ := hq_g h
  obtain ⟨S10, g8, h⟩ := hq_bind h
  refine hq_callv hI (va_runV (As := [.int 32]) (rest := []) ⟨hx, hb, hml, hown, hts⟩ (c_X12_must l D kA ρ HB S6 a0 32 _ g8) (cwV 1 hts (gdIn (List.forall_mem_cons.mpr ⟨kw_1075, (List.forall_mem_cons.mpr ⟨kw_1077, (List.forall_mem_cons.mpr ⟨ks_38, (List.forall_mem_cons.mpr ⟨kw_6, (fun _ h => absurd h List.not_mem_nil)⟩)⟩)⟩)⟩) kw_1078) rfl rfl rfl ye_X12_must ⟨Nat.le_of_ble_eq_true rfl, Nat.le_of_ble_eq_true rfl⟩) (hq_preC hE hI g9 rfl _) rfl rfl hl.1 rfl (lv_room (Nat.le_of_ble_eq_true rfl)) dX12_saying_13 ⟨Nat.le_of_ble_eq_true rfl, Nat.le_of_ble_eq_true rfl⟩) (fun H locs hI => ?_)
  refine lv_aload_n hx hb dX12_saying_16 rfl (lv_at hl 1 rfl) ?_
  obtain ⟨g12, h⟩ := hq_g h
  obtain ⟨S13, g11, h⟩ := hq_bind h
  refine hq_callv hI (va_runV (As := []) (rest := []) ⟨hx, hb, hml, hown, hts⟩ (c_X12_someR l D kA ρ HB S10 a0 _ g11) (cwV 0 hts (gdIn (List.forall_mem_cons.mpr ⟨kw_1089, (List.forall_mem_cons.mpr ⟨kw_1091, (List.forall_mem_cons.mpr ⟨ks_41, (List.forall_mem_cons.mpr ⟨kw_6, (fun _ h => absurd h List.not_mem_nil)⟩)⟩)⟩)⟩) kw_1092) rfl rfl rfl ye_X12_some ⟨Nat.le_of_ble_eq_true rfl, Nat.le_of_ble_eq_true rfl⟩) (hq_preC hE hI g12 rfl _) rfl rfl hl.1 rfl (lv_room (Nat.le_of_ble_eq_true rfl)) dX12_saying_17 ⟨Nat.le_of_ble_eq_true rfl, Nat.le_of_ble_eq_true rfl⟩) (fun H locs hI => ?_)
  refine lv_aload_n hx hb dX12_saying_20 rfl (lv_at hl 1 rfl) ?_
  refine lv_bipush (v := (-10)) hx hb dX12_saying_21 (by decide) ?_
  refine lv_bipush (v := 100) hx hb dX12_saying_23 (by decide) ?_
  refine lv_iload_n hx hb dX12_saying_25 rfl (lv_at hl 2 rfl) ?_
  refine lv_imul hx hb dX12_saying_26 ?_
  refine lv_isub hx hb dX12_saying_27 ?_
  refine lv_iload_n hx hb dX12_saying_28 rfl (lv_at hl 0 rfl) ?_
  refine lv_isub hx hb dX12_saying_29 ?_
  obtain ⟨g15, h⟩ := hq_g h
  obtain ⟨S16, g14, h⟩ := hq_bind h
  refine hq_callv hI (va_runV (As := [.int (((-10) - (100 * a1)) - v7)]) (rest := []) ⟨hx, hb, hml, hown, hts⟩ (c_X12_emits l D kA ρ HB S13 a0 (((-10) - (100 * a1)) - v7) _ g14) (cwV 1 hts (gdIn (List.forall_mem_cons.mpr ⟨kw_1101, (List.forall_mem_cons.mpr ⟨kw_1103, (List.forall_mem_cons.mpr ⟨ks_44, (List.forall_mem_cons.mpr ⟨kw_6, (fun _ h => absurd h List.not_mem_nil)⟩)⟩)⟩)⟩) kw_1104) rfl rfl rfl ye_X12_emits ⟨Nat.le_of_ble_eq_true rfl, Nat.le_of_ble_eq_true rfl⟩) (hq_preC hE hI g15 rfl _) rfl rfl hl.1 rfl (lv_room (Nat.le_of_ble_eq_true rfl)) dX12_saying_30 ⟨Nat.le_of_ble_eq_true rfl, Nat.le_of_ble_eq_true rfl⟩) (fun H locs hI => ?_)
  exact hq_vret hx hb hr hlocks h0 hI h dX12_saying_33
-- RodDipsModel.planHere()V
theorem dX12_planHere_0 : decode cX12_planHere 0 = .ok (.aload_n 0, 1) := by decide +kernel
theorem dX12_planHere_1 : decode cX12_planHere 1 = .ok (.invokevirtual 72, 3) := by decide +kernel
theorem dX12_planHere_4 : decode cX12_planHere 4 = .ok (.lookupswitch 98 #[(100, 88), (104, 44), (110, 61), (116, 78)], 44) := by decide +kernel
theorem dX12_planHere_48 : decode cX12_planHere 48 = .ok (.aload_n 0, 1) := by decide +kernel
theorem dX12_planHere_49 : decode cX12_planHere 49 = .ok (.sipush 310, 3) := by decide +kernel
theorem dX12_planHere_52 : decode cX12_planHere 52 = .ok (.aload_n 0, 1) := by decide +kernel
theorem dX12_planHere_53 : decode cX12_planHere 53 = .ok (.getfield 89, 3) := by decide +kernel
theorem dX12_planHere_56 : decode cX12_planHere 56 = .ok (.iadd, 1) := by decide +kernel
theorem dX12_planHere_57 : decode cX12_planHere 57 = .ok (.ldc 124, 2) := by decide +kernel
theorem dX12_planHere_59 : decode cX12_planHere 59 = .ok (.invokevirtual 126, 3) := by decide +kernel
theorem dX12_planHere_62 : decode cX12_planHere 62 = .ok (.goto 45, 3) := by decide +kernel
theorem dX12_planHere_65 : decode cX12_planHere 65 = .ok (.aload_n 0, 1) := by decide +kernel
theorem dX12_planHere_66 : decode cX12_planHere 66 = .ok (.sipush 315, 3) := by decide +kernel
theorem dX12_planHere_69 : decode cX12_planHere 69 = .ok (.aload_n 0, 1) := by decide +kernel
theorem dX12_planHere_70 : decode cX12_planHere 70 = .ok (.getfield 89, 3) := by decide +kernel
theorem dX12_planHere_73 : decode cX12_planHere 73 = .ok (.iadd, 1) := by decide +kernel
theorem dX12_planHere_74 : decode cX12_planHere 74 = .ok (.ldc 130, 2) := by decide +kernel
theorem dX12_planHere_76 : decode cX12_planHere 76 = .ok (.invokevirtual 126, 3) := by decide +kernel
theorem dX12_planHere_79 : decode cX12_planHere 79 = .ok (.goto 28, 3) := by decide +kernel
theorem dX12_planHere_82 : decode cX12_planHere 82 = .ok (.aload_n 0, 1) := by decide +kernel
theorem dX12_planHere_83 : decode cX12_planHere 83 = .ok (.iconst 0, 1) := by decide +kernel
theorem dX12_planHere_84 : decode cX12_planHere 84 = .ok (.ldc 132, 2) := by decide +kernel
theorem dX12_planHere_86 : decode cX12_planHere 86 = .ok (.invokevirtual 134, 3) := by decide +kernel
theorem dX12_planHere_89 : decode cX12_planHere 89 = .ok (.goto 18, 3) := by decide +kernel
theorem dX12_planHere_92 : decode cX12_planHere 92 = .ok (.aload_n 0, 1) := by decide +kernel
theorem dX12_planHere_93 : decode cX12_planHere 93 = .ok (.iconst 1, 1) := by decide +kernel
theorem dX12_planHere_94 : decode cX12_planHere 94 = .ok (.ldc 137, 2) := by decide +kernel
theorem dX12_planHere_96 : decode cX12_planHere 96 = .ok (.invokevirtual 134, 3) := by decide +kernel
theorem dX12_planHere_99 : decode cX12_planHere 99 = .ok (.goto 8, 3) := by decide +kernel
theorem dX12_planHere_102 : decode cX12_planHere 102 = .ok (.aload_n 0, 1) := by decide +kernel
theorem dX12_planHere_103 : decode cX12_planHere 103 = .ok (.iconst 1, 1) := by decide +kernel
theorem dX12_planHere_104 : decode cX12_planHere 104 = .ok (.putfield 68, 3) := by decide +kernel
theorem dX12_planHere_107 : decode cX12_planHere 107 = .ok (.return_, 1) := by decide +kernel
def f_X12_planHere (ρ : Nat → Nat) (S : HSt) (a0 : Nat) : Option (HSt) := if gC S a0 = some 12 then (bd2 (f_X12_here S a0) fun v4 S3 => if v4 = 100 then (if gC S3 a0 = some 12 then ((f_X12_tested ρ S3 a0 1 (ρ 7)).bind fun S11 => some S11) else none) else (if v4 = 104 then ((gI S3 a0 12 4).bind fun v12 => if gC S3 a0 = some 12 then ((f_X12_numbered ρ S3 a0 (310 + v12) (ρ 3)).bind fun S16 => some S16) else none) else (if v4 = 110 then ((gI S3 a0 12 4).bind fun v17 => if gC S3 a0 = some 12 then ((f_X12_numbered ρ S3 a0 (315 + v17) (ρ 5)).bind fun S21 => some S21) else none) else (if v4 = 116 then (if gC S3 a0 = some 12 then ((f_X12_tested ρ S3 a0 0 (ρ 6)).bind fun S24 => some S24) else none) else ((pV S3 a0 12 7 (.int 1)).bind fun S25 => some S25))))) else none
abbrev rm_X12_planHere : Room := { frames := 762, cells := 0, slots := 0, locals := 15242 }
abbrev w_X12_planHere : List Cond := Cond.code yX12_planHere cX12_planHere 1 none :: lwG
theorem yd_X12_planHere : yX12_planHere.cls ≠ "java/lang/invoke/MethodHandle" ∧ yX12_planHere.cls ≠ "java/lang/invoke/VarHandle" ∧ (parseMethodDescriptor yX12_planHere.desc).map (fun d => d.parameters.length) = some 0 := by decide +kernel
theorem ye_X12_planHere : yX12_planHere.cls = RX12 ∧ yX12_planHere.cls ≠ "java/lang/invoke/MethodHandle" ∧ yX12_planHere.cls ≠ "java/lang/invoke/VarHandle" ∧ (parseMethodDescriptor yX12_planHere.desc).map (fun d => d.parameters.length) = some 0 := by decide +kernel
set_option maxHeartbeats 4000000 in
set_option maxRecDepth 100000 in
theorem c_X12_planHere (l : Launch) (D : va_G) (kA ρ : Nat → Nat) (HB : Heap) (S : HSt) (a0 : Nat) (res : HSt) (h : f_X12_planHere ρ S a0 = some res) : Met l yX12_planHere w_X12_planHere rm_X12_planHere (hPc D kA ρ HB S [.ref a0]) (hQv D kA HB S res) 0 0 (hFree HB) := by
  refine Met.ofW (cc := cX12_planHere) (maxL := 1) (ret := none) (by decide) rfl ?_
  intro p e s m args below meth c s₁ B hml hv
  obtain ⟨rfl, hE, h0⟩ := hv
  have hx := B.exec
  have hb := B.bytes
  have hr := B.returns
  have hts0 := atoms_spec (ws := w_X12_planHere) B.pre
  have hts : ∀ w ∈ lwG, w.before _ s = true := fun w hw => hts0 w (List.mem_cons_of_mem _ hw)
  have hown : s.vm.findClass RX12 = some m.cls := findClass_of_methodNamed B.named
  have hlocks := B.notSynchronized
  have hI : hqX D kA HB S.2 S s.heap [] := ⟨h0, Nat.le_refl _, fun _ q => absurd q List.not_mem_nil⟩
  have hl := lv_entry ([.ref a0]) (n := 1) (Nat.le_of_ble_eq_true rfl)
  rw [lg_entry_eq]
  generalize (lg_sl ([.ref a0]) ++ List.replicate (1 - (lg_sl ([.ref a0])).length) Slot.unset).toArray = ls at hl ⊢
  have hl : lv_has ls 1 [(0, .ref a0)] := hl
  unfold f_X12_planHere at h
  refine lv_aload_n hx hb dX12_planHere_0 rfl (lv_at hl 0 rfl) ?_
  obtain ⟨g2, h⟩ := hq_g h
  obtain ⟨v4, S3, g1, h⟩ := hq_bd2 h
  refine hq_calli hI (va_runV (As := []) (rest := []) ⟨hx, hb, hml, hown, hts⟩ (c_X12_here l D kA ρ HB S a0 _ g1) (cwV 0 hts (gdIn (List.forall_mem_cons.mpr ⟨kw_1060, (List.forall_mem_cons.mpr ⟨kw_1062, (List.forall_mem_cons.mpr ⟨ks_35, (List.forall_mem_cons.mpr ⟨kw_6, (fun _ h => absurd h List.not_mem_nil)⟩)⟩)⟩)⟩) kw_1063) rfl rfl rfl ye_X12_here ⟨Nat.le_of_ble_eq_true rfl, Nat.le_of_ble_eq_true rfl⟩) (hq_preC hE hI g2 rfl _) rfl rfl hl.1 rfl (lv_room (Nat.le_of_ble_eq_true rfl)) dX12_planHere_1 ⟨Nat.le_of_ble_eq_true rfl, Nat.le_of_ble_eq_true rfl⟩) (fun H locs hI => ?_)
  by_cases c5 : v4 = 100
  · have h := hq_t h c5
    refine lv_lookup (off := 88) (tgt := 92) hx hb dX12_planHere_4 (by decide) (by rw [c5]; first | done | rfl) (by decide) ?_
    refine lv_aload_n hx hb dX12_planHere_92 rfl (lv_at hl 0 rfl) ?_
    refine lv_iconst (v := 1) hx hb dX12_planHere_93 (by decide) ?_
    refine hq_ldcS (k := 7) hx hb hown hE (List.mem_of_getElem? (i := 20) rfl) dX12_planHere_94 ?_
    obtain ⟨g10, h⟩ := hq_g h
    obtain ⟨S11, g9, h⟩ := hq_bind h
    refine hq_callv hI (va_runV (As := [.int 1, .ref (ρ 7)]) (rest := []) ⟨hx, hb, hml, hown, hts⟩ (c_X12_tested l D kA ρ HB S3 a0 1 (ρ 7) _ g9) (cwV 2 hts (gdIn (List.forall_mem_cons.mpr ⟨kw_1085, (List.forall_mem_cons.mpr ⟨kw_1087, (List.forall_mem_cons.mpr ⟨ks_40, (List.forall_mem_cons.mpr ⟨kw_6, (fun _ h => absurd h List.not_mem_nil)⟩)⟩)⟩)⟩) kw_1088) rfl rfl rfl ye_X12_tested ⟨Nat.le_of_ble_eq_true rfl, Nat.le_of_ble_eq_true rfl⟩) (hq_preC hE hI g10 rfl _) rfl rfl hl.1 rfl (lv_room (Nat.le_of_ble_eq_true rfl)) dX12_planHere_96 ⟨Nat.le_of_ble_eq_true rfl, Nat.le_of_ble_eq_true rfl⟩) (fun H locs hI => ?_)
    refine lv_goto (tgt := 107) hx hb dX12_planHere_99 (by decide) ?_
    exact hq_vret hx hb hr hlocks h0 hI h dX12_planHere_107
  have h := hq_f h c5
  by_cases c6 : v4 = 104
  · have h := hq_t h c6
    refine lv_lookup (off := 44) (tgt := 48) hx hb dX12_planHere_4 (by decide) (by rw [c6]; first | done | rfl) (by decide) ?_
    refine lv_aload_n hx hb dX12_planHere_48 rfl (lv_at hl 0 rfl) ?_
    refine lv_sipush (v := 310) hx hb dX12_planHere_49 (by decide) ?_
    refine lv_aload_n hx hb dX12_planHere_52 rfl (lv_at hl 0 rfl) ?_
    obtain ⟨v12, g13, h⟩ := hq_bind h
    obtain ⟨fs_g13, hs_g13, hv_g13⟩ := gI_at g13
    refine hq_get hx hb hts hown hE hI hs_g13 inG12 rfl 4 (by decide) kw_948 hv_g13 dX12_planHere_53 ?_
    refine lv_iadd hx hb dX12_planHere_56 ?_
    refine hq_ldcS (k := 3) hx hb hown hE (List.mem_of_getElem? (i := 14) rfl) dX12_planHere_57 ?_
    obtain ⟨g15, h⟩ := hq_g h
    obtain ⟨S16, g14, h⟩ := hq_bind h
    refine hq_callv hI (va_runV (As := [.int (310 + v12), .ref (ρ 3)]) (rest := []) ⟨hx, hb, hml, hown, hts⟩ (c_X12_numbered l D kA ρ HB S3 a0 (310 + v12) (ρ 3) _ g14) (cwV 2 hts (gdIn (List.forall_mem_cons.mpr ⟨kw_1065, (List.forall_mem_cons.mpr ⟨kw_1067, (List.forall_mem_cons.mpr ⟨ks_36, (List.forall_mem_cons.mpr ⟨kw_6, (fun _ h => absurd h List.not_mem_nil)⟩)⟩)⟩)⟩) kw_1068) rfl rfl rfl ye_X12_numbered ⟨Nat.le_of_ble_eq_true rfl, Nat.le_of_ble_eq_true rfl⟩) (hq_preC hE hI g15 rfl _) rfl rfl hl.1 rfl (lv_room (Nat.le_of_ble_eq_true rfl)) dX12_planHere_59 ⟨Nat.le_of_ble_eq_true rfl, Nat.le_of_ble_eq_true rfl⟩) (fun H locs hI => ?_)
    refine lv_goto (tgt := 107) hx hb dX12_planHere_62 (by decide) ?_
    exact hq_vret hx hb hr hlocks h0 hI h dX12_planHere_107
  have h := hq_f h c6
  by_cases c7 : v4 = 110
  · have h := hq_t h c7
    refine lv_lookup (off := 61) (tgt := 65) hx hb dX12_planHere_4 (by decide) (by rw [c7]; first | done | rfl) (by decide) ?_
    refine lv_aload_n hx hb dX12_planHere_65 rfl (lv_at hl 0 rfl) ?_
    refine lv_sipush (v := 315) hx hb dX12_planHere_66 (by decide) ?_
    refine lv_aload_n hx hb dX12_planHere_69 rfl (lv_at hl 0 rfl) ?_
    obtain ⟨v17, g18, h⟩ := hq_bind h
    obtain ⟨fs_g18, hs_g18, hv_g18⟩ := gI_at g18
    refine hq_get hx hb hts hown hE hI hs_g18 inG12 rfl 4 (by decide) kw_948 hv_g18 dX12_planHere_70 ?_
    refine lv_iadd hx hb dX12_planHere_73 ?_
    refine hq_ldcS (k := 5) hx hb hown hE (List.mem_of_getElem? (i := 15) rfl) dX12_planHere_74 ?_
    obtain ⟨g20, h⟩ := hq_g h
    obtain ⟨S21, g19, h⟩ := hq_bind h
    refine hq_callv hI (va_runV (As := [.int (315 + v17), .ref (ρ 5)]) (rest := []) ⟨hx, hb, hml, hown, hts⟩ (c_X12_numbered l D kA ρ HB S3 a0 (315 + v17) (ρ 5) _ g19) (cwV 2 hts (gdIn (List.forall_mem_cons.mpr ⟨kw_1065, (List.forall_mem_cons.mpr ⟨kw_1067, (List.forall_mem_cons.mpr ⟨ks_36, (List.forall_mem_cons.mpr ⟨kw_6, (fun _ h => absurd h List.not_mem_nil)⟩)⟩)⟩)⟩) kw_1068) rfl rfl rfl ye_X12_numbered ⟨Nat.le_of_ble_eq_true rfl, Nat.le_of_ble_eq_true rfl⟩) (hq_preC hE hI g20 rfl _) rfl rfl hl.1 rfl (lv_room (Nat.le_of_ble_eq_true rfl)) dX12_planHere_76 ⟨Nat.le_of_ble_eq_true rfl, Nat.le_of_ble_eq_true rfl⟩) (fun H locs hI => ?_)
    refine lv_goto (tgt := 107) hx hb dX12_planHere_79 (by decide) ?_
    exact hq_vret hx hb hr hlocks h0 hI h dX12_planHere_107
  have h := hq_f h c7
  by_cases c8 : v4 = 116
  · have h := hq_t h c8
    refine lv_lookup (off := 78) (tgt := 82) hx hb dX12_planHere_4 (by decide) (by rw [c8]; first | done | rfl) (by decide) ?_
    refine lv_aload_n hx hb dX12_planHere_82 rfl (lv_at hl 0 rfl) ?_
    refine lv_iconst (v := 0) hx hb dX12_planHere_83 (by decide) ?_
    refine hq_ldcS (k := 6) hx hb hown hE (List.mem_of_getElem? (i := 16) rfl) dX12_planHere_84 ?_
    obtain ⟨g23, h⟩ := hq_g h
    obtain ⟨S24, g22, h⟩ := hq_bind h
    refine hq_callv hI (va_runV (As := [.int 0, .ref (ρ 6)]) (rest := []) ⟨hx, hb, hml, hown, hts⟩ (c_X12_tested l D kA ρ HB S3 a0 0 (ρ 6) _ g22) (cwV 2 hts (gdIn (List.forall_mem_cons.mpr ⟨kw_1085, (List.forall_mem_cons.mpr ⟨kw_1087, (List.forall_mem_cons.mpr ⟨ks_40, (List.forall_mem_cons.mpr ⟨kw_6, (fun _ h => absurd h List.not_mem_nil)⟩)⟩)⟩)⟩) kw_1088) rfl rfl rfl ye_X12_tested ⟨Nat.le_of_ble_eq_true rfl, Nat.le_of_ble_eq_true rfl⟩) (hq_preC hE hI g23 rfl _) rfl rfl hl.1 rfl (lv_room (Nat.le_of_ble_eq_true rfl)) dX12_planHere_86 ⟨Nat.le_of_ble_eq_true rfl, Nat.le_of_ble_eq_true rfl⟩) (fun H locs hI => ?_)
    refine lv_goto (tgt := 107) hx hb dX12_planHere_89 (by decide) ?_
    exact hq_vret hx hb hr hlocks h0 hI h dX12_planHere_107
  have h := hq_f h c8
  refine lv_lookup (off := 98) (tgt := 102) hx hb dX12_planHere_4 (by decide) (by rw [lv_osw c5 (by decide), lv_osw c6 (by decide), lv_osw c7 (by decide), lv_osw c8 (by decide)]; first | done | rfl) (by decide) ?_
  refine lv_aload_n hx hb dX12_planHere_102 rfl (lv_at hl 0 rfl) ?_
  refine lv_iconst (v := 1) hx hb dX12_planHere_103 (by decide) ?_
  obtain ⟨S25, g26, h⟩ := hq_bind h
  obtain ⟨fs_g26, hs_g26, hl_g26, e_g26⟩ := pV_at g26
  refine hq_put hx hb hts hown hE hI hs_g26 inG12 tyX12 tyX12_ok nmX12 rfl 7 (by decide) kw_951 rfl (v := .int 1) rfl rfl rfl hl_g26 e_g26 dX12_planHere_104 (fun H locs hI => ?_)
  exact hq_vret hx hb hr hlocks h0 hI h dX12_planHere_107
-- RodDipsModel.lawHere()V
theorem dX12_lawHere_0 : decode cX12_lawHere 0 = .ok (.aload_n 0, 1) := by decide +kernel
theorem dX12_lawHere_1 : decode cX12_lawHere 1 = .ok (.invokevirtual 72, 3) := by decide +kernel
theorem dX12_lawHere_4 : decode cX12_lawHere 4 = .ok (.lookupswitch 93 #[(97, 44), (98, 54), (110, 74), (111, 64)], 44) := by decide +kernel
theorem dX12_lawHere_48 : decode cX12_lawHere 48 = .ok (.aload_n 0, 1) := by decide +kernel
theorem dX12_lawHere_49 : decode cX12_lawHere 49 = .ok (.iconst 2, 1) := by decide +kernel
theorem dX12_lawHere_50 : decode cX12_lawHere 50 = .ok (.ldc 139, 2) := by decide +kernel
theorem dX12_lawHere_52 : decode cX12_lawHere 52 = .ok (.invokevirtual 141, 3) := by decide +kernel
theorem dX12_lawHere_55 : decode cX12_lawHere 55 = .ok (.goto 47, 3) := by decide +kernel
theorem dX12_lawHere_58 : decode cX12_lawHere 58 = .ok (.aload_n 0, 1) := by decide +kernel
theorem dX12_lawHere_59 : decode cX12_lawHere 59 = .ok (.iconst 3, 1) := by decide +kernel
theorem dX12_lawHere_60 : decode cX12_lawHere 60 = .ok (.ldc 144, 2) := by decide +kernel
theorem dX12_lawHere_62 : decode cX12_lawHere 62 = .ok (.invokevirtual 141, 3) := by decide +kernel
theorem dX12_lawHere_65 : decode cX12_lawHere 65 = .ok (.goto 37, 3) := by decide +kernel
theorem dX12_lawHere_68 : decode cX12_lawHere 68 = .ok (.aload_n 0, 1) := by decide +kernel
theorem dX12_lawHere_69 : decode cX12_lawHere 69 = .ok (.iconst 4, 1) := by decide +kernel
theorem dX12_lawHere_70 : decode cX12_lawHere 70 = .ok (.ldc 146, 2) := by decide +kernel
theorem dX12_lawHere_72 : decode cX12_lawHere 72 = .ok (.invokevirtual 141, 3) := by decide +kernel
theorem dX12_lawHere_75 : decode cX12_lawHere 75 = .ok (.goto 27, 3) := by decide +kernel
theorem dX12_lawHere_78 : decode cX12_lawHere 78 = .ok (.aload_n 0, 1) := by decide +kernel
theorem dX12_lawHere_79 : decode cX12_lawHere 79 = .ok (.sipush 320, 3) := by decide +kernel
theorem dX12_lawHere_82 : decode cX12_lawHere 82 = .ok (.aload_n 0, 1) := by decide +kernel
theorem dX12_lawHere_83 : decode cX12_lawHere 83 = .ok (.getfield 89, 3) := by decide +kernel
theorem dX12_lawHere_86 : decode cX12_lawHere 86 = .ok (.iadd, 1) := by decide +kernel
theorem dX12_lawHere_87 : decode cX12_lawHere 87 = .ok (.iconst 5, 1) := by decide +kernel
theorem dX12_lawHere_88 : decode cX12_lawHere 88 = .ok (.isub, 1) := by decide +kernel
theorem dX12_lawHere_89 : decode cX12_lawHere 89 = .ok (.ldc 148, 2) := by decide +kernel
theorem dX12_lawHere_91 : decode cX12_lawHere 91 = .ok (.invokevirtual 126, 3) := by decide +kernel
theorem dX12_lawHere_94 : decode cX12_lawHere 94 = .ok (.goto 8, 3) := by decide +kernel
theorem dX12_lawHere_97 : decode cX12_lawHere 97 = .ok (.aload_n 0, 1) := by decide +kernel
theorem dX12_lawHere_98 : decode cX12_lawHere 98 = .ok (.iconst 1, 1) := by decide +kernel
theorem dX12_lawHere_99 : decode cX12_lawHere 99 = .ok (.putfield 68, 3) := by decide +kernel
theorem dX12_lawHere_102 : decode cX12_lawHere 102 = .ok (.return_, 1) := by decide +kernel
def f_X12_lawHere (ρ : Nat → Nat) (S : HSt) (a0 : Nat) : Option (HSt) := if gC S a0 = some 12 then (bd2 (f_X12_here S a0) fun v4 S3 => if v4 = 97 then (if gC S3 a0 = some 12 then ((f_X12_saying ρ S3 a0 2 (ρ 8)).bind fun S11 => some S11) else none) else (if v4 = 98 then (if gC S3 a0 = some 12 then ((f_X12_saying ρ S3 a0 3 (ρ 9)).bind fun S14 => some S14) else none) else (if v4 = 110 then ((gI S3 a0 12 4).bind fun v15 => if gC S3 a0 = some 12 then ((f_X12_numbered ρ S3 a0 ((320 + v15) - 5) (ρ 4)).bind fun S19 => some S19) else none) else (if v4 = 111 then (if gC S3 a0 = some 12 then ((f_X12_saying ρ S3 a0 4 (ρ 10)).bind fun S22 => some S22) else none) else ((pV S3 a0 12 7 (.int 1)).bind fun S23 => some S23))))) else none
abbrev rm_X12_lawHere : Room := { frames := 762, cells := 0, slots := 0, locals := 15243 }
abbrev w_X12_lawHere : List Cond := Cond.code yX12_lawHere cX12_lawHere 1 none :: lwG
theorem yd_X12_lawHere : yX12_lawHere.cls ≠ "java/lang/invoke/MethodHandle" ∧ yX12_lawHere.cls ≠ "java/lang/invoke/VarHandle" ∧ (parseMethodDescriptor yX12_lawHere.desc).map (fun d => d.parameters.length) = some 0 := by decide +kernel
theorem ye_X12_lawHere : yX12_lawHere.cls = RX12 ∧ yX12_lawHere.cls ≠ "java/lang/invoke/MethodHandle" ∧ yX12_lawHere.cls ≠ "java/lang/invoke/VarHandle" ∧ (parseMethodDescriptor yX12_lawHere.desc).map (fun d => d.parameters.length) = some 0 := by decide +kernel
set_option maxHeartbeats 4000000 in
set_option maxRecDepth 100000 in
theorem c_X12_lawHere (l : Launch) (D : va_G) (kA ρ : Nat → Nat) (HB : Heap) (S : HSt) (a0 : Nat) (res : HSt) (h : f_X12_lawHere ρ S a0 = some res) : Met l yX12_lawHere w_X12_lawHere rm_X12_lawHere (hPc D kA ρ HB S [.ref a0]) (hQv D kA HB S res) 0 0 (hFree HB) := by
  refine Met.ofW (cc := cX12_lawHere) (maxL := 1) (ret := none) (by decide) rfl ?_
  intro p e s m args below meth c s₁ B hml hv
  obtain ⟨rfl, hE, h0⟩ := hv
  have hx := B.exec
  have hb := B.bytes
  have hr := B.returns
  have hts0 := atoms_spec (ws := w_X12_lawHere) B.pre
  have hts : ∀ w ∈ lwG, w.before _ s = true := fun w hw => hts0 w (List.mem_cons_of_mem _ hw)
  have hown : s.vm.findClass RX12 = some m.cls := findClass_of_methodNamed B.named
  have hlocks := B.notSynchronized
  have hI : hqX D kA HB S.2 S s.heap [] := ⟨h0, Nat.le_refl _, fun _ q => absurd q List.not_mem_nil⟩
  have hl := lv_entry ([.ref a0]) (n := 1) (Nat.le_of_ble_eq_true rfl)
  rw [lg_entry_eq]
  generalize (lg_sl ([.ref a0]) ++ List.replicate (1 - (lg_sl ([.ref a0])).length) Slot.unset).toArray = ls at hl ⊢
  have hl : lv_has ls 1 [(0, .ref a0)] := hl
  unfold f_X12_lawHere at h
  refine lv_aload_n hx hb dX12_lawHere_0 rfl (lv_at hl 0 rfl) ?_
  obtain ⟨g2, h⟩ := hq_g h
  obtain ⟨v4, S3, g1, h⟩ := hq_bd2 h
  refine hq_calli hI (va_runV (As := []) (rest := []) ⟨hx, hb, hml, hown, hts⟩ (c_X12_here l D kA ρ HB S a0 _ g1) (cwV 0 hts (gdIn (List.forall_mem_cons.mpr ⟨kw_1060, (List.forall_mem_cons.mpr ⟨kw_1062, (List.forall_mem_cons.mpr ⟨ks_35, (List.forall_mem_cons.mpr ⟨kw_6, (fun _ h => absurd h List.not_mem_nil)⟩)⟩)⟩)⟩) kw_1063) rfl rfl rfl ye_X12_here ⟨Nat.le_of_ble_eq_true rfl, Nat.le_of_ble_eq_true rfl⟩) (hq_preC hE hI g2 rfl _) rfl rfl hl.1 rfl (lv_room (Nat.le_of_ble_eq_true rfl)) dX12_lawHere_1 ⟨Nat.le_of_ble_eq_true rfl, Nat.le_of_ble_eq_true rfl⟩) (fun H locs hI => ?_)
  by_cases c5 : v4 = 97
  · have h := hq_t h c5
    refine lv_lookup (off := 44) (tgt := 48) hx hb dX12_lawHere_4 (by decide) (by rw [c5]; first | done | rfl) (by decide) ?_
    refine lv_aload_n hx hb dX12_lawHere_48 rfl (lv_at hl 0 rfl) ?_
    refine lv_iconst (v := 2) hx hb dX12_lawHere_49 (by decide) ?_
    refine hq_ldcS (k := 8) hx hb hown hE (List.mem_of_getElem? (i := 21) rfl) dX12_lawHere_50 ?_
    obtain ⟨g10, h⟩ := hq_g h
    obtain ⟨S11, g9, h⟩ := hq_bind h
    refine hq_callv hI (va_runV (As := [.int 2, .ref (ρ 8)]) (rest := []) ⟨hx, hb, hml, hown, hts⟩ (c_X12_saying l D kA ρ HB S3 a0 2 (ρ 8) _ g9) (cwV 2 hts (gdIn (List.forall_mem_cons.mpr ⟨kw_1118, (List.forall_mem_cons.mpr ⟨kw_1120, (List.forall_mem_cons.mpr ⟨ks_47, (List.forall_mem_cons.mpr ⟨kw_6, (fun _ h => absurd h List.not_mem_nil)⟩)⟩)⟩)⟩) kw_1121) rfl rfl rfl ye_X12_saying ⟨Nat.le_of_ble_eq_true rfl, Nat.le_of_ble_eq_true rfl⟩) (hq_preC hE hI g10 rfl _) rfl rfl hl.1 rfl (lv_room (Nat.le_of_ble_eq_true rfl)) dX12_lawHere_52 ⟨Nat.le_of_ble_eq_true rfl, Nat.le_of_ble_eq_true rfl⟩) (fun H locs hI => ?_)
    refine lv_goto (tgt := 102) hx hb dX12_lawHere_55 (by decide) ?_
    exact hq_vret hx hb hr hlocks h0 hI h dX12_lawHere_102
  have h := hq_f h c5
  by_cases c6 : v4 = 98
  · have h := hq_t h c6
    refine lv_lookup (off := 54) (tgt := 58) hx hb dX12_lawHere_4 (by decide) (by rw [c6]; first | done | rfl) (by decide) ?_
    refine lv_aload_n hx hb dX12_lawHere_58 rfl (lv_at hl 0 rfl) ?_
    refine lv_iconst (v := 3) hx hb dX12_lawHere_59 (by decide) ?_
    refine hq_ldcS (k := 9) hx hb hown hE (List.mem_of_getElem? (i := 22) rfl) dX12_lawHere_60 ?_
    obtain ⟨g13, h⟩ := hq_g h
    obtain ⟨S14, g12, h⟩ := hq_bind h
    refine hq_callv hI (va_runV (As := [.int 3, .ref (ρ 9)]) (rest := []) ⟨hx, hb, hml, hown, hts⟩ (c_X12_saying l D kA ρ HB S3 a0 3 (ρ 9) _ g12) (cwV 2 hts (gdIn (List.forall_mem_cons.mpr ⟨kw_1118, (List.forall_mem_cons.mpr ⟨kw_1120, (List.forall_mem_cons.mpr ⟨ks_47, (List.forall_mem_cons.mpr ⟨kw_6, (fun _ h => absurd h List.not_mem_nil)⟩)⟩)⟩)⟩) kw_1121) rfl rfl rfl ye_X12_saying ⟨Nat.le_of_ble_eq_true rfl, Nat.le_of_ble_eq_true rfl⟩) (hq_preC hE hI g13 rfl _) rfl rfl hl.1 rfl (lv_room (Nat.le_of_ble_eq_true rfl)) dX12_lawHere_62 ⟨Nat.le_of_ble_eq_true rfl, Nat.le_of_ble_eq_true rfl⟩) (fun H locs hI => ?_)
    refine lv_goto (tgt := 102) hx hb dX12_lawHere_65 (by decide) ?_
    exact hq_vret hx hb hr hlocks h0 hI h dX12_lawHere_102
  have h := hq_f h c6
  by_cases c7 : v4 = 110
  · have h := hq_t h c7
    refine lv_lookup (off := 74) (tgt := 78) hx hb dX12_lawHere_4 (by decide) (by rw [c7]; first | done | rfl) (by decide) ?_
    refine lv_aload_n hx hb dX12_lawHere_78 rfl (lv_at hl 0 rfl) ?_
    refine lv_sipush (v := 320) hx hb dX12_lawHere_79 (by decide) ?_
    refine lv_aload_n hx hb dX12_lawHere_82 rfl (lv_at hl 0 rfl) ?_
    obtain ⟨v15, g16, h⟩ := hq_bind h
    obtain ⟨fs_g16, hs_g16, hv_g16⟩ := gI_at g16
    refine hq_get hx hb hts hown hE hI hs_g16 inG12 rfl 4 (by decide) kw_948 hv_g16 dX12_lawHere_83 ?_
    refine lv_iadd hx hb dX12_lawHere_86 ?_
    refine lv_iconst (v := 5) hx hb dX12_lawHere_87 (by decide) ?_
    refine lv_isub hx hb dX12_lawHere_88 ?_
    refine hq_ldcS (k := 4) hx hb hown hE (List.mem_of_getElem? (i := 24) rfl) dX12_lawHere_89 ?_
    obtain ⟨g18, h⟩ := hq_g h
    obtain ⟨S19, g17, h⟩ := hq_bind h
    refine hq_callv hI (va_runV (As := [.int ((320 + v15) - 5), .ref (ρ 4)]) (rest := []) ⟨hx, hb, hml, hown, hts⟩ (c_X12_numbered l D kA ρ HB S3 a0 ((320 + v15) - 5) (ρ 4) _ g17) (cwV 2 hts (gdIn (List.forall_mem_cons.mpr ⟨kw_1065, (List.forall_mem_cons.mpr ⟨kw_1067, (List.forall_mem_cons.mpr ⟨ks_36, (List.forall_mem_cons.mpr ⟨kw_6, (fun _ h => absurd h List.not_mem_nil)⟩)⟩)⟩)⟩) kw_1068) rfl rfl rfl ye_X12_numbered ⟨Nat.le_of_ble_eq_true rfl, Nat.le_of_ble_eq_true rfl⟩) (hq_preC hE hI g18 rfl _) rfl rfl hl.1 rfl (lv_room (Nat.le_of_ble_eq_true rfl)) dX12_lawHere_91 ⟨Nat.le_of_ble_eq_true rfl, Nat.le_of_ble_eq_true rfl⟩) (fun H locs hI => ?_)
    refine lv_goto (tgt := 102) hx hb dX12_lawHere_94 (by decide) ?_
    exact hq_vret hx hb hr hlocks h0 hI h dX12_lawHere_102
  have h := hq_f h c7
  by_cases c8 : v4 = 111
  · have h := hq_t h c8
    refine lv_lookup (off := 64) (tgt := 68) hx hb dX12_lawHere_4 (by decide) (by rw [c8]; first | done | rfl) (by decide) ?_
    refine lv_aload_n hx hb dX12_lawHere_68 rfl (lv_at hl 0 rfl) ?_
    refine lv_iconst (v := 4) hx hb dX12_lawHere_69 (by decide) ?_
    refine hq_ldcS (k := 10) hx hb hown hE (List.mem_of_getElem? (i := 23) rfl) dX12_lawHere_70 ?_
    obtain ⟨g21, h⟩ := hq_g h
    obtain ⟨S22, g20, h⟩ := hq_bind h
    refine hq_callv hI (va_runV (As := [.int 4, .ref (ρ 10)]) (rest := []) ⟨hx, hb, hml, hown, hts⟩ (c_X12_saying l D kA ρ HB S3 a0 4 (ρ 10) _ g20) (cwV 2 hts (gdIn (List.forall_mem_cons.mpr ⟨kw_1118, (List.forall_mem_cons.mpr ⟨kw_1120, (List.forall_mem_cons.mpr ⟨ks_47, (List.forall_mem_cons.mpr ⟨kw_6, (fun _ h => absurd h List.not_mem_nil)⟩)⟩)⟩)⟩) kw_1121) rfl rfl rfl ye_X12_saying ⟨Nat.le_of_ble_eq_true rfl, Nat.le_of_ble_eq_true rfl⟩) (hq_preC hE hI g21 rfl _) rfl rfl hl.1 rfl (lv_room (Nat.le_of_ble_eq_true rfl)) dX12_lawHere_72 ⟨Nat.le_of_ble_eq_true rfl, Nat.le_of_ble_eq_true rfl⟩) (fun H locs hI => ?_)
    refine lv_goto (tgt := 102) hx hb dX12_lawHere_75 (by decide) ?_
    exact hq_vret hx hb hr hlocks h0 hI h dX12_lawHere_102
  have h := hq_f h c8
  refine lv_lookup (off := 93) (tgt := 97) hx hb dX12_lawHere_4 (by decide) (by rw [lv_osw c5 (by decide), lv_osw c6 (by decide), lv_osw c7 (by decide), lv_osw c8 (by decide)]; first | done | rfl) (by decide) ?_
  refine lv_aload_n hx hb dX12_lawHere_97 rfl (lv_at hl 0 rfl) ?_
  refine lv_iconst (v := 1) hx hb dX12_lawHere_98 (by decide) ?_
  obtain ⟨S23, g24, h⟩ := hq_bind h
  obtain ⟨fs_g24, hs_g24, hl_g24, e_g24⟩ := pV_at g24
  refine hq_put hx hb hts hown hE hI hs_g24 inG12 tyX12 tyX12_ok nmX12 rfl 7 (by decide) kw_951 rfl (v := .int 1) rfl rfl rfl hl_g24 e_g24 dX12_lawHere_99 (fun H locs hI => ?_)
  exact hq_vret hx hb hr hlocks h0 hI h dX12_lawHere_102
-- RodDipsModel.reads(I)I
theorem dX12_reads_0 : decode cX12_reads 0 = .ok (.aload_n 0, 1) := by decide +kernel
theorem dX12_reads_1 : decode cX12_reads 1 = .ok (.iload_n 1, 1) := by decide +kernel
theorem dX12_reads_2 : decode cX12_reads 2 = .ok (.putfield 89, 3) := by decide +kernel
theorem dX12_reads_5 : decode cX12_reads 5 = .ok (.aload_n 0, 1) := by decide +kernel
theorem dX12_reads_6 : decode cX12_reads 6 = .ok (.aload_n 0, 1) := by decide +kernel
theorem dX12_reads_7 : decode cX12_reads 7 = .ok (.getfield 9, 3) := by decide +kernel
theorem dX12_reads_10 : decode cX12_reads 10 = .ok (.iconst 4, 1) := by decide +kernel
theorem dX12_reads_11 : decode cX12_reads 11 = .ok (.iaload, 1) := by decide +kernel
theorem dX12_reads_12 : decode cX12_reads 12 = .ok (.putfield 65, 3) := by decide +kernel
theorem dX12_reads_15 : decode cX12_reads 15 = .ok (.aload_n 0, 1) := by decide +kernel
theorem dX12_reads_16 : decode cX12_reads 16 = .ok (.getfield 9, 3) := by decide +kernel
theorem dX12_reads_19 : decode cX12_reads 19 = .ok (.iconst 4, 1) := by decide +kernel
theorem dX12_reads_20 : decode cX12_reads 20 = .ok (.iconst 0, 1) := by decide +kernel
theorem dX12_reads_21 : decode cX12_reads 21 = .ok (.iastore, 1) := by decide +kernel
theorem dX12_reads_22 : decode cX12_reads 22 = .ok (.aload_n 0, 1) := by decide +kernel
theorem dX12_reads_23 : decode cX12_reads 23 = .ok (.getfield 9, 3) := by decide +kernel
theorem dX12_reads_26 : decode cX12_reads 26 = .ok (.sipush 325, 3) := by decide +kernel
theorem dX12_reads_29 : decode cX12_reads 29 = .ok (.aload_n 0, 1) := by decide +kernel
theorem dX12_reads_30 : decode cX12_reads 30 = .ok (.getfield 89, 3) := by decide +kernel
theorem dX12_reads_33 : decode cX12_reads 33 = .ok (.iadd, 1) := by decide +kernel
theorem dX12_reads_34 : decode cX12_reads 34 = .ok (.iconst 0, 1) := by decide +kernel
theorem dX12_reads_35 : decode cX12_reads 35 = .ok (.iastore, 1) := by decide +kernel
theorem dX12_reads_36 : decode cX12_reads 36 = .ok (.aload_n 0, 1) := by decide +kernel
theorem dX12_reads_37 : decode cX12_reads 37 = .ok (.iconst 0, 1) := by decide +kernel
theorem dX12_reads_38 : decode cX12_reads 38 = .ok (.putfield 62, 3) := by decide +kernel
theorem dX12_reads_41 : decode cX12_reads 41 = .ok (.aload_n 0, 1) := by decide +kernel
theorem dX12_reads_42 : decode cX12_reads 42 = .ok (.iconst 0, 1) := by decide +kernel
theorem dX12_reads_43 : decode cX12_reads 43 = .ok (.putfield 68, 3) := by decide +kernel
theorem dX12_reads_46 : decode cX12_reads 46 = .ok (.aload_n 0, 1) := by decide +kernel
theorem dX12_reads_47 : decode cX12_reads 47 = .ok (.iconst 0, 1) := by decide +kernel
theorem dX12_reads_48 : decode cX12_reads 48 = .ok (.putfield 92, 3) := by decide +kernel
theorem dX12_reads_51 : decode cX12_reads 51 = .ok (.iconst 0, 1) := by decide +kernel
theorem dX12_reads_52 : decode cX12_reads 52 = .ok (.istore_n 2, 1) := by decide +kernel
theorem dX12_reads_53 : decode cX12_reads 53 = .ok (.iconst 1, 1) := by decide +kernel
theorem dX12_reads_54 : decode cX12_reads 54 = .ok (.istore_n 3, 1) := by decide +kernel
theorem dX12_reads_55 : decode cX12_reads 55 = .ok (.iload_n 3, 1) := by decide +kernel
theorem dX12_reads_56 : decode cX12_reads 56 = .ok (.ifCond .eq 74, 3) := by decide +kernel
theorem dX12_reads_59 : decode cX12_reads 59 = .ok (.aload_n 0, 1) := by decide +kernel
theorem dX12_reads_60 : decode cX12_reads 60 = .ok (.getfield 89, 3) := by decide +kernel
theorem dX12_reads_63 : decode cX12_reads 63 = .ok (.iconst 5, 1) := by decide +kernel
theorem dX12_reads_64 : decode cX12_reads 64 = .ok (.if_icmp .ge 10, 3) := by decide +kernel
theorem dX12_reads_67 : decode cX12_reads 67 = .ok (.aload_n 0, 1) := by decide +kernel
theorem dX12_reads_68 : decode cX12_reads 68 = .ok (.invokevirtual 150, 3) := by decide +kernel
theorem dX12_reads_71 : decode cX12_reads 71 = .ok (.goto 7, 3) := by decide +kernel
theorem dX12_reads_74 : decode cX12_reads 74 = .ok (.aload_n 0, 1) := by decide +kernel
theorem dX12_reads_75 : decode cX12_reads 75 = .ok (.invokevirtual 153, 3) := by decide +kernel
theorem dX12_reads_78 : decode cX12_reads 78 = .ok (.iinc 2 1, 3) := by decide +kernel
theorem dX12_reads_81 : decode cX12_reads 81 = .ok (.aload_n 0, 1) := by decide +kernel
theorem dX12_reads_82 : decode cX12_reads 82 = .ok (.getfield 68, 3) := by decide +kernel
theorem dX12_reads_85 : decode cX12_reads 85 = .ok (.ifCond .ne 22, 3) := by decide +kernel
theorem dX12_reads_88 : decode cX12_reads 88 = .ok (.iload_n 2, 1) := by decide +kernel
theorem dX12_reads_89 : decode cX12_reads 89 = .ok (.bipush 8, 2) := by decide +kernel
theorem dX12_reads_91 : decode cX12_reads 91 = .ok (.if_icmp .ge 16, 3) := by decide +kernel
theorem dX12_reads_94 : decode cX12_reads 94 = .ok (.aload_n 0, 1) := by decide +kernel
theorem dX12_reads_95 : decode cX12_reads 95 = .ok (.invokevirtual 72, 3) := by decide +kernel
theorem dX12_reads_98 : decode cX12_reads 98 = .ok (.bipush 59, 2) := by decide +kernel
theorem dX12_reads_100 : decode cX12_reads 100 = .ok (.if_icmp .ne 7, 3) := by decide +kernel
theorem dX12_reads_103 : decode cX12_reads 103 = .ok (.iconst 1, 1) := by decide +kernel
theorem dX12_reads_104 : decode cX12_reads 104 = .ok (.goto 4, 3) := by decide +kernel
theorem dX12_reads_107 : decode cX12_reads 107 = .ok (.iconst 0, 1) := by decide +kernel
theorem dX12_reads_108 : decode cX12_reads 108 = .ok (.istore_n 3, 1) := by decide +kernel
theorem dX12_reads_109 : decode cX12_reads 109 = .ok (.aload_n 0, 1) := by decide +kernel
theorem dX12_reads_110 : decode cX12_reads 110 = .ok (.dup, 1) := by decide +kernel
theorem dX12_reads_111 : decode cX12_reads 111 = .ok (.getfield 62, 3) := by decide +kernel
theorem dX12_reads_114 : decode cX12_reads 114 = .ok (.iload_n 3, 1) := by decide +kernel
theorem dX12_reads_115 : decode cX12_reads 115 = .ok (.ifCond .eq 7, 3) := by decide +kernel
theorem dX12_reads_118 : decode cX12_reads 118 = .ok (.iconst 1, 1) := by decide +kernel
theorem dX12_reads_119 : decode cX12_reads 119 = .ok (.goto 4, 3) := by decide +kernel
theorem dX12_reads_122 : decode cX12_reads 122 = .ok (.iconst 0, 1) := by decide +kernel
theorem dX12_reads_123 : decode cX12_reads 123 = .ok (.iadd, 1) := by decide +kernel
theorem dX12_reads_124 : decode cX12_reads 124 = .ok (.putfield 62, 3) := by decide +kernel
theorem dX12_reads_127 : decode cX12_reads 127 = .ok (.goto (-72), 3) := by decide +kernel
theorem dX12_reads_130 : decode cX12_reads 130 = .ok (.aload_n 0, 1) := by decide +kernel
theorem dX12_reads_131 : decode cX12_reads 131 = .ok (.getfield 68, 3) := by decide +kernel
theorem dX12_reads_134 : decode cX12_reads 134 = .ok (.ifCond .ne 14, 3) := by decide +kernel
theorem dX12_reads_137 : decode cX12_reads 137 = .ok (.aload_n 0, 1) := by decide +kernel
theorem dX12_reads_138 : decode cX12_reads 138 = .ok (.getfield 62, 3) := by decide +kernel
theorem dX12_reads_141 : decode cX12_reads 141 = .ok (.aload_n 0, 1) := by decide +kernel
theorem dX12_reads_142 : decode cX12_reads 142 = .ok (.getfield 65, 3) := by decide +kernel
theorem dX12_reads_145 : decode cX12_reads 145 = .ok (.if_icmp .eq 13, 3) := by decide +kernel
theorem dX12_reads_148 : decode cX12_reads 148 = .ok (.bipush (-10), 2) := by decide +kernel
theorem dX12_reads_150 : decode cX12_reads 150 = .ok (.aload_n 0, 1) := by decide +kernel
theorem dX12_reads_151 : decode cX12_reads 151 = .ok (.getfield 62, 3) := by decide +kernel
theorem dX12_reads_154 : decode cX12_reads 154 = .ok (.isub, 1) := by decide +kernel
theorem dX12_reads_155 : decode cX12_reads 155 = .ok (.goto 4, 3) := by decide +kernel
theorem dX12_reads_158 : decode cX12_reads 158 = .ok (.iload_n 1, 1) := by decide +kernel
theorem dX12_reads_159 : decode cX12_reads 159 = .ok (.ireturn, 1) := by decide +kernel
def f_X12_reads_K130 (a0 : Nat) (a1 : Int32) (S25 : HSt) : Option (Int32 × HSt) := (gI S25 a0 12 7).bind fun v26 => if v26 = 0 then ((gI S25 a0 12 5).bind fun v31 => (gI S25 a0 12 6).bind fun v33 => if v31 = v33 then (some (a1, S25)) else ((gI S25 a0 12 5).bind fun v36 => some ((-10) - v36, S25))) else ((gI S25 a0 12 5).bind fun v29 => some ((-10) - v29, S25))
def f_X12_reads_J108 (a0 : Nat) (kb55 : (Int32 → Int32 → HSt → Option (Int32 × HSt))) (x38 : Int32) (y47 : Int32) (S48 : HSt) : Option (Int32 × HSt) := (gI S48 a0 12 5).bind fun v49 => if y47 = 0 then ((pV S48 a0 12 5 (.int (v49 + 0))).bind fun S52 => kb55 (x38 + 1) y47 S52) else ((pV S48 a0 12 5 (.int (v49 + 1))).bind fun S54 => kb55 (x38 + 1) y47 S54)
def f_X12_reads_J78 (a0 : Nat) (kb55 : (Int32 → Int32 → HSt → Option (Int32 × HSt))) (x38 : Int32) (S44 : HSt) : Option (Int32 × HSt) := (gI S44 a0 12 7).bind fun v45 => if v45 = 0 then (if 8 ≤ (x38 + 1) then ((f_X12_reads_J108 a0 kb55 x38) 0 S44) else (if gC S44 a0 = some 12 then (bd2 (f_X12_here S44 a0) fun v61 S60 => if v61 = 59 then ((f_X12_reads_J108 a0 kb55 x38) 1 S60) else ((f_X12_reads_J108 a0 kb55 x38) 0 S60)) else none)) else ((f_X12_reads_J108 a0 kb55 x38) 0 S44)
def f_X12_reads_B55 (ρ : Nat → Nat) (a0 : Nat) (kx130 : (HSt → Option (Int32 × HSt))) (kb55 : (Int32 → Int32 → HSt → Option (Int32 × HSt))) (x38 : Int32) (x39 : Int32) (S40 : HSt) : Option (Int32 × HSt) := if x39 = 0 then (kx130 S40) else ((gI S40 a0 12 4).bind fun v42 => if 5 ≤ v42 then (if gC S40 a0 = some 12 then ((f_X12_lawHere ρ S40 a0).bind fun S66 => (f_X12_reads_J78 a0 kb55 x38) S66) else none) else (if gC S40 a0 = some 12 then ((f_X12_planHere ρ S40 a0).bind fun S69 => (f_X12_reads_J78 a0 kb55 x38) S69) else none))
def f_X12_reads_L55 (ρ : Nat → Nat) (a0 : Nat) (kx130 : (HSt → Option (Int32 × HSt))) : Nat → Int32 → Int32 → HSt → Option (Int32 × HSt)
  | 0, _, _, _ => none
  | n + 1, x38, x39, S => f_X12_reads_B55 ρ a0 kx130 (f_X12_reads_L55 ρ a0 kx130 n) x38 x39 S
def f_X12_reads (ρ : Nat → Nat) (S : HSt) (a0 : Nat) (a1 : Int32) : Option (Int32 × HSt) := (pV S a0 12 4 (.int a1)).bind fun S1 => (gR S1 a0 12 1).bind fun b3 => (aI S1 b3 0 4).bind fun v6 => (pV S1 a0 12 6 (.int v6)).bind fun S7 => (gR S7 a0 12 1).bind fun b9 => (sI S7 b9 0 4 0).bind fun S12 => (gR S12 a0 12 1).bind fun b13 => (gI S12 a0 12 4).bind fun v15 => (sI S12 b13 0 (325 + v15) 0).bind fun S18 => (pV S18 a0 12 5 (.int 0)).bind fun S19 => (pV S19 a0 12 7 (.int 0)).bind fun S21 => (pV S21 a0 12 8 (.int 0)).bind fun S23 => (f_X12_reads_L55 ρ a0 (f_X12_reads_K130 a0 a1) FU) 0 1 S23
abbrev rm_X12_reads : Room := { frames := 763, cells := 0, slots := 0, locals := 15263 }
abbrev w_X12_reads : List Cond := Cond.code yX12_reads cX12_reads 4 (Option.some FieldType.int) :: lwG
theorem yd_X12_reads : yX12_reads.cls ≠ "java/lang/invoke/MethodHandle" ∧ yX12_reads.cls ≠ "java/lang/invoke/VarHandle" ∧ (parseMethodDescriptor yX12_reads.desc).map (fun d => d.parameters.length) = some 1 := by decide +kernel
theorem ye_X12_reads : yX12_reads.cls = RX12 ∧ yX12_reads.cls ≠ "java/lang/invoke/MethodHandle" ∧ yX12_reads.cls ≠ "java/lang/invoke/VarHandle" ∧ (parseMethodDescriptor yX12_reads.desc).map (fun d => d.parameters.length) = some 1 := by decide +kernel
set_option maxHeartbeats 4000000 in
set_option maxRecDepth 100000 in
theorem c_X12_reads (l : Launch) (D : va_G) (kA ρ : Nat → Nat) (HB : Heap) (S : HSt) (a0 : Nat) (a1 : Int32) (res : Int32 × HSt) (h : f_X12_reads ρ S a0 a1 = some res) : Met l yX12_reads w_X12_reads rm_X12_reads (hPc D kA ρ HB S [.ref a0, .int a1]) (hQi D kA HB S res) 0 0 (hFree HB) := by
  refine Met.ofW (cc := cX12_reads) (maxL := 4) (ret := (Option.some FieldType.int)) (by decide) rfl ?_
  intro p e s m args below meth c s₁ B hml hv
  obtain ⟨rfl, hE, h0⟩ := hv
  have hx := B.exec
  have hb := B.bytes
  have hr := B.returns
  have hts0 := atoms_spec (ws := w_X12_reads) B.pre
  have hts : ∀ w ∈ lwG, w.before _ s = true := fun w hw => hts0 w (List.mem_cons_of_mem _ hw)
  have hown : s.vm.findClass RX12 = some m.cls := findClass_of_methodNamed B.named
  have hlocks := B.notSynchronized
  have hI : hqX D kA HB S.2 S s.heap [] := ⟨h0, Nat.le_refl _, fun _ q => absurd q List.not_mem_nil⟩
  have hl := lv_entry ([.ref a0, .int a1]) (n := 4) (Nat.le_of_ble_eq_true rfl)
  rw [lg_entry_eq]
  generalize (lg_sl ([.ref a0, .int a1]) ++ List.replicate (4 - (lg_sl ([.ref a0, .int a1])).length) Slot.unset).toArray = ls at hl ⊢
  have hl : lv_has ls 4 [(0, .ref a0), (1, .int a1)] := hl
  unfold f_X12_reads at h
  refine lv_aload_n hx hb dX12_reads_0 rfl (lv_at hl 0 rfl) ?_
  refine lv_iload_n hx hb dX12_reads_1 rfl (lv_at hl 1 rfl) ?_
  obtain ⟨S1, g2, h⟩ := hq_bind h
  obtain ⟨fs_g2, hs_g2, hl_g2, e_g2⟩ := pV_at g2
  refine hq_put hx hb hts hown hE hI hs_g2 inG12 tyX12 tyX12_ok nmX12 rfl 4 (by decide) kw_948 rfl (v := .int a1) rfl rfl rfl hl_g2 e_g2 dX12_reads_2 (fun H locs hI => ?_)
  refine lv_aload_n hx hb dX12_reads_5 rfl (lv_at hl 0 rfl) ?_
  refine lv_aload_n hx hb dX12_reads_6 rfl (lv_at hl 0 rfl) ?_
  obtain ⟨b3, g4, h⟩ := hq_bind h
  obtain ⟨fs_g4, hs_g4, hv_g4⟩ := gR_at g4
  refine hq_get hx hb hts hown hE hI hs_g4 inG12 rfl 1 (by decide) kw_945 hv_g4 dX12_reads_7 ?_
  refine lv_iconst (v := 4) hx hb dX12_reads_10 (by decide) ?_
  obtain ⟨v6, g5, h⟩ := hq_bind h
  refine hq_iald hx hb hE hI g5 dX12_reads_11 ?_
  obtain ⟨S7, g8, h⟩ := hq_bind h
  obtain ⟨fs_g8, hs_g8, hl_g8, e_g8⟩ := pV_at g8
  refine hq_put hx hb hts hown hE hI hs_g8 inG12 tyX12 tyX12_ok nmX12 rfl 6 (by decide) kw_950 rfl (v := .int v6) rfl rfl rfl hl_g8 e_g8 dX12_reads_12 (fun H locs hI => ?_)
  refine lv_aload_n hx hb dX12_reads_15 rfl (lv_at hl 0 rfl) ?_
  obtain ⟨b9, g10, h⟩ := hq_bind h
  obtain ⟨fs_g10, hs_g10, hv_g10⟩ := gR_at g10
  refine hq_get hx hb hts hown hE hI hs_g10 inG12 rfl 1 (by decide) kw_945 hv_g10 dX12_reads_16 ?_
  refine lv_iconst (v := 4) hx hb dX12_reads_19 (by decide) ?_
  refine lv_iconst (v := 0) hx hb dX12_reads_20 (by decide) ?_
  obtain ⟨S12, g11, h⟩ := hq_bind h
  refine hq_iast hx hb hE hI g11 dX12_reads_21 (fun H locs hI => ?_)
  refine lv_aload_n hx hb dX12_reads_22 rfl (lv_at hl 0 rfl) ?_
  obtain ⟨b13, g14, h⟩ := hq_bind h
  obtain ⟨fs_g14, hs_g14, hv_g14⟩ := gR_at g14
  refine hq_get hx hb hts hown hE hI hs_g14 inG12 rfl 1 (by decide) kw_945 hv_g14 dX12_reads_23 ?_
  refine lv_sipush (v := 325) hx hb dX12_reads_26 (by decide) ?_
  refine lv_aload_n hx hb dX12_reads_29 rfl (lv_at hl 0 rfl) ?_
  obtain ⟨v15, g16, h⟩ := hq_bind h
  obtain ⟨fs_g16, hs_g16, hv_g16⟩ := gI_at g16
  refine hq_get hx hb hts hown hE hI hs_g16 inG12 rfl 4 (by decide) kw_948 hv_g16 dX12_reads_30 ?_
  refine lv_iadd hx hb dX12_reads_33 ?_
  refine lv_iconst (v := 0) hx hb dX12_reads_34 (by decide) ?_
  obtain ⟨S18, g17, h⟩ := hq_bind h
  refine hq_iast hx hb hE hI g17 dX12_reads_35 (fun H locs hI => ?_)
  refine lv_aload_n hx hb dX12_reads_36 rfl (lv_at hl 0 rfl) ?_
  refine lv_iconst (v := 0) hx hb dX12_reads_37 (by decide) ?_
  obtain ⟨S19, g20, h⟩ := hq_bind h
  obtain ⟨fs_g20, hs_g20, hl_g20, e_g20⟩ := pV_at g20
  refine hq_put hx hb hts hown hE hI hs_g20 inG12 tyX12 tyX12_ok nmX12 rfl 5 (by decide) kw_949 rfl (v := .int 0) rfl rfl rfl hl_g20 e_g20 dX12_reads_38 (fun H locs hI => ?_)
  refine lv_aload_n hx hb dX12_reads_41 rfl (lv_at hl 0 rfl) ?_
  refine lv_iconst (v := 0) hx hb dX12_reads_42 (by decide) ?_
  obtain ⟨S21, g22, h⟩ := hq_bind h
  obtain ⟨fs_g22, hs_g22, hl_g22, e_g22⟩ := pV_at g22
  refine hq_put hx hb hts hown hE hI hs_g22 inG12 tyX12 tyX12_ok nmX12 rfl 7 (by decide) kw_951 rfl (v := .int 0) rfl rfl rfl hl_g22 e_g22 dX12_reads_43 (fun H locs hI => ?_)
  refine lv_aload_n hx hb dX12_reads_46 rfl (lv_at hl 0 rfl) ?_
  refine lv_iconst (v := 0) hx hb dX12_reads_47 (by decide) ?_
  obtain ⟨S23, g24, h⟩ := hq_bind h
  obtain ⟨fs_g24, hs_g24, hl_g24, e_g24⟩ := pV_at g24
  refine hq_put hx hb hts hown hE hI hs_g24 inG12 tyX12 tyX12_ok nmX12 rfl 8 (by decide) kw_952 rfl (v := .int 0) rfl rfl rfl hl_g24 e_g24 dX12_reads_48 (fun H locs hI => ?_)
  refine lv_iconst (v := 0) hx hb dX12_reads_51 (by decide) ?_
  refine lv_istore_n (lv' := [(2, .int 0), (0, .ref a0), (1, .int a1)]) hx hb dX12_reads_52 rfl hl (by decide) rfl (fun ls hl => ?_)
  refine lv_iconst (v := 1) hx hb dX12_reads_53 (by decide) ?_
  refine lv_istore_n (lv' := [(3, .int 1), (2, .int 0), (0, .ref a0), (1, .int a1)]) hx hb dX12_reads_54 rfl hl (by decide) rfl (fun ls hl => ?_)
  have hK130 : ∀ (S25 : HSt) (H : Heap) (locs : List Loc) (ls : Array Slot), (f_X12_reads_K130 a0 a1) S25 = some res → hqX D kA HB S.2 S25 H locs → lv_has ls 4 [(0, .ref a0), (1, .int a1)] → W p l e rm_X12_reads s m ([.ref a0, .int a1] : List Value).toArray below meth c H locs 0 0 (MQ below (hQi D kA HB S res) ([.ref a0, .int a1] : List Value).toArray s 0 0 (hFree HB)) (F0 m 130 ls []) := by
    intro S25 H locs ls h hI hl
    unfold f_X12_reads_K130 at h
    refine lv_aload_n hx hb dX12_reads_130 rfl (lv_at hl 0 rfl) ?_
    obtain ⟨v26, g27, h⟩ := hq_bind h
    obtain ⟨fs_g27, hs_g27, hv_g27⟩ := gI_at g27
    refine hq_get hx hb hts hown hE hI hs_g27 inG12 rfl 7 (by decide) kw_951 hv_g27 dX12_reads_131 ?_
    refine lv_if_ne (tgt := 148) hx hb dX12_reads_134 (by decide) (fun c28 => ?_) (fun c28 => ?_)
    · have h := hq_f h c28
      refine lv_bipush (v := (-10)) hx hb dX12_reads_148 (by decide) ?_
      refine lv_aload_n hx hb dX12_reads_150 rfl (lv_at hl 0 rfl) ?_
      obtain ⟨v29, g30, h⟩ := hq_bind h
      obtain ⟨fs_g30, hs_g30, hv_g30⟩ := gI_at g30
      refine hq_get hx hb hts hown hE hI hs_g30 inG12 rfl 5 (by decide) kw_949 hv_g30 dX12_reads_151 ?_
      refine lv_isub hx hb dX12_reads_154 ?_
      refine lv_goto (tgt := 159) hx hb dX12_reads_155 (by decide) ?_
      exact hq_iret hx hb hr hlocks h0 hI h dX12_reads_159
    · have h := hq_t h c28
      refine lv_aload_n hx hb dX12_reads_137 rfl (lv_at hl 0 rfl) ?_
      obtain ⟨v31, g32, h⟩ := hq_bind h
      obtain ⟨fs_g32, hs_g32, hv_g32⟩ := gI_at g32
      refine hq_get hx hb hts hown hE hI hs_g32 inG12 rfl 5 (by decide) kw_949 hv_g32 dX12_reads_138 ?_
      refine lv_aload_n hx hb dX12_reads_141 rfl (lv_at hl 0 rfl) ?_
      obtain ⟨v33, g34, h⟩ := hq_bind h
      obtain ⟨fs_g34, hs_g34, hv_g34⟩ := gI_at g34
      refine hq_get hx hb hts hown hE hI hs_g34 inG12 rfl 6 (by decide) kw_950 hv_g34 dX12_reads_142 ?_
      refine lv_icmp_eq (tgt := 158) hx hb dX12_reads_145 (by decide) (fun c35 => ?_) (fun c35 => ?_)
      · have h := hq_t h c35
        refine lv_iload_n hx hb dX12_reads_158 rfl (lv_at hl 1 rfl) ?_
        exact hq_iret hx hb hr hlocks h0 hI h dX12_reads_159
      · have h := hq_f h c35
        refine lv_bipush (v := (-10)) hx hb dX12_reads_148 (by decide) ?_
        refine lv_aload_n hx hb dX12_reads_150 rfl (lv_at hl 0 rfl) ?_
        obtain ⟨v36, g37, h⟩ := hq_bind h
        obtain ⟨fs_g37, hs_g37, hv_g37⟩ := gI_at g37
        refine hq_get hx hb hts hown hE hI hs_g37 inG12 rfl 5 (by decide) kw_949 hv_g37 dX12_reads_151 ?_
        refine lv_isub hx hb dX12_reads_154 ?_
        refine lv_goto (tgt := 159) hx hb dX12_reads_155 (by decide) ?_
        exact hq_iret hx hb hr hlocks h0 hI h dX12_reads_159
  have hL55 : ∀ (n55 : Nat) (x38 : Int32) (x39 : Int32) (S40 : HSt) (H : Heap) (locs : List Loc) (ls : Array Slot), (f_X12_reads_L55 ρ a0 (f_X12_reads_K130 a0 a1) n55) x38 x39 S40 = some res → hqX D kA HB S.2 S40 H locs → lv_has ls 4 [(0, .ref a0), (1, .int a1), (2, .int x38), (3, .int x39)] → W p l e rm_X12_reads s m ([.ref a0, .int a1] : List Value).toArray below meth c H locs 0 0 (MQ below (hQi D kA HB S res) ([.ref a0, .int a1] : List Value).toArray s 0 0 (hFree HB)) (F0 m 55 ls []) := by
    intro n55
    induction n55 with
    | zero =>
      intro x38 x39 S40 H locs ls h
      have h : (none : Option (Int32 × HSt)) = some res := h
      cases h
    | succ n55 ih55 =>
      intro x38 x39 S40 H locs ls h hI hl
      have h : f_X12_reads_B55 ρ a0 (f_X12_reads_K130 a0 a1) (f_X12_reads_L55 ρ a0 (f_X12_reads_K130 a0 a1) n55) x38 x39 S40 = some res := h
      unfold f_X12_reads_B55 at h
      refine lv_iload_n hx hb dX12_reads_55 rfl (lv_at hl 3 rfl) ?_
      refine lv_if_eq (tgt := 130) hx hb dX12_reads_56 (by decide) (fun c41 => ?_) (fun c41 => ?_)
      · have h := hq_t h c41
        exact hK130 S40 _ _ _ h hI (lv_sub hl [0, 1] rfl)
      · have h := hq_f h c41
        refine lv_aload_n hx hb dX12_reads_59 rfl (lv_at hl 0 rfl) ?_
        obtain ⟨v42, g43, h⟩ := hq_bind h
        obtain ⟨fs_g43, hs_g43, hv_g43⟩ := gI_at g43
        refine hq_get hx hb hts hown hE hI hs_g43 inG12 rfl 4 (by decide) kw_948 hv_g43 dX12_reads_60 ?_
        refine lv_iconst (v := 5) hx hb dX12_reads_63 (by decide) ?_
        have hJ78 : ∀ (S44 : HSt) (H : Heap) (locs : List Loc) (ls : Array Slot), (f_X12_reads_J78 a0 (f_X12_reads_L55 ρ a0 (f_X12_reads_K130 a0 a1) n55) x38) S44 = some res → hqX D kA HB S.2 S44 H locs → lv_has ls 4 [(0, .ref a0), (1, .int a1), (2, .int x38)] → W p l e rm_X12_reads s m ([.ref a0, .int a1] : List Value).toArray below meth c H locs 0 0 (MQ below (hQi D kA HB S res) ([.ref a0, .int a1] : List Value).toArray s 0 0 (hFree HB)) (F0 m 78 ls []) := by
          intro S44 H locs ls h hI hl
          unfold f_X12_reads_J78 at h
          refine lv_iinc (v := (x38 + 1)) (lv' := [(2, .int (x38 + 1)), (0, .ref a0), (1, .int a1)]) hx hb dX12_reads_78 hl (k := 2) rfl rfl (by decide) rfl (fun ls hl => ?_)
          refine lv_aload_n hx hb dX12_reads_81 rfl (lv_at hl 1 rfl) ?_
          obtain ⟨v45, g46, h⟩ := hq_bind h
          obtain ⟨fs_g46, hs_g46, hv_g46⟩ := gI_at g46
          refine hq_get hx hb hts hown hE hI hs_g46 inG12 rfl 7 (by decide) kw_951 hv_g46 dX12_reads_82 ?_
          have hJ108 : ∀ (y47 : Int32) (S48 : HSt) (H : Heap) (locs : List Loc) (ls : Array Slot), (f_X12_reads_J108 a0 (f_X12_reads_L55 ρ a0 (f_X12_reads_K130 a0 a1) n55) x38) y47 S48 = some res → hqX D kA HB S.2 S48 H locs → lv_has ls 4 [(0, .ref a0), (1, .int a1), (2, .int (x38 + 1))] → W p l e rm_X12_reads s m ([.ref a0, .int a1] : List Value).toArray below meth c H locs 0 0 (MQ below (hQi D kA HB S res) ([.ref a0, .int a1] : List Value).toArray s 0 0 (hFree HB)) (F0 m 108 ls [.int y47]) := by
            intro y47 S48 H locs ls h hI hl
            unfold f_X12_reads_J108 at h
            refine lv_istore_n (lv' := [(3, .int y47), (0, .ref a0), (1, .int a1), (2, .int (x38 + 1))]) hx hb dX12_reads_108 rfl hl (by decide) rfl (fun ls hl => ?_)
            refine lv_aload_n hx hb dX12_reads_109 rfl (lv_at hl 1 rfl) ?_
            refine lv_dup hx hb dX12_reads_110 rfl ?_
            obtain ⟨v49, g50, h⟩ := hq_bind h
            obtain ⟨fs_g50, hs_g50, hv_g50⟩ := gI_at g50
            refine hq_get hx hb hts hown hE hI hs_g50 inG12 rfl 5 (by decide) kw_949 hv_g50 dX12_reads_111 ?_
            refine lv_iload_n hx hb dX12_reads_114 rfl (lv_at hl 0 rfl) ?_
            refine lv_if_eq (tgt := 122) hx hb dX12_reads_115 (by decide) (fun c51 => ?_) (fun c51 => ?_)
            · have h := hq_t h c51
              refine lv_iconst (v := 0) hx hb dX12_reads_122 (by decide) ?_
              refine lv_iadd hx hb dX12_reads_123 ?_
              obtain ⟨S52, g53, h⟩ := hq_bind h
              obtain ⟨fs_g53, hs_g53, hl_g53, e_g53⟩ := pV_at g53
              refine hq_put hx hb hts hown hE hI hs_g53 inG12 tyX12 tyX12_ok nmX12 rfl 5 (by decide) kw_949 rfl (v := .int (v49 + 0)) rfl rfl rfl hl_g53 e_g53 dX12_reads_124 (fun H locs hI => ?_)
              refine lv_goto (tgt := 55) hx hb dX12_reads_127 (by decide) ?_
              exact ih55 (x38 + 1) y47 S52 _ _ _ h hI (lv_sub hl [1, 2, 3, 0] rfl)
            · have h := hq_f h c51
              refine lv_iconst (v := 1) hx hb dX12_reads_118 (by decide) ?_
              refine lv_goto (tgt := 123) hx hb dX12_reads_119 (by decide) ?_
              refine lv_iadd hx hb dX12_reads_123 ?_
              obtain ⟨S54, g55, h⟩ := hq_bind h
              obtain ⟨fs_g55, hs_g55, hl_g55, e_g55⟩ := pV_at g55
              refine hq_put hx hb hts hown hE hI hs_g55 inG12 tyX12 tyX12_ok nmX12 rfl 5 (by decide) kw_949 rfl (v := .int (v49 + 1)) rfl rfl rfl hl_g55 e_g55 dX12_reads_124 (fun H locs hI => ?_)
              refine lv_goto (tgt := 55) hx hb dX12_reads_127 (by decide) ?_
              exact ih55 (x38 + 1) y47 S54 _ _ _ h hI (lv_sub hl [1, 2, 3, 0] rfl)
          refine lv_if_ne (tgt := 107) hx hb dX12_reads_85 (by decide) (fun c56 => ?_) (fun c56 => ?_)
          · have h := hq_f h c56
            refine lv_iconst (v := 0) hx hb dX12_reads_107 (by decide) ?_
            exact hJ108 0 S44 _ _ _ h hI (lv_sub hl [1, 2, 0] rfl)
          · have h := hq_t h c56
            refine lv_iload_n hx hb dX12_reads_88 rfl (lv_at hl 0 rfl) ?_
            refine lv_bipush (v := 8) hx hb dX12_reads_89 (by decide) ?_
            refine lv_icmp_ge (tgt := 107) hx hb dX12_reads_91 (by decide) (fun c57 => ?_) (fun c57 => ?_)
            · have h := hq_t h c57
              refine lv_iconst (v := 0) hx hb dX12_reads_107 (by decide) ?_
              exact hJ108 0 S44 _ _ _ h hI (lv_sub hl [1, 2, 0] rfl)
            · have h := hq_f h c57
              refine lv_aload_n hx hb dX12_reads_94 rfl (lv_at hl 1 rfl) ?_
              obtain ⟨g59, h⟩ := hq_g h
              obtain ⟨v61, S60, g58, h⟩ := hq_bd2 h
              refine hq_calli hI (va_runV (As := []) (rest := []) ⟨hx, hb, hml, hown, hts⟩ (c_X12_here l D kA ρ HB S44 a0 _ g58) (cwV 0 hts (gdIn (List.forall_mem_cons.mpr ⟨kw_1060, (List.forall_mem_cons.mpr ⟨kw_1062, (List.forall_mem_cons.mpr ⟨ks_35, (List.forall_mem_cons.mpr ⟨kw_6, (fun _ h => absurd h List.not_mem_nil)⟩)⟩)⟩)⟩) kw_1063) rfl rfl rfl ye_X12_here ⟨Nat.le_of_ble_eq_true rfl, Nat.le_of_ble_eq_true rfl⟩) (hq_preC hE hI g59 rfl _) rfl rfl hl.1 rfl (lv_room (Nat.le_of_ble_eq_true rfl)) dX12_reads_95 ⟨Nat.le_of_ble_eq_true rfl, Nat.le_of_ble_eq_true rfl⟩) (fun H locs hI => ?_)
              refine lv_bipush (v := 59) hx hb dX12_reads_98 (by decide) ?_
              refine lv_icmp_ne (tgt := 107) hx hb dX12_reads_100 (by decide) (fun c62 => ?_) (fun c62 => ?_)
              · have h := hq_f h c62
                refine lv_iconst (v := 0) hx hb dX12_reads_107 (by decide) ?_
                exact hJ108 0 S60 _ _ _ h hI (lv_sub hl [1, 2, 0] rfl)
              · have h := hq_t h c62
                refine lv_iconst (v := 1) hx hb dX12_reads_103 (by decide) ?_
                refine lv_goto (tgt := 108) hx hb dX12_reads_104 (by decide) ?_
                exact hJ108 1 S60 _ _ _ h hI (lv_sub hl [1, 2, 0] rfl)
        refine lv_icmp_ge (tgt := 74) hx hb dX12_reads_64 (by decide) (fun c63 => ?_) (fun c63 => ?_)
        · have h := hq_t h c63
          refine lv_aload_n hx hb dX12_reads_74 rfl (lv_at hl 0 rfl) ?_
          obtain ⟨g65, h⟩ := hq_g h
          obtain ⟨S66, g64, h⟩ := hq_bind h
          refine hq_callv hI (va_runV (As := []) (rest := []) ⟨hx, hb, hml, hown, hts⟩ (c_X12_lawHere l D kA ρ HB S40 a0 _ g64) (cwV 0 hts (gdIn (List.forall_mem_cons.mpr ⟨kw_1113, (List.forall_mem_cons.mpr ⟨kw_1115, (List.forall_mem_cons.mpr ⟨ks_46, (List.forall_mem_cons.mpr ⟨kw_6, (fun _ h => absurd h List.not_mem_nil)⟩)⟩)⟩)⟩) kw_1116) rfl rfl rfl ye_X12_lawHere ⟨Nat.le_of_ble_eq_true rfl, Nat.le_of_ble_eq_true rfl⟩) (hq_preC hE hI g65 rfl _) rfl rfl hl.1 rfl (lv_room (Nat.le_of_ble_eq_true rfl)) dX12_reads_75 ⟨Nat.le_of_ble_eq_true rfl, Nat.le_of_ble_eq_true rfl⟩) (fun H locs hI => ?_)
          exact hJ78 S66 _ _ _ h hI (lv_sub hl [0, 1, 2] rfl)
        · have h := hq_f h c63
          refine lv_aload_n hx hb dX12_reads_67 rfl (lv_at hl 0 rfl) ?_
          obtain ⟨g68, h⟩ := hq_g h
          obtain ⟨S69, g67, h⟩ := hq_bind h
          refine hq_callv hI (va_runV (As := []) (rest := []) ⟨hx, hb, hml, hown, hts⟩ (c_X12_planHere l D kA ρ HB S40 a0 _ g67) (cwV 0 hts (gdIn (List.forall_mem_cons.mpr ⟨kw_1056, (List.forall_mem_cons.mpr ⟨kw_1058, (List.forall_mem_cons.mpr ⟨ks_34, (List.forall_mem_cons.mpr ⟨kw_6, (fun _ h => absurd h List.not_mem_nil)⟩)⟩)⟩)⟩) kw_1059) rfl rfl rfl ye_X12_planHere ⟨Nat.le_of_ble_eq_true rfl, Nat.le_of_ble_eq_true rfl⟩) (hq_preC hE hI g68 rfl _) rfl rfl hl.1 rfl (lv_room (Nat.le_of_ble_eq_true rfl)) dX12_reads_68 ⟨Nat.le_of_ble_eq_true rfl, Nat.le_of_ble_eq_true rfl⟩) (fun H locs hI => ?_)
          refine lv_goto (tgt := 78) hx hb dX12_reads_71 (by decide) ?_
          exact hJ78 S69 _ _ _ h hI (lv_sub hl [0, 1, 2] rfl)
  exact hL55 FU 0 1 S23 _ _ _ h hI (lv_sub hl [2, 3, 1, 0] rfl)
-- RodDipsModel.plan()I
theorem dX12_plan_0 : decode cX12_plan 0 = .ok (.aload_n 0, 1) := by decide +kernel
theorem dX12_plan_1 : decode cX12_plan 1 = .ok (.getfield 9, 3) := by decide +kernel
theorem dX12_plan_4 : decode cX12_plan 4 = .ok (.iconst 2, 1) := by decide +kernel
theorem dX12_plan_5 : decode cX12_plan 5 = .ok (.iaload, 1) := by decide +kernel
theorem dX12_plan_6 : decode cX12_plan 6 = .ok (.istore_n 1, 1) := by decide +kernel
theorem dX12_plan_7 : decode cX12_plan 7 = .ok (.iload_n 1, 1) := by decide +kernel
theorem dX12_plan_8 : decode cX12_plan 8 = .ok (.iconst 5, 1) := by decide +kernel
theorem dX12_plan_9 : decode cX12_plan 9 = .ok (.if_icmp .ne 6, 3) := by decide +kernel
theorem dX12_plan_12 : decode cX12_plan 12 = .ok (.bipush (-4), 2) := by decide +kernel
theorem dX12_plan_14 : decode cX12_plan 14 = .ok (.ireturn, 1) := by decide +kernel
theorem dX12_plan_15 : decode cX12_plan 15 = .ok (.aload_n 0, 1) := by decide +kernel
theorem dX12_plan_16 : decode cX12_plan 16 = .ok (.getfield 9, 3) := by decide +kernel
theorem dX12_plan_19 : decode cX12_plan 19 = .ok (.sipush 310, 3) := by decide +kernel
theorem dX12_plan_22 : decode cX12_plan 22 = .ok (.iload_n 1, 1) := by decide +kernel
theorem dX12_plan_23 : decode cX12_plan 23 = .ok (.iadd, 1) := by decide +kernel
theorem dX12_plan_24 : decode cX12_plan 24 = .ok (.iconst 0, 1) := by decide +kernel
theorem dX12_plan_25 : decode cX12_plan 25 = .ok (.iastore, 1) := by decide +kernel
theorem dX12_plan_26 : decode cX12_plan 26 = .ok (.aload_n 0, 1) := by decide +kernel
theorem dX12_plan_27 : decode cX12_plan 27 = .ok (.getfield 9, 3) := by decide +kernel
theorem dX12_plan_30 : decode cX12_plan 30 = .ok (.sipush 315, 3) := by decide +kernel
theorem dX12_plan_33 : decode cX12_plan 33 = .ok (.iload_n 1, 1) := by decide +kernel
theorem dX12_plan_34 : decode cX12_plan 34 = .ok (.iadd, 1) := by decide +kernel
theorem dX12_plan_35 : decode cX12_plan 35 = .ok (.iconst 1, 1) := by decide +kernel
theorem dX12_plan_36 : decode cX12_plan 36 = .ok (.iastore, 1) := by decide +kernel
theorem dX12_plan_37 : decode cX12_plan 37 = .ok (.aload_n 0, 1) := by decide +kernel
theorem dX12_plan_38 : decode cX12_plan 38 = .ok (.iload_n 1, 1) := by decide +kernel
theorem dX12_plan_39 : decode cX12_plan 39 = .ok (.invokevirtual 156, 3) := by decide +kernel
theorem dX12_plan_42 : decode cX12_plan 42 = .ok (.istore_n 2, 1) := by decide +kernel
theorem dX12_plan_43 : decode cX12_plan 43 = .ok (.iload_n 2, 1) := by decide +kernel
theorem dX12_plan_44 : decode cX12_plan 44 = .ok (.ifCond .ge 5, 3) := by decide +kernel
theorem dX12_plan_47 : decode cX12_plan 47 = .ok (.iload_n 2, 1) := by decide +kernel
theorem dX12_plan_48 : decode cX12_plan 48 = .ok (.ireturn, 1) := by decide +kernel
theorem dX12_plan_49 : decode cX12_plan 49 = .ok (.aload_n 0, 1) := by decide +kernel
theorem dX12_plan_50 : decode cX12_plan 50 = .ok (.getfield 9, 3) := by decide +kernel
theorem dX12_plan_53 : decode cX12_plan 53 = .ok (.iconst 2, 1) := by decide +kernel
theorem dX12_plan_54 : decode cX12_plan 54 = .ok (.dup2, 1) := by decide +kernel
theorem dX12_plan_55 : decode cX12_plan 55 = .ok (.iaload, 1) := by decide +kernel
theorem dX12_plan_56 : decode cX12_plan 56 = .ok (.iconst 1, 1) := by decide +kernel
theorem dX12_plan_57 : decode cX12_plan 57 = .ok (.iadd, 1) := by decide +kernel
theorem dX12_plan_58 : decode cX12_plan 58 = .ok (.iastore, 1) := by decide +kernel
theorem dX12_plan_59 : decode cX12_plan 59 = .ok (.iload_n 1, 1) := by decide +kernel
theorem dX12_plan_60 : decode cX12_plan 60 = .ok (.ireturn, 1) := by decide +kernel
def f_X12_plan (ρ : Nat → Nat) (S : HSt) (a0 : Nat) : Option (Int32 × HSt) := (gR S a0 12 1).bind fun b1 => (aI S b1 0 2).bind fun v4 => if v4 = 5 then (some ((-4), S)) else ((gR S a0 12 1).bind fun b6 => (sI S b6 0 (310 + v4) 0).bind fun S9 => (gR S9 a0 12 1).bind fun b10 => (sI S9 b10 0 (315 + v4) 1).bind fun S13 => if gC S13 a0 = some 12 then (bd2 (f_X12_reads ρ S13 a0 v4) fun v17 S16 => if 0 ≤ v17 then ((gR S16 a0 12 1).bind fun b19 => (aI S16 b19 0 2).bind fun v22 => (sI S16 b19 0 2 (v22 + 1)).bind fun S24 => some (v4, S24)) else (some (v17, S16))) else none)
abbrev rm_X12_plan : Room := { frames := 764, cells := 0, slots := 0, locals := 15286 }
abbrev w_X12_plan : List Cond := Cond.code yX12_plan cX12_plan 3 (Option.some FieldType.int) :: lwG
theorem yd_X12_plan : yX12_plan.cls ≠ "java/lang/invoke/MethodHandle" ∧ yX12_plan.cls ≠ "java/lang/invoke/VarHandle" ∧ (parseMethodDescriptor yX12_plan.desc).map (fun d => d.parameters.length) = some 0 := by decide +kernel
theorem ye_X12_plan : yX12_plan.cls = RX12 ∧ yX12_plan.cls ≠ "java/lang/invoke/MethodHandle" ∧ yX12_plan.cls ≠ "java/lang/invoke/VarHandle" ∧ (parseMethodDescriptor yX12_plan.desc).map (fun d => d.parameters.length) = some 0 := by decide +kernel
set_option maxHeartbeats 4000000 in
set_option maxRecDepth 100000 in
theorem c_X12_plan (l : Launch) (D : va_G) (kA ρ : Nat → Nat) (HB : Heap) (S : HSt) (a0 : Nat) (res : Int32 × HSt) (h : f_X12_plan ρ S a0 = some res) : Met l yX12_plan w_X12_plan rm_X12_plan (hPc D kA ρ HB S [.ref a0]) (hQi D kA HB S res) 0 0 (hFree HB) := by
  refine Met.ofW (cc := cX12_plan) (maxL := 3) (ret := (Option.some FieldType.int)) (by decide) rfl ?_
  intro p e s m args below meth c s₁ B hml hv
  obtain ⟨rfl, hE, h0⟩ := hv
  have hx := B.exec
  have hb := B.bytes
  have hr := B.returns
  have hts0 := atoms_spec (ws := w_X12_plan) B.pre
  have hts : ∀ w ∈ lwG, w.before _ s = true := fun w hw => hts0 w (List.mem_cons_of_mem _ hw)
  have hown : s.vm.findClass RX12 = some m.cls := findClass_of_methodNamed B.named
  have hlocks := B.notSynchronized
  have hI : hqX D kA HB S.2 S s.heap [] := ⟨h0, Nat.le_refl _, fun _ q => absurd q List.not_mem_nil⟩
  have hl := lv_entry ([.ref a0]) (n := 3) (Nat.le_of_ble_eq_true rfl)
  rw [lg_entry_eq]
  generalize (lg_sl ([.ref a0]) ++ List.replicate (3 - (lg_sl ([.ref a0])).length) Slot.unset).toArray = ls at hl ⊢
  have hl : lv_has ls 3 [(0, .ref a0)] := hl
  unfold f_X12_plan at h
  refine lv_aload_n hx hb dX12_plan_0 rfl (lv_at hl 0 rfl) ?_
  obtain ⟨b1, g2, h⟩ := hq_bind h
  obtain ⟨fs_g2, hs_g2, hv_g2⟩ := gR_at g2
  refine hq_get hx hb hts hown hE hI hs_g2 inG12 rfl 1 (by decide) kw_945 hv_g2 dX12_plan_1 ?_
  refine lv_iconst (v := 2) hx hb dX12_plan_4 (by decide) ?_
  obtain ⟨v4, g3, h⟩ := hq_bind h
  refine hq_iald hx hb hE hI g3 dX12_plan_5 ?_
  refine lv_istore_n (lv' := [(1, .int v4), (0, .ref a0)]) hx hb dX12_plan_6 rfl hl (by decide) rfl (fun ls hl => ?_)
  refine lv_iload_n hx hb dX12_plan_7 rfl (lv_at hl 0 rfl) ?_
  refine lv_iconst (v := 5) hx hb dX12_plan_8 (by decide) ?_
  refine lv_icmp_ne (tgt := 15) hx hb dX12_plan_9 (by decide) (fun c5 => ?_) (fun c5 => ?_)
  · have h := hq_f h c5
    refine lv_aload_n hx hb dX12_plan_15 rfl (lv_at hl 1 rfl) ?_
    obtain ⟨b6, g7, h⟩ := hq_bind h
    obtain ⟨fs_g7, hs_g7, hv_g7⟩ := gR_at g7
    refine hq_get hx hb hts hown hE hI hs_g7 inG12 rfl 1 (by decide) kw_945 hv_g7 dX12_plan_16 ?_
    refine lv_sipush (v := 310) hx hb dX12_plan_19 (by decide) ?_
    refine lv_iload_n hx hb dX12_plan_22 rfl (lv_at hl 0 rfl) ?_
    refine lv_iadd hx hb dX12_plan_23 ?_
    refine lv_iconst (v := 0) hx hb dX12_plan_24 (by decide) ?_
    obtain ⟨S9, g8, h⟩ := hq_bind h
    refine hq_iast hx hb hE hI g8 dX12_plan_25 (fun H locs hI => ?_)
    refine lv_aload_n hx hb dX12_plan_26 rfl (lv_at hl 1 rfl) ?_
    obtain ⟨b10, g11, h⟩ := hq_bind h
    obtain ⟨fs_g11, hs_g11, hv_g11⟩ := gR_at g11
    refine hq_get hx hb hts hown hE hI hs_g11 inG12 rfl 1 (by decide) kw_945 hv_g11 dX12_plan_27 ?_
    refine lv_sipush (v := 315) hx hb dX12_plan_30 (by decide) ?_
    refine lv_iload_n hx hb dX12_plan_33 rfl (lv_at hl 0 rfl) ?_
    refine lv_iadd hx hb dX12_plan_34 ?_
    refine lv_iconst (v := 1) hx hb dX12_plan_35 (by decide) ?_
    obtain ⟨S13, g12, h⟩ := hq_bind h
    refine hq_iast hx hb hE hI g12 dX12_plan_36 (fun H locs hI => ?_)
    refine lv_aload_n hx hb dX12_plan_37 rfl (lv_at hl 1 rfl) ?_
    refine lv_iload_n hx hb dX12_plan_38 rfl (lv_at hl 0 rfl) ?_
    obtain ⟨g15, h⟩ := hq_g h
    obtain ⟨v17, S16, g14, h⟩ := hq_bd2 h
    refine hq_calli hI (va_runV (As := [.int v4]) (rest := []) ⟨hx, hb, hml, hown, hts⟩ (c_X12_reads l D kA ρ HB S13 a0 v4 _ g14) (cwV 1 hts (gdIn (List.forall_mem_cons.mpr ⟨kw_1052, (List.forall_mem_cons.mpr ⟨kw_1054, (List.forall_mem_cons.mpr ⟨ks_33, (List.forall_mem_cons.mpr ⟨kw_6, (fun _ h => absurd h List.not_mem_nil)⟩)⟩)⟩)⟩) kw_1055) rfl rfl rfl ye_X12_reads ⟨Nat.le_of_ble_eq_true rfl, Nat.le_of_ble_eq_true rfl⟩) (hq_preC hE hI g15 rfl _) rfl rfl hl.1 rfl (lv_room (Nat.le_of_ble_eq_true rfl)) dX12_plan_39 ⟨Nat.le_of_ble_eq_true rfl, Nat.le_of_ble_eq_true rfl⟩) (fun H locs hI => ?_)
    refine lv_istore_n (lv' := [(2, .int v17), (1, .int v4), (0, .ref a0)]) hx hb dX12_plan_42 rfl hl (by decide) rfl (fun ls hl => ?_)
    refine lv_iload_n hx hb dX12_plan_43 rfl (lv_at hl 0 rfl) ?_
    refine lv_if_ge (tgt := 49) hx hb dX12_plan_44 (by decide) (fun c18 => ?_) (fun c18 => ?_)
    · have h := hq_t h c18
      refine lv_aload_n hx hb dX12_plan_49 rfl (lv_at hl 2 rfl) ?_
      obtain ⟨b19, g20, h⟩ := hq_bind h
      obtain ⟨fs_g20, hs_g20, hv_g20⟩ := gR_at g20
      refine hq_get hx hb hts hown hE hI hs_g20 inG12 rfl 1 (by decide) kw_945 hv_g20 dX12_plan_50 ?_
      refine lv_iconst (v := 2) hx hb dX12_plan_53 (by decide) ?_
      refine lv_dup2_11 hx hb dX12_plan_54 rfl rfl ?_
      obtain ⟨v22, g21, h⟩ := hq_bind h
      refine hq_iald hx hb hE hI g21 dX12_plan_55 ?_
      refine lv_iconst (v := 1) hx hb dX12_plan_56 (by decide) ?_
      refine lv_iadd hx hb dX12_plan_57 ?_
      obtain ⟨S24, g23, h⟩ := hq_bind h
      refine hq_iast hx hb hE hI g23 dX12_plan_58 (fun H locs hI => ?_)
      refine lv_iload_n hx hb dX12_plan_59 rfl (lv_at hl 1 rfl) ?_
      exact hq_iret hx hb hr hlocks h0 hI h dX12_plan_60
    · have h := hq_f h c18
      refine lv_iload_n hx hb dX12_plan_47 rfl (lv_at hl 0 rfl) ?_
      exact hq_iret hx hb hr hlocks h0 hI h dX12_plan_48
  · have h := hq_t h c5
    refine lv_bipush (v := (-4)) hx hb dX12_plan_12 (by decide) ?_
    exact hq_iret hx hb hr hlocks h0 hI h dX12_plan_14
-- RodDipsModel.law()I
theorem dX12_law_0 : decode cX12_law 0 = .ok (.aload_n 0, 1) := by decide +kernel
theorem dX12_law_1 : decode cX12_law 1 = .ok (.getfield 9, 3) := by decide +kernel
theorem dX12_law_4 : decode cX12_law 4 = .ok (.iconst 3, 1) := by decide +kernel
theorem dX12_law_5 : decode cX12_law 5 = .ok (.iaload, 1) := by decide +kernel
theorem dX12_law_6 : decode cX12_law 6 = .ok (.istore_n 1, 1) := by decide +kernel
theorem dX12_law_7 : decode cX12_law 7 = .ok (.iload_n 1, 1) := by decide +kernel
theorem dX12_law_8 : decode cX12_law 8 = .ok (.iconst 5, 1) := by decide +kernel
theorem dX12_law_9 : decode cX12_law 9 = .ok (.if_icmp .ne 6, 3) := by decide +kernel
theorem dX12_law_12 : decode cX12_law 12 = .ok (.bipush (-4), 2) := by decide +kernel
theorem dX12_law_14 : decode cX12_law 14 = .ok (.ireturn, 1) := by decide +kernel
theorem dX12_law_15 : decode cX12_law 15 = .ok (.aload_n 0, 1) := by decide +kernel
theorem dX12_law_16 : decode cX12_law 16 = .ok (.getfield 9, 3) := by decide +kernel
theorem dX12_law_19 : decode cX12_law 19 = .ok (.sipush 320, 3) := by decide +kernel
theorem dX12_law_22 : decode cX12_law 22 = .ok (.iload_n 1, 1) := by decide +kernel
theorem dX12_law_23 : decode cX12_law 23 = .ok (.iadd, 1) := by decide +kernel
theorem dX12_law_24 : decode cX12_law 24 = .ok (.iconst 0, 1) := by decide +kernel
theorem dX12_law_25 : decode cX12_law 25 = .ok (.iastore, 1) := by decide +kernel
theorem dX12_law_26 : decode cX12_law 26 = .ok (.aload_n 0, 1) := by decide +kernel
theorem dX12_law_27 : decode cX12_law 27 = .ok (.iconst 5, 1) := by decide +kernel
theorem dX12_law_28 : decode cX12_law 28 = .ok (.iload_n 1, 1) := by decide +kernel
theorem dX12_law_29 : decode cX12_law 29 = .ok (.iadd, 1) := by decide +kernel
theorem dX12_law_30 : decode cX12_law 30 = .ok (.invokevirtual 156, 3) := by decide +kernel
theorem dX12_law_33 : decode cX12_law 33 = .ok (.istore_n 2, 1) := by decide +kernel
theorem dX12_law_34 : decode cX12_law 34 = .ok (.iload_n 2, 1) := by decide +kernel
theorem dX12_law_35 : decode cX12_law 35 = .ok (.ifCond .ge 5, 3) := by decide +kernel
theorem dX12_law_38 : decode cX12_law 38 = .ok (.iload_n 2, 1) := by decide +kernel
theorem dX12_law_39 : decode cX12_law 39 = .ok (.ireturn, 1) := by decide +kernel
theorem dX12_law_40 : decode cX12_law 40 = .ok (.aload_n 0, 1) := by decide +kernel
theorem dX12_law_41 : decode cX12_law 41 = .ok (.getfield 9, 3) := by decide +kernel
theorem dX12_law_44 : decode cX12_law 44 = .ok (.iconst 3, 1) := by decide +kernel
theorem dX12_law_45 : decode cX12_law 45 = .ok (.dup2, 1) := by decide +kernel
theorem dX12_law_46 : decode cX12_law 46 = .ok (.iaload, 1) := by decide +kernel
theorem dX12_law_47 : decode cX12_law 47 = .ok (.iconst 1, 1) := by decide +kernel
theorem dX12_law_48 : decode cX12_law 48 = .ok (.iadd, 1) := by decide +kernel
theorem dX12_law_49 : decode cX12_law 49 = .ok (.iastore, 1) := by decide +kernel
theorem dX12_law_50 : decode cX12_law 50 = .ok (.iload_n 1, 1) := by decide +kernel
theorem dX12_law_51 : decode cX12_law 51 = .ok (.ireturn, 1) := by decide +kernel
def f_X12_law (ρ : Nat → Nat) (S : HSt) (a0 : Nat) : Option (Int32 × HSt) := (gR S a0 12 1).bind fun b1 => (aI S b1 0 3).bind fun v4 => if v4 = 5 then (some ((-4), S)) else ((gR S a0 12 1).bind fun b6 => (sI S b6 0 (320 + v4) 0).bind fun S9 => if gC S9 a0 = some 12 then (bd2 (f_X12_reads ρ S9 a0 (5 + v4)) fun v13 S12 => if 0 ≤ v13 then ((gR S12 a0 12 1).bind fun b15 => (aI S12 b15 0 3).bind fun v18 => (sI S12 b15 0 3 (v18 + 1)).bind fun S20 => some (v4, S20)) else (some (v13, S12))) else none)
abbrev rm_X12_law : Room := { frames := 764, cells := 0, slots := 0, locals := 15286 }
abbrev w_X12_law : List Cond := Cond.code yX12_law cX12_law 3 (Option.some FieldType.int) :: lwG
theorem yd_X12_law : yX12_law.cls ≠ "java/lang/invoke/MethodHandle" ∧ yX12_law.cls ≠ "java/lang/invoke/VarHandle" ∧ (parseMethodDescriptor yX12_law.desc).map (fun d => d.parameters.length) = some 0 := by decide +kernel
theorem ye_X12_law : yX12_law.cls = RX12 ∧ yX12_law.cls ≠ "java/lang/invoke/MethodHandle" ∧ yX12_law.cls ≠ "java/lang/invoke/VarHandle" ∧ (parseMethodDescriptor yX12_law.desc).map (fun d => d.parameters.length) = some 0 := by decide +kernel
set_option maxHeartbeats 4000000 in
set_option maxRecDepth 100000 in
theorem c_X12_law (l : Launch) (D : va_G) (kA ρ : Nat → Nat) (HB : Heap) (S : HSt) (a0 : Nat) (res : Int32 × HSt) (h : f_X12_law ρ S a0 = some res) : Met l yX12_law w_X12_law rm_X12_law (hPc D kA ρ HB S [.ref a0]) (hQi D kA HB S res) 0 0 (hFree HB) := by
  refine Met.ofW (cc := cX12_law) (maxL := 3) (ret := (Option.some FieldType.int)) (by decide) rfl ?_
  intro p e s m args below meth c s₁ B hml hv
  obtain ⟨rfl, hE, h0⟩ := hv
  have hx := B.exec
  have hb := B.bytes
  have hr := B.returns
  have hts0 := atoms_spec (ws := w_X12_law) B.pre
  have hts : ∀ w ∈ lwG, w.before _ s = true := fun w hw => hts0 w (List.mem_cons_of_mem _ hw)
  have hown : s.vm.findClass RX12 = some m.cls := findClass_of_methodNamed B.named
  have hlocks := B.notSynchronized
  have hI : hqX D kA HB S.2 S s.heap [] := ⟨h0, Nat.le_refl _, fun _ q => absurd q List.not_mem_nil⟩
  have hl := lv_entry ([.ref a0]) (n := 3) (Nat.le_of_ble_eq_true rfl)
  rw [lg_entry_eq]
  generalize (lg_sl ([.ref a0]) ++ List.replicate (3 - (lg_sl ([.ref a0])).length) Slot.unset).toArray = ls at hl ⊢
  have hl : lv_has ls 3 [(0, .ref a0)] := hl
  unfold f_X12_law at h
  refine lv_aload_n hx hb dX12_law_0 rfl (lv_at hl 0 rfl) ?_
  obtain ⟨b1, g2, h⟩ := hq_bind h
  obtain ⟨fs_g2, hs_g2, hv_g2⟩ := gR_at g2
  refine hq_get hx hb hts hown hE hI hs_g2 inG12 rfl 1 (by decide) kw_945 hv_g2 dX12_law_1 ?_
  refine lv_iconst (v := 3) hx hb dX12_law_4 (by decide) ?_
  obtain ⟨v4, g3, h⟩ := hq_bind h
  refine hq_iald hx hb hE hI g3 dX12_law_5 ?_
  refine lv_istore_n (lv' := [(1, .int v4), (0, .ref a0)]) hx hb dX12_law_6 rfl hl (by decide) rfl (fun ls hl => ?_)
  refine lv_iload_n hx hb dX12_law_7 rfl (lv_at hl 0 rfl) ?_
  refine lv_iconst (v := 5) hx hb dX12_law_8 (by decide) ?_
  refine lv_icmp_ne (tgt := 15) hx hb dX12_law_9 (by decide) (fun c5 => ?_) (fun c5 => ?_)
  · have h := hq_f h c5
    refine lv_aload_n hx hb dX12_law_15 rfl (lv_at hl 1 rfl) ?_
    obtain ⟨b6, g7, h⟩ := hq_bind h
    obtain ⟨fs_g7, hs_g7, hv_g7⟩ := gR_at g7
    refine hq_get hx hb hts hown hE hI hs_g7 inG12 rfl 1 (by decide) kw_945 hv_g7 dX12_law_16 ?_
    refine lv_sipush (v := 320) hx hb dX12_law_19 (by decide) ?_
    refine lv_iload_n hx hb dX12_law_22 rfl (lv_at hl 0 rfl) ?_
    refine lv_iadd hx hb dX12_law_23 ?_
    refine lv_iconst (v := 0) hx hb dX12_law_24 (by decide) ?_
    obtain ⟨S9, g8, h⟩ := hq_bind h
    refine hq_iast hx hb hE hI g8 dX12_law_25 (fun H locs hI => ?_)
    refine lv_aload_n hx hb dX12_law_26 rfl (lv_at hl 1 rfl) ?_
    refine lv_iconst (v := 5) hx hb dX12_law_27 (by decide) ?_
    refine lv_iload_n hx hb dX12_law_28 rfl (lv_at hl 0 rfl) ?_
    refine lv_iadd hx hb dX12_law_29 ?_
    obtain ⟨g11, h⟩ := hq_g h
    obtain ⟨v13, S12, g10, h⟩ := hq_bd2 h
    refine hq_calli hI (va_runV (As := [.int (5 + v4)]) (rest := []) ⟨hx, hb, hml, hown, hts⟩ (c_X12_reads l D kA ρ HB S9 a0 (5 + v4) _ g10) (cwV 1 hts (gdIn (List.forall_mem_cons.mpr ⟨kw_1052, (List.forall_mem_cons.mpr ⟨kw_1054, (List.forall_mem_cons.mpr ⟨ks_33, (List.forall_mem_cons.mpr ⟨kw_6, (fun _ h => absurd h List.not_mem_nil)⟩)⟩)⟩)⟩) kw_1055) rfl rfl rfl ye_X12_reads ⟨Nat.le_of_ble_eq_true rfl, Nat.le_of_ble_eq_true rfl⟩) (hq_preC hE hI g11 rfl _) rfl rfl hl.1 rfl (lv_room (Nat.le_of_ble_eq_true rfl)) dX12_law_30 ⟨Nat.le_of_ble_eq_true rfl, Nat.le_of_ble_eq_true rfl⟩) (fun H locs hI => ?_)
    refine lv_istore_n (lv' := [(2, .int v13), (1, .int v4), (0, .ref a0)]) hx hb dX12_law_33 rfl hl (by decide) rfl (fun ls hl => ?_)
    refine lv_iload_n hx hb dX12_law_34 rfl (lv_at hl 0 rfl) ?_
    refine lv_if_ge (tgt := 40) hx hb dX12_law_35 (by decide) (fun c14 => ?_) (fun c14 => ?_)
    · have h := hq_t h c14
      refine lv_aload_n hx hb dX12_law_40 rfl (lv_at hl 2 rfl) ?_
      obtain ⟨b15, g16, h⟩ := hq_bind h
      obtain ⟨fs_g16, hs_g16, hv_g16⟩ := gR_at g16
      refine hq_get hx hb hts hown hE hI hs_g16 inG12 rfl 1 (by decide) kw_945 hv_g16 dX12_law_41 ?_
      refine lv_iconst (v := 3) hx hb dX12_law_44 (by decide) ?_
      refine lv_dup2_11 hx hb dX12_law_45 rfl rfl ?_
      obtain ⟨v18, g17, h⟩ := hq_bind h
      refine hq_iald hx hb hE hI g17 dX12_law_46 ?_
      refine lv_iconst (v := 1) hx hb dX12_law_47 (by decide) ?_
      refine lv_iadd hx hb dX12_law_48 ?_
      obtain ⟨S20, g19, h⟩ := hq_bind h
      refine hq_iast hx hb hE hI g19 dX12_law_49 (fun H locs hI => ?_)
      refine lv_iload_n hx hb dX12_law_50 rfl (lv_at hl 1 rfl) ?_
      exact hq_iret hx hb hr hlocks h0 hI h dX12_law_51
    · have h := hq_f h c14
      refine lv_iload_n hx hb dX12_law_38 rfl (lv_at hl 0 rfl) ?_
      exact hq_iret hx hb hr hlocks h0 hI h dX12_law_39
  · have h := hq_t h c5
    refine lv_bipush (v := (-4)) hx hb dX12_law_12 (by decide) ?_
    exact hq_iret hx hb hr hlocks h0 hI h dX12_law_14
