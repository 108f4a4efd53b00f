/-! constructors: printed by wip/whole/gen.py -/
-- RodDips$Odds.<init>()V
theorem dX4_init_0 : decode cX4_init 0 = .ok (.aload_n 0, 1) := by decide +kernel
theorem dX4_init_1 : decode cX4_init 1 = .ok (.invokespecial 3, 3) := by decide +kernel
theorem dX4_init_4 : decode cX4_init 4 = .ok (.aload_n 0, 1) := by decide +kernel
theorem dX4_init_5 : decode cX4_init 5 = .ok (.bipush 10, 2) := by decide +kernel
theorem dX4_init_7 : decode cX4_init 7 = .ok (.newarray .long, 2) := by decide +kernel
theorem dX4_init_9 : decode cX4_init 9 = .ok (.putfield 9, 3) := by decide +kernel
theorem dX4_init_12 : decode cX4_init 12 = .ok (.aload_n 0, 1) := by decide +kernel
theorem dX4_init_13 : decode cX4_init 13 = .ok (.iconst 0, 1) := by decide +kernel
theorem dX4_init_14 : decode cX4_init 14 = .ok (.putfield 15, 3) := by decide +kernel
theorem dX4_init_17 : decode cX4_init 17 = .ok (.aload_n 0, 1) := by decide +kernel
theorem dX4_init_18 : decode cX4_init 18 = .ok (.lconst 1, 1) := by decide +kernel
theorem dX4_init_19 : decode cX4_init 19 = .ok (.putfield 19, 3) := by decide +kernel
theorem dX4_init_22 : decode cX4_init 22 = .ok (.return_, 1) := by decide +kernel
def f_X4_init (S : HSt) (a0 : Nat) : Option (HSt) := hqn (hNew S (.inl (3, 10, .inr (.inl (fun _ => 0))))) fun (S1 : HSt) => (pV S1 a0 4 0 (.ref S.2)).bind fun S2 => (pV S2 a0 4 1 (.int 0)).bind fun S4 => (pV S4 a0 4 2 (.long 1)).bind fun S6 => some S6
abbrev rm_X4_init : Room := { frames := 1, cells := 1, slots := 10, locals := 12 }
abbrev w_X4_init : List Cond := Cond.code yX4_init cX4_init 1 none :: lwG
theorem yd_X4_init : yX4_init.cls ≠ "java/lang/invoke/MethodHandle" ∧ yX4_init.cls ≠ "java/lang/invoke/VarHandle" ∧ (parseMethodDescriptor yX4_init.desc).map (fun d => d.parameters.length) = some 0 := by decide +kernel
theorem ye_X4_init : yX4_init.cls = RX4 ∧ yX4_init.cls ≠ "java/lang/invoke/MethodHandle" ∧ yX4_init.cls ≠ "java/lang/invoke/VarHandle" ∧ (parseMethodDescriptor yX4_init.desc).map (fun d => d.parameters.length) = some 0 := by decide +kernel
set_option maxHeartbeats 4000000 in
set_option maxRecDepth 100000 in
theorem c_X4_init (l : Launch) (D : va_G) (kA ρ : Nat → Nat) (HB : Heap) (S : HSt) (a0 : Nat) (res : HSt) (h : f_X4_init S a0 = some res) : Met l yX4_init w_X4_init rm_X4_init (hPc D kA ρ HB S [.ref a0]) (hQv D kA HB S res) 1 10 (hFree HB) := by
  refine Met.ofW (cc := cX4_init) (maxL := 1) (ret := none) (by decide) rfl ?_
  intro p e s m args below meth c s₁ B hml hv
  obtain ⟨rfl, hE, h0⟩ := hv
  have hx := B.exec
  have hb := B.bytes
  have hr := B.returns
  have hts0 := atoms_spec (ws := w_X4_init) B.pre
  have hts : ∀ w ∈ lwG, w.before _ s = true := fun w hw => hts0 w (List.mem_cons_of_mem _ hw)
  have hown : s.vm.findClass RX4 = some m.cls := findClass_of_methodNamed B.named
  have hlocks := B.notSynchronized
  have hin : meth.name = "<init>" := (name_of_methodNamed B.named B.method).1
  have hI : hqX D kA HB S.2 S s.heap [] := ⟨h0, Nat.le_refl _, fun _ q => absurd q List.not_mem_nil⟩
  have hl := lv_entry ([.ref a0]) (n := 1) (Nat.le_of_ble_eq_true rfl)
  rw [lg_entry_eq]
  generalize (lg_sl ([.ref a0]) ++ List.replicate (1 - (lg_sl ([.ref a0])).length) Slot.unset).toArray = ls at hl ⊢
  have hl : lv_has ls 1 [(0, .ref a0)] := hl
  unfold f_X4_init at h
  refine lv_aload_n hx hb dX4_init_0 rfl (lv_at hl 0 rfl) ?_
  refine W.objInit hx hb hown (hts _ kw_58) (hts _ kw_29) (hts _ kw_30) rfl (by rw [hml]; exact hl.1) rfl dX4_init_1 (Nat.le_of_ble_eq_true rfl) (Nat.le_of_ble_eq_true rfl) ?_
  refine W.eq (g2 := F0 m 4 ls []) rfl ?_
  refine lv_aload_n hx hb dX4_init_4 rfl (lv_at hl 0 rfl) ?_
  refine lv_bipush (v := 10) hx hb dX4_init_5 (by decide) ?_
  refine hq_newa (atype := .long) hx hb 3 (by decide) hts hE hI kw_70 rfl (fun q => q) (N' := 10) (a0 := (10, .inr (.inl (fun _ => 0)))) (fun _ => rfl) (by decide) (by decide) (Nat.le_of_ble_eq_true rfl) (Nat.le_of_ble_eq_true rfl) (Nat.le_of_ble_eq_true rfl) dX4_init_7 (fun H hI => ?_)
  obtain ⟨S1, e_S1⟩ : ∃ z, z = hNew S (.inl (3, 10, .inr (.inl (fun _ => 0)))) := ⟨_, rfl⟩
  rw [← e_S1] at hI
  have h := hq_nm h e_S1
  obtain ⟨S2, g3, h⟩ := hq_bind h
  obtain ⟨fs_g3, hs_g3, hl_g3, e_g3⟩ := pV_at g3
  refine hq_putF hx hb hts hown hE hI hs_g3 inG4 tyX4 tyX4_ok nmX4 rfl 0 (by decide) kw_59 rfl hin rfl (v := .ref S.2) rfl rfl rfl hl_g3 e_g3 dX4_init_9 (fun H locs hI => ?_)
  refine lv_aload_n hx hb dX4_init_12 rfl (lv_at hl 0 rfl) ?_
  refine lv_iconst (v := 0) hx hb dX4_init_13 (by decide) ?_
  obtain ⟨S4, g5, h⟩ := hq_bind h
  obtain ⟨fs_g5, hs_g5, hl_g5, e_g5⟩ := pV_at g5
  refine hq_put hx hb hts hown hE hI hs_g5 inG4 tyX4 tyX4_ok nmX4 rfl 1 (by decide) kw_60 rfl (v := .int 0) rfl rfl rfl hl_g5 e_g5 dX4_init_14 (fun H locs hI => ?_)
  refine lv_aload_n hx hb dX4_init_17 rfl (lv_at hl 0 rfl) ?_
  refine lv_lconst (v := 1) hx hb dX4_init_18 (by decide) ?_
  obtain ⟨S6, g7, h⟩ := hq_bind h
  obtain ⟨fs_g7, hs_g7, hl_g7, e_g7⟩ := pV_at g7
  refine hq_put hx hb hts hown hE hI hs_g7 inG4 tyX4 tyX4_ok nmX4 rfl 2 (by decide) kw_61 rfl (v := .long 1) rfl rfl rfl hl_g7 e_g7 dX4_init_19 (fun H locs hI => ?_)
  refine W.widen (k := 1) (n := 10) (Nat.le_of_ble_eq_true rfl) (Nat.le_of_ble_eq_true rfl) ?_
  exact hq_vret hx hb hr hlocks h0 hI h dX4_init_22
-- RodDips$Trace.<init>()V
theorem dX8_init_0 : decode cX8_init 0 = .ok (.aload_n 0, 1) := by decide +kernel
theorem dX8_init_1 : decode cX8_init 1 = .ok (.invokespecial 3, 3) := by decide +kernel
theorem dX8_init_4 : decode cX8_init 4 = .ok (.aload_n 0, 1) := by decide +kernel
theorem dX8_init_5 : decode cX8_init 5 = .ok (.bipush 20, 2) := by decide +kernel
theorem dX8_init_7 : decode cX8_init 7 = .ok (.newarray .int, 2) := by decide +kernel
theorem dX8_init_9 : decode cX8_init 9 = .ok (.putfield 9, 3) := by decide +kernel
theorem dX8_init_12 : decode cX8_init 12 = .ok (.aload_n 0, 1) := by decide +kernel
theorem dX8_init_13 : decode cX8_init 13 = .ok (.iconst 0, 1) := by decide +kernel
theorem dX8_init_14 : decode cX8_init 14 = .ok (.putfield 15, 3) := by decide +kernel
theorem dX8_init_17 : decode cX8_init 17 = .ok (.return_, 1) := by decide +kernel
def f_X8_init (S : HSt) (a0 : Nat) : Option (HSt) := hqn (hNew S (.inl (0, 20, .inl (fun _ => 0)))) fun (S1 : HSt) => (pV S1 a0 8 0 (.ref S.2)).bind fun S2 => (pV S2 a0 8 1 (.int 0)).bind fun S4 => some S4
abbrev rm_X8_init : Room := { frames := 1, cells := 1, slots := 20, locals := 12 }
abbrev w_X8_init : List Cond := Cond.code yX8_init cX8_init 1 none :: lwG
theorem yd_X8_init : yX8_init.cls ≠ "java/lang/invoke/MethodHandle" ∧ yX8_init.cls ≠ "java/lang/invoke/VarHandle" ∧ (parseMethodDescriptor yX8_init.desc).map (fun d => d.parameters.length) = some 0 := by decide +kernel
theorem ye_X8_init : yX8_init.cls = RX8 ∧ yX8_init.cls ≠ "java/lang/invoke/MethodHandle" ∧ yX8_init.cls ≠ "java/lang/invoke/VarHandle" ∧ (parseMethodDescriptor yX8_init.desc).map (fun d => d.parameters.length) = some 0 := by decide +kernel
set_option maxHeartbeats 4000000 in
set_option maxRecDepth 100000 in
theorem c_X8_init (l : Launch) (D : va_G) (kA ρ : Nat → Nat) (HB : Heap) (S : HSt) (a0 : Nat) (res : HSt) (h : f_X8_init S a0 = some res) : Met l yX8_init w_X8_init rm_X8_init (hPc D kA ρ HB S [.ref a0]) (hQv D kA HB S res) 1 20 (hFree HB) := by
  refine Met.ofW (cc := cX8_init) (maxL := 1) (ret := none) (by decide) rfl ?_
  intro p e s m args below meth c s₁ B hml hv
  obtain ⟨rfl, hE, h0⟩ := hv
  have hx := B.exec
  have hb := B.bytes
  have hr := B.returns
  have hts0 := atoms_spec (ws := w_X8_init) B.pre
  have hts : ∀ w ∈ lwG, w.before _ s = true := fun w hw => hts0 w (List.mem_cons_of_mem _ hw)
  have hown : s.vm.findClass RX8 = some m.cls := findClass_of_methodNamed B.named
  have hlocks := B.notSynchronized
  have hin : meth.name = "<init>" := (name_of_methodNamed B.named B.method).1
  have hI : hqX D kA HB S.2 S s.heap [] := ⟨h0, Nat.le_refl _, fun _ q => absurd q List.not_mem_nil⟩
  have hl := lv_entry ([.ref a0]) (n := 1) (Nat.le_of_ble_eq_true rfl)
  rw [lg_entry_eq]
  generalize (lg_sl ([.ref a0]) ++ List.replicate (1 - (lg_sl ([.ref a0])).length) Slot.unset).toArray = ls at hl ⊢
  have hl : lv_has ls 1 [(0, .ref a0)] := hl
  unfold f_X8_init at h
  refine lv_aload_n hx hb dX8_init_0 rfl (lv_at hl 0 rfl) ?_
  refine W.objInit hx hb hown (hts _ kw_76) (hts _ kw_29) (hts _ kw_30) rfl (by rw [hml]; exact hl.1) rfl dX8_init_1 (Nat.le_of_ble_eq_true rfl) (Nat.le_of_ble_eq_true rfl) ?_
  refine W.eq (g2 := F0 m 4 ls []) rfl ?_
  refine lv_aload_n hx hb dX8_init_4 rfl (lv_at hl 0 rfl) ?_
  refine lv_bipush (v := 20) hx hb dX8_init_5 (by decide) ?_
  refine hq_newa (atype := .int) hx hb 0 (by decide) hts hE hI kw_85 rfl (fun q => q) (N' := 20) (a0 := (20, .inl (fun _ => 0))) (fun _ => rfl) (by decide) (by decide) (Nat.le_of_ble_eq_true rfl) (Nat.le_of_ble_eq_true rfl) (Nat.le_of_ble_eq_true rfl) dX8_init_7 (fun H hI => ?_)
  obtain ⟨S1, e_S1⟩ : ∃ z, z = hNew S (.inl (0, 20, .inl (fun _ => 0))) := ⟨_, rfl⟩
  rw [← e_S1] at hI
  have h := hq_nm h e_S1
  obtain ⟨S2, g3, h⟩ := hq_bind h
  obtain ⟨fs_g3, hs_g3, hl_g3, e_g3⟩ := pV_at g3
  refine hq_putF hx hb hts hown hE hI hs_g3 inG8 tyX8 tyX8_ok nmX8 rfl 0 (by decide) kw_77 rfl hin rfl (v := .ref S.2) rfl rfl rfl hl_g3 e_g3 dX8_init_9 (fun H locs hI => ?_)
  refine lv_aload_n hx hb dX8_init_12 rfl (lv_at hl 0 rfl) ?_
  refine lv_iconst (v := 0) hx hb dX8_init_13 (by decide) ?_
  obtain ⟨S4, g5, h⟩ := hq_bind h
  obtain ⟨fs_g5, hs_g5, hl_g5, e_g5⟩ := pV_at g5
  refine hq_put hx hb hts hown hE hI hs_g5 inG8 tyX8 tyX8_ok nmX8 rfl 1 (by decide) kw_78 rfl (v := .int 0) rfl rfl rfl hl_g5 e_g5 dX8_init_14 (fun H locs hI => ?_)
  refine W.widen (k := 1) (n := 20) (Nat.le_of_ble_eq_true rfl) (Nat.le_of_ble_eq_true rfl) ?_
  exact hq_vret hx hb hr hlocks h0 hI h dX8_init_17
-- RodDips$Tape.<init>()V
theorem dX6_init_0 : decode cX6_init 0 = .ok (.aload_n 0, 1) := by decide +kernel
theorem dX6_init_1 : decode cX6_init 1 = .ok (.invokespecial 3, 3) := by decide +kernel
theorem dX6_init_4 : decode cX6_init 4 = .ok (.aload_n 0, 1) := by decide +kernel
theorem dX6_init_5 : decode cX6_init 5 = .ok (.bipush 120, 2) := by decide +kernel
theorem dX6_init_7 : decode cX6_init 7 = .ok (.newarray .byte, 2) := by decide +kernel
theorem dX6_init_9 : decode cX6_init 9 = .ok (.putfield 9, 3) := by decide +kernel
theorem dX6_init_12 : decode cX6_init 12 = .ok (.aload_n 0, 1) := by decide +kernel
theorem dX6_init_13 : decode cX6_init 13 = .ok (.iconst 0, 1) := by decide +kernel
theorem dX6_init_14 : decode cX6_init 14 = .ok (.putfield 15, 3) := by decide +kernel
theorem dX6_init_17 : decode cX6_init 17 = .ok (.aload_n 0, 1) := by decide +kernel
theorem dX6_init_18 : decode cX6_init 18 = .ok (.iconst 0, 1) := by decide +kernel
theorem dX6_init_19 : decode cX6_init 19 = .ok (.putfield 19, 3) := by decide +kernel
theorem dX6_init_22 : decode cX6_init 22 = .ok (.return_, 1) := by decide +kernel
def f_X6_init (S : HSt) (a0 : Nat) : Option (HSt) := hqn (hNew S (.inl (1, 120, .inl (fun _ => 0)))) fun (S1 : HSt) => (pV S1 a0 6 0 (.ref S.2)).bind fun S2 => (pV S2 a0 6 1 (.int 0)).bind fun S4 => (pV S4 a0 6 2 (.int 0)).bind fun S6 => some S6
abbrev rm_X6_init : Room := { frames := 1, cells := 1, slots := 120, locals := 12 }
abbrev w_X6_init : List Cond := Cond.code yX6_init cX6_init 1 none :: lwG
theorem yd_X6_init : yX6_init.cls ≠ "java/lang/invoke/MethodHandle" ∧ yX6_init.cls ≠ "java/lang/invoke/VarHandle" ∧ (parseMethodDescriptor yX6_init.desc).map (fun d => d.parameters.length) = some 0 := by decide +kernel
theorem ye_X6_init : yX6_init.cls = RX6 ∧ yX6_init.cls ≠ "java/lang/invoke/MethodHandle" ∧ yX6_init.cls ≠ "java/lang/invoke/VarHandle" ∧ (parseMethodDescriptor yX6_init.desc).map (fun d => d.parameters.length) = some 0 := by decide +kernel
set_option maxHeartbeats 4000000 in
set_option maxRecDepth 100000 in
theorem c_X6_init (l : Launch) (D : va_G) (kA ρ : Nat → Nat) (HB : Heap) (S : HSt) (a0 : Nat) (res : HSt) (h : f_X6_init S a0 = some res) : Met l yX6_init w_X6_init rm_X6_init (hPc D kA ρ HB S [.ref a0]) (hQv D kA HB S res) 1 120 (hFree HB) := by
  refine Met.ofW (cc := cX6_init) (maxL := 1) (ret := none) (by decide) rfl ?_
  intro p e s m args below meth c s₁ B hml hv
  obtain ⟨rfl, hE, h0⟩ := hv
  have hx := B.exec
  have hb := B.bytes
  have hr := B.returns
  have hts0 := atoms_spec (ws := w_X6_init) B.pre
  have hts : ∀ w ∈ lwG, w.before _ s = true := fun w hw => hts0 w (List.mem_cons_of_mem _ hw)
  have hown : s.vm.findClass RX6 = some m.cls := findClass_of_methodNamed B.named
  have hlocks := B.notSynchronized
  have hin : meth.name = "<init>" := (name_of_methodNamed B.named B.method).1
  have hI : hqX D kA HB S.2 S s.heap [] := ⟨h0, Nat.le_refl _, fun _ q => absurd q List.not_mem_nil⟩
  have hl := lv_entry ([.ref a0]) (n := 1) (Nat.le_of_ble_eq_true rfl)
  rw [lg_entry_eq]
  generalize (lg_sl ([.ref a0]) ++ List.replicate (1 - (lg_sl ([.ref a0])).length) Slot.unset).toArray = ls at hl ⊢
  have hl : lv_has ls 1 [(0, .ref a0)] := hl
  unfold f_X6_init at h
  refine lv_aload_n hx hb dX6_init_0 rfl (lv_at hl 0 rfl) ?_
  refine W.objInit hx hb hown (hts _ kw_38) (hts _ kw_29) (hts _ kw_30) rfl (by rw [hml]; exact hl.1) rfl dX6_init_1 (Nat.le_of_ble_eq_true rfl) (Nat.le_of_ble_eq_true rfl) ?_
  refine W.eq (g2 := F0 m 4 ls []) rfl ?_
  refine lv_aload_n hx hb dX6_init_4 rfl (lv_at hl 0 rfl) ?_
  refine lv_bipush (v := 120) hx hb dX6_init_5 (by decide) ?_
  refine hq_newa (atype := .byte) hx hb 1 (by decide) hts hE hI kw_50 rfl (fun q => q) (N' := 120) (a0 := (120, .inl (fun _ => 0))) (fun _ => rfl) (by decide) (by decide) (Nat.le_of_ble_eq_true rfl) (Nat.le_of_ble_eq_true rfl) (Nat.le_of_ble_eq_true rfl) dX6_init_7 (fun H hI => ?_)
  obtain ⟨S1, e_S1⟩ : ∃ z, z = hNew S (.inl (1, 120, .inl (fun _ => 0))) := ⟨_, rfl⟩
  rw [← e_S1] at hI
  have h := hq_nm h e_S1
  obtain ⟨S2, g3, h⟩ := hq_bind h
  obtain ⟨fs_g3, hs_g3, hl_g3, e_g3⟩ := pV_at g3
  refine hq_putF hx hb hts hown hE hI hs_g3 inG6 tyX6 tyX6_ok nmX6 rfl 0 (by decide) kw_39 rfl hin rfl (v := .ref S.2) rfl rfl rfl hl_g3 e_g3 dX6_init_9 (fun H locs hI => ?_)
  refine lv_aload_n hx hb dX6_init_12 rfl (lv_at hl 0 rfl) ?_
  refine lv_iconst (v := 0) hx hb dX6_init_13 (by decide) ?_
  obtain ⟨S4, g5, h⟩ := hq_bind h
  obtain ⟨fs_g5, hs_g5, hl_g5, e_g5⟩ := pV_at g5
  refine hq_put hx hb hts hown hE hI hs_g5 inG6 tyX6 tyX6_ok nmX6 rfl 1 (by decide) kw_40 rfl (v := .int 0) rfl rfl rfl hl_g5 e_g5 dX6_init_14 (fun H locs hI => ?_)
  refine lv_aload_n hx hb dX6_init_17 rfl (lv_at hl 0 rfl) ?_
  refine lv_iconst (v := 0) hx hb dX6_init_18 (by decide) ?_
  obtain ⟨S6, g7, h⟩ := hq_bind h
  obtain ⟨fs_g7, hs_g7, hl_g7, e_g7⟩ := pV_at g7
  refine hq_put hx hb hts hown hE hI hs_g7 inG6 tyX6 tyX6_ok nmX6 rfl 2 (by decide) kw_42 rfl (v := .int 0) rfl rfl rfl hl_g7 e_g7 dX6_init_19 (fun H locs hI => ?_)
  refine W.widen (k := 1) (n := 120) (Nat.le_of_ble_eq_true rfl) (Nat.le_of_ble_eq_true rfl) ?_
  exact hq_vret hx hb hr hlocks h0 hI h dX6_init_22
-- RodDips$Text.<init>(Z)V
theorem dX7_init_0 : decode cX7_init 0 = .ok (.aload_n 0, 1) := by decide +kernel
theorem dX7_init_1 : decode cX7_init 1 = .ok (.invokespecial 3, 3) := by decide +kernel
theorem dX7_init_4 : decode cX7_init 4 = .ok (.aload_n 0, 1) := by decide +kernel
theorem dX7_init_5 : decode cX7_init 5 = .ok (.bipush 120, 2) := by decide +kernel
theorem dX7_init_7 : decode cX7_init 7 = .ok (.newarray .int, 2) := by decide +kernel
theorem dX7_init_9 : decode cX7_init 9 = .ok (.putfield 9, 3) := by decide +kernel
theorem dX7_init_12 : decode cX7_init 12 = .ok (.aload_n 0, 1) := by decide +kernel
theorem dX7_init_13 : decode cX7_init 13 = .ok (.bipush 8, 2) := by decide +kernel
theorem dX7_init_15 : decode cX7_init 15 = .ok (.newarray .int, 2) := by decide +kernel
theorem dX7_init_17 : decode cX7_init 17 = .ok (.putfield 15, 3) := by decide +kernel
theorem dX7_init_20 : decode cX7_init 20 = .ok (.aload_n 0, 1) := by decide +kernel
theorem dX7_init_21 : decode cX7_init 21 = .ok (.bipush 8, 2) := by decide +kernel
theorem dX7_init_23 : decode cX7_init 23 = .ok (.newarray .int, 2) := by decide +kernel
theorem dX7_init_25 : decode cX7_init 25 = .ok (.putfield 18, 3) := by decide +kernel
theorem dX7_init_28 : decode cX7_init 28 = .ok (.aload_n 0, 1) := by decide +kernel
theorem dX7_init_29 : decode cX7_init 29 = .ok (.bipush 8, 2) := by decide +kernel
theorem dX7_init_31 : decode cX7_init 31 = .ok (.newarray .int, 2) := by decide +kernel
theorem dX7_init_33 : decode cX7_init 33 = .ok (.putfield 21, 3) := by decide +kernel
theorem dX7_init_36 : decode cX7_init 36 = .ok (.aload_n 0, 1) := by decide +kernel
theorem dX7_init_37 : decode cX7_init 37 = .ok (.iload_n 1, 1) := by decide +kernel
theorem dX7_init_38 : decode cX7_init 38 = .ok (.putfield 24, 3) := by decide +kernel
theorem dX7_init_41 : decode cX7_init 41 = .ok (.aload_n 0, 1) := by decide +kernel
theorem dX7_init_42 : decode cX7_init 42 = .ok (.iload_n 1, 1) := by decide +kernel
theorem dX7_init_43 : decode cX7_init 43 = .ok (.ifCond .eq 8, 3) := by decide +kernel
theorem dX7_init_46 : decode cX7_init 46 = .ok (.ldc 28, 2) := by decide +kernel
theorem dX7_init_48 : decode cX7_init 48 = .ok (.goto 5, 3) := by decide +kernel
theorem dX7_init_51 : decode cX7_init 51 = .ok (.ldc 30, 2) := by decide +kernel
theorem dX7_init_53 : decode cX7_init 53 = .ok (.putfield 32, 3) := by decide +kernel
theorem dX7_init_56 : decode cX7_init 56 = .ok (.return_, 1) := by decide +kernel
def f_X7_init (ρ : Nat → Nat) (S : HSt) (a0 : Nat) (a1 : Int32) : Option (HSt) := hqn (hNew S (.inl (0, 120, .inl (fun _ => 0)))) fun (S1 : HSt) => (pV S1 a0 7 2 (.ref S.2)).bind fun S2 => hqn (hNew S2 (.inl (0, 8, .inl (fun _ => 0)))) fun (S4 : HSt) => (pV S4 a0 7 3 (.ref S2.2)).bind fun S5 => hqn (hNew S5 (.inl (0, 8, .inl (fun _ => 0)))) fun (S7 : HSt) => (pV S7 a0 7 4 (.ref S5.2)).bind fun S8 => hqn (hNew S8 (.inl (0, 8, .inl (fun _ => 0)))) fun (S10 : HSt) => (pV S10 a0 7 5 (.ref S8.2)).bind fun S11 => if a1 = 0 ∨ a1 = 1 then ((pV S11 a0 7 0 (.int a1)).bind fun S13 => if a1 = 0 then ((pV S13 a0 7 1 (.ref (ρ 1))).bind fun S17 => some S17) else ((pV S13 a0 7 1 (.ref (ρ 0))).bind fun S19 => some S19)) else none
abbrev rm_X7_init : Room := { frames := 1, cells := 4, slots := 144, locals := 12 }
abbrev w_X7_init : List Cond := Cond.code yX7_init cX7_init 2 none :: lwG
theorem yd_X7_init : yX7_init.cls ≠ "java/lang/invoke/MethodHandle" ∧ yX7_init.cls ≠ "java/lang/invoke/VarHandle" ∧ (parseMethodDescriptor yX7_init.desc).map (fun d => d.parameters.length) = some 1 := by decide +kernel
theorem ye_X7_init : yX7_init.cls = RX7 ∧ yX7_init.cls ≠ "java/lang/invoke/MethodHandle" ∧ yX7_init.cls ≠ "java/lang/invoke/VarHandle" ∧ (parseMethodDescriptor yX7_init.desc).map (fun d => d.parameters.length) = some 1 := by decide +kernel
set_option maxHeartbeats 4000000 in
set_option maxRecDepth 100000 in
theorem c_X7_init (l : Launch) (D : va_G) (kA ρ : Nat → Nat) (HB : Heap) (S : HSt) (a0 : Nat) (a1 : Int32) (res : HSt) (h : f_X7_init ρ S a0 a1 = some res) : Met l yX7_init w_X7_init rm_X7_init (hPc D kA ρ HB S [.ref a0, .int a1]) (hQv D kA HB S res) 4 144 (hFree HB) := by
  refine Met.ofW (cc := cX7_init) (maxL := 2) (ret := none) (by decide) rfl ?_
  intro p e s m args below meth c s₁ B hml hv
  obtain ⟨rfl, hE, h0⟩ := hv
  have hx := B.exec
  have hb := B.bytes
  have hr := B.returns
  have hts0 := atoms_spec (ws := w_X7_init) B.pre
  have hts : ∀ w ∈ lwG, w.before _ s = true := fun w hw => hts0 w (List.mem_cons_of_mem _ hw)
  have hown : s.vm.findClass RX7 = some m.cls := findClass_of_methodNamed B.named
  have hlocks := B.notSynchronized
  have hin : meth.name = "<init>" := (name_of_methodNamed B.named B.method).1
  have hI : hqX D kA HB S.2 S s.heap [] := ⟨h0, Nat.le_refl _, fun _ q => absurd q List.not_mem_nil⟩
  have hl := lv_entry ([.ref a0, .int a1]) (n := 2) (Nat.le_of_ble_eq_true rfl)
  rw [lg_entry_eq]
  generalize (lg_sl ([.ref a0, .int a1]) ++ List.replicate (2 - (lg_sl ([.ref a0, .int a1])).length) Slot.unset).toArray = ls at hl ⊢
  have hl : lv_has ls 2 [(0, .ref a0), (1, .int a1)] := hl
  unfold f_X7_init at h
  refine lv_aload_n hx hb dX7_init_0 rfl (lv_at hl 0 rfl) ?_
  refine W.objInit hx hb hown (hts _ kw_90) (hts _ kw_29) (hts _ kw_30) rfl (by rw [hml]; exact hl.1) rfl dX7_init_1 (Nat.le_of_ble_eq_true rfl) (Nat.le_of_ble_eq_true rfl) ?_
  refine W.eq (g2 := F0 m 4 ls []) rfl ?_
  refine lv_aload_n hx hb dX7_init_4 rfl (lv_at hl 0 rfl) ?_
  refine lv_bipush (v := 120) hx hb dX7_init_5 (by decide) ?_
  refine hq_newa (atype := .int) hx hb 0 (by decide) hts hE hI kw_85 rfl (fun q => q) (N' := 120) (a0 := (120, .inl (fun _ => 0))) (fun _ => rfl) (by decide) (by decide) (Nat.le_of_ble_eq_true rfl) (Nat.le_of_ble_eq_true rfl) (Nat.le_of_ble_eq_true rfl) dX7_init_7 (fun H hI => ?_)
  obtain ⟨S1, e_S1⟩ : ∃ z, z = hNew S (.inl (0, 120, .inl (fun _ => 0))) := ⟨_, rfl⟩
  rw [← e_S1] at hI
  have h := hq_nm h e_S1
  obtain ⟨S2, g3, h⟩ := hq_bind h
  obtain ⟨fs_g3, hs_g3, hl_g3, e_g3⟩ := pV_at g3
  refine hq_putF hx hb hts hown hE hI hs_g3 inG7 tyX7 tyX7_ok nmX7 rfl 2 (by decide) kw_97 rfl hin rfl (v := .ref S.2) rfl rfl rfl hl_g3 e_g3 dX7_init_9 (fun H locs hI => ?_)
  refine lv_aload_n hx hb dX7_init_12 rfl (lv_at hl 0 rfl) ?_
  refine lv_bipush (v := 8) hx hb dX7_init_13 (by decide) ?_
  refine hq_newa (atype := .int) hx hb 0 (by decide) hts hE hI kw_85 rfl (fun q => q) (N' := 8) (a0 := (8, .inl (fun _ => 0))) (fun _ => rfl) (by decide) (by decide) (Nat.le_of_ble_eq_true rfl) (Nat.le_of_ble_eq_true rfl) (Nat.le_of_ble_eq_true rfl) dX7_init_15 (fun H hI => ?_)
  obtain ⟨S4, e_S4⟩ : ∃ z, z = hNew S2 (.inl (0, 8, .inl (fun _ => 0))) := ⟨_, rfl⟩
  rw [← e_S4] at hI
  have h := hq_nm h e_S4
  obtain ⟨S5, g6, h⟩ := hq_bind h
  obtain ⟨fs_g6, hs_g6, hl_g6, e_g6⟩ := pV_at g6
  refine hq_putF hx hb hts hown hE hI hs_g6 inG7 tyX7 tyX7_ok nmX7 rfl 3 (by decide) kw_98 rfl hin rfl (v := .ref S2.2) rfl rfl rfl hl_g6 e_g6 dX7_init_17 (fun H locs hI => ?_)
  refine lv_aload_n hx hb dX7_init_20 rfl (lv_at hl 0 rfl) ?_
  refine lv_bipush (v := 8) hx hb dX7_init_21 (by decide) ?_
  refine hq_newa (atype := .int) hx hb 0 (by decide) hts hE hI kw_85 rfl (fun q => q) (N' := 8) (a0 := (8, .inl (fun _ => 0))) (fun _ => rfl) (by decide) (by decide) (Nat.le_of_ble_eq_true rfl) (Nat.le_of_ble_eq_true rfl) (Nat.le_of_ble_eq_true rfl) dX7_init_23 (fun H hI => ?_)
  obtain ⟨S7, e_S7⟩ : ∃ z, z = hNew S5 (.inl (0, 8, .inl (fun _ => 0))) := ⟨_, rfl⟩
  rw [← e_S7] at hI
  have h := hq_nm h e_S7
  obtain ⟨S8, g9, h⟩ := hq_bind h
  obtain ⟨fs_g9, hs_g9, hl_g9, e_g9⟩ := pV_at g9
  refine hq_putF hx hb hts hown hE hI hs_g9 inG7 tyX7 tyX7_ok nmX7 rfl 4 (by decide) kw_99 rfl hin rfl (v := .ref S5.2) rfl rfl rfl hl_g9 e_g9 dX7_init_25 (fun H locs hI => ?_)
  refine lv_aload_n hx hb dX7_init_28 rfl (lv_at hl 0 rfl) ?_
  refine lv_bipush (v := 8) hx hb dX7_init_29 (by decide) ?_
  refine hq_newa (atype := .int) hx hb 0 (by decide) hts hE hI kw_85 rfl (fun q => q) (N' := 8) (a0 := (8, .inl (fun _ => 0))) (fun _ => rfl) (by decide) (by decide) (Nat.le_of_ble_eq_true rfl) (Nat.le_of_ble_eq_true rfl) (Nat.le_of_ble_eq_true rfl) dX7_init_31 (fun H hI => ?_)
  obtain ⟨S10, e_S10⟩ : ∃ z, z = hNew S8 (.inl (0, 8, .inl (fun _ => 0))) := ⟨_, rfl⟩
  rw [← e_S10] at hI
  have h := hq_nm h e_S10
  obtain ⟨S11, g12, h⟩ := hq_bind h
  obtain ⟨fs_g12, hs_g12, hl_g12, e_g12⟩ := pV_at g12
  refine hq_putF hx hb hts hown hE hI hs_g12 inG7 tyX7 tyX7_ok nmX7 rfl 5 (by decide) kw_100 rfl hin rfl (v := .ref S8.2) rfl rfl rfl hl_g12 e_g12 dX7_init_33 (fun H locs hI => ?_)
  refine lv_aload_n hx hb dX7_init_36 rfl (lv_at hl 0 rfl) ?_
  refine lv_iload_n hx hb dX7_init_37 rfl (lv_at hl 1 rfl) ?_
  obtain ⟨c15, h⟩ := hq_g h
  obtain ⟨S13, g14, h⟩ := hq_bind h
  obtain ⟨fs_g14, hs_g14, hl_g14, e_g14⟩ := pV_at g14
  refine hq_putF hx hb hts hown hE hI hs_g14 inG7 tyX7 tyX7_ok nmX7 rfl 0 (by decide) kw_93 rfl hin rfl (v := .int a1) rfl (hq_nz c15) (hq_fz c15) hl_g14 e_g14 dX7_init_38 (fun H locs hI => ?_)
  refine lv_aload_n hx hb dX7_init_41 rfl (lv_at hl 0 rfl) ?_
  refine lv_iload_n hx hb dX7_init_42 rfl (lv_at hl 1 rfl) ?_
  refine lv_if_eq (tgt := 51) hx hb dX7_init_43 (by decide) (fun c16 => ?_) (fun c16 => ?_)
  · have h := hq_t h c16
    refine hq_ldcS (k := 1) hx hb hown hE (List.mem_of_getElem? (i := 1) rfl) dX7_init_51 ?_
    obtain ⟨S17, g18, h⟩ := hq_bind h
    obtain ⟨fs_g18, hs_g18, hl_g18, e_g18⟩ := pV_at g18
    refine hq_putF hx hb hts hown hE hI hs_g18 inG7 tyX7 tyX7_ok nmX7 rfl 1 (by decide) kw_95 rfl hin rfl (v := .ref (ρ 1)) rfl rfl rfl hl_g18 e_g18 dX7_init_53 (fun H locs hI => ?_)
    refine W.widen (k := 4) (n := 144) (Nat.le_of_ble_eq_true rfl) (Nat.le_of_ble_eq_true rfl) ?_
    exact hq_vret hx hb hr hlocks h0 hI h dX7_init_56
  · have h := hq_f h c16
    refine hq_ldcS (k := 0) hx hb hown hE (List.mem_of_getElem? (i := 0) rfl) dX7_init_46 ?_
    refine lv_goto (tgt := 53) hx hb dX7_init_48 (by decide) ?_
    obtain ⟨S19, g20, h⟩ := hq_bind h
    obtain ⟨fs_g20, hs_g20, hl_g20, e_g20⟩ := pV_at g20
    refine hq_putF hx hb hts hown hE hI hs_g20 inG7 tyX7 tyX7_ok nmX7 rfl 1 (by decide) kw_95 rfl hin rfl (v := .ref (ρ 0)) rfl rfl rfl hl_g20 e_g20 dX7_init_53 (fun H locs hI => ?_)
    refine W.widen (k := 4) (n := 144) (Nat.le_of_ble_eq_true rfl) (Nat.le_of_ble_eq_true rfl) ?_
    exact hq_vret hx hb hr hlocks h0 hI h dX7_init_56
-- RodDips$Try.<init>(LRodDips$Trace;)V
theorem dX9_init_0 : decode cX9_init 0 = .ok (.aload_n 0, 1) := by decide +kernel
theorem dX9_init_1 : decode cX9_init 1 = .ok (.invokespecial 1, 3) := by decide +kernel
theorem dX9_init_4 : decode cX9_init 4 = .ok (.aload_n 0, 1) := by decide +kernel
theorem dX9_init_5 : decode cX9_init 5 = .ok (.aload_n 1, 1) := by decide +kernel
theorem dX9_init_6 : decode cX9_init 6 = .ok (.putfield 7, 3) := by decide +kernel
theorem dX9_init_9 : decode cX9_init 9 = .ok (.return_, 1) := by decide +kernel
def f_X9_init (S : HSt) (a0 : Nat) (a1 : Nat) : Option (HSt) := (pVT S a0 0 (.ref a1)).bind fun S1 => some S1
abbrev rm_X9_init : Room := { frames := 1, cells := 0, slots := 0, locals := 12 }
abbrev w_X9_init : List Cond := Cond.code yX9_init cX9_init 2 none :: lwG
theorem yd_X9_init : yX9_init.cls ≠ "java/lang/invoke/MethodHandle" ∧ yX9_init.cls ≠ "java/lang/invoke/VarHandle" ∧ (parseMethodDescriptor yX9_init.desc).map (fun d => d.parameters.length) = some 1 := by decide +kernel
theorem ye_X9_init : yX9_init.cls = RX9 ∧ yX9_init.cls ≠ "java/lang/invoke/MethodHandle" ∧ yX9_init.cls ≠ "java/lang/invoke/VarHandle" ∧ (parseMethodDescriptor yX9_init.desc).map (fun d => d.parameters.length) = some 1 := by decide +kernel
set_option maxHeartbeats 4000000 in
set_option maxRecDepth 100000 in
theorem c_X9_init (l : Launch) (D : va_G) (kA ρ : Nat → Nat) (HB : Heap) (S : HSt) (a0 : Nat) (a1 : Nat) (res : HSt) (h : f_X9_init S a0 a1 = some res) : Met l yX9_init w_X9_init rm_X9_init (hPc D kA ρ HB S [.ref a0, .ref a1]) (hQv D kA HB S res) 0 0 (hFree HB) := by
  refine Met.ofW (cc := cX9_init) (maxL := 2) (ret := none) (by decide) rfl ?_
  intro p e s m args below meth c s₁ B hml hv
  obtain ⟨rfl, hE, h0⟩ := hv
  have hx := B.exec
  have hb := B.bytes
  have hr := B.returns
  have hts0 := atoms_spec (ws := w_X9_init) B.pre
  have hts : ∀ w ∈ lwG, w.before _ s = true := fun w hw => hts0 w (List.mem_cons_of_mem _ hw)
  have hown : s.vm.findClass RX9 = some m.cls := findClass_of_methodNamed B.named
  have hlocks := B.notSynchronized
  have hin : meth.name = "<init>" := (name_of_methodNamed B.named B.method).1
  have hI : hqX D kA HB S.2 S s.heap [] := ⟨h0, Nat.le_refl _, fun _ q => absurd q List.not_mem_nil⟩
  have hl := lv_entry ([.ref a0, .ref a1]) (n := 2) (Nat.le_of_ble_eq_true rfl)
  rw [lg_entry_eq]
  generalize (lg_sl ([.ref a0, .ref a1]) ++ List.replicate (2 - (lg_sl ([.ref a0, .ref a1])).length) Slot.unset).toArray = ls at hl ⊢
  have hl : lv_has ls 2 [(0, .ref a0), (1, .ref a1)] := hl
  unfold f_X9_init at h
  refine lv_aload_n hx hb dX9_init_0 rfl (lv_at hl 0 rfl) ?_
  refine W.objInit hx hb hown (hts _ kw_217) (hts _ kw_29) (hts _ kw_30) rfl (by rw [hml]; exact hl.1) rfl dX9_init_1 (Nat.le_of_ble_eq_true rfl) (Nat.le_of_ble_eq_true rfl) ?_
  refine W.eq (g2 := F0 m 4 ls []) rfl ?_
  refine lv_aload_n hx hb dX9_init_4 rfl (lv_at hl 0 rfl) ?_
  refine lv_aload_n hx hb dX9_init_5 rfl (lv_at hl 1 rfl) ?_
  obtain ⟨S1, g2, h⟩ := hq_bind h
  obtain ⟨c_g2, fs_g2, hk_g2, hs_g2, hl_g2, e_g2⟩ := pVT_at g2
  obtain ⟨C_g2, hc_g2, hi_g2⟩ := hKin_at hk_g2
  refine hq_putF hx hb hts hown hE hI hs_g2 hi_g2 tyX9 tyX9_ok nmX9 hc_g2 0 (by decide) kw_218 rfl hin rfl (v := .ref a1) rfl rfl rfl hl_g2 e_g2 dX9_init_6 (fun H locs hI => ?_)
  exact hq_vret hx hb hr hlocks h0 hI h dX9_init_9
-- RodDips$Field.<init>(LRodDips$Trace;)V
theorem dX2_init_0 : decode cX2_init 0 = .ok (.aload_n 0, 1) := by decide +kernel
theorem dX2_init_1 : decode cX2_init 1 = .ok (.aload_n 1, 1) := by decide +kernel
theorem dX2_init_2 : decode cX2_init 2 = .ok (.invokespecial 1, 3) := by decide +kernel
theorem dX2_init_5 : decode cX2_init 5 = .ok (.return_, 1) := by decide +kernel
def f_X2_init (S : HSt) (a0 : Nat) (a1 : Nat) : Option (HSt) := (f_X9_init S a0 a1).bind fun S2 => some S2
abbrev rm_X2_init : Room := { frames := 2, cells := 0, slots := 0, locals := 33 }
abbrev w_X2_init : List Cond := Cond.code yX2_init cX2_init 2 none :: lwG
theorem yd_X2_init : yX2_init.cls ≠ "java/lang/invoke/MethodHandle" ∧ yX2_init.cls ≠ "java/lang/invoke/VarHandle" ∧ (parseMethodDescriptor yX2_init.desc).map (fun d => d.parameters.length) = some 1 := by decide +kernel
theorem ye_X2_init : yX2_init.cls = RX2 ∧ yX2_init.cls ≠ "java/lang/invoke/MethodHandle" ∧ yX2_init.cls ≠ "java/lang/invoke/VarHandle" ∧ (parseMethodDescriptor yX2_init.desc).map (fun d => d.parameters.length) = some 1 := by decide +kernel
set_option maxHeartbeats 4000000 in
set_option maxRecDepth 100000 in
theorem c_X2_init (l : Launch) (D : va_G) (kA ρ : Nat → Nat) (HB : Heap) (S : HSt) (a0 : Nat) (a1 : Nat) (res : HSt) (h : f_X2_init S a0 a1 = some res) : Met l yX2_init w_X2_init rm_X2_init (hPc D kA ρ HB S [.ref a0, .ref a1]) (hQv D kA HB S res) 0 0 (hFree HB) := by
  refine Met.ofW (cc := cX2_init) (maxL := 2) (ret := none) (by decide) rfl ?_
  intro p e s m args below meth c s₁ B hml hv
  obtain ⟨rfl, hE, h0⟩ := hv
  have hx := B.exec
  have hb := B.bytes
  have hr := B.returns
  have hts0 := atoms_spec (ws := w_X2_init) B.pre
  have hts : ∀ w ∈ lwG, w.before _ s = true := fun w hw => hts0 w (List.mem_cons_of_mem _ hw)
  have hown : s.vm.findClass RX2 = some m.cls := findClass_of_methodNamed B.named
  have hlocks := B.notSynchronized
  have hin : meth.name = "<init>" := (name_of_methodNamed B.named B.method).1
  have hI : hqX D kA HB S.2 S s.heap [] := ⟨h0, Nat.le_refl _, fun _ q => absurd q List.not_mem_nil⟩
  have hl := lv_entry ([.ref a0, .ref a1]) (n := 2) (Nat.le_of_ble_eq_true rfl)
  rw [lg_entry_eq]
  generalize (lg_sl ([.ref a0, .ref a1]) ++ List.replicate (2 - (lg_sl ([.ref a0, .ref a1])).length) Slot.unset).toArray = ls at hl ⊢
  have hl : lv_has ls 2 [(0, .ref a0), (1, .ref a1)] := hl
  unfold f_X2_init at h
  refine lv_aload_n hx hb dX2_init_0 rfl (lv_at hl 0 rfl) ?_
  refine lv_aload_n hx hb dX2_init_1 rfl (lv_at hl 1 rfl) ?_
  obtain ⟨S2, g1, h⟩ := hq_bind h
  refine hq_callv hI (va_runIN (As := [.ref a1]) (rest := []) ⟨hx, hb, hml, hown, hts⟩ (c_X9_init l D kA ρ HB S a0 a1 _ g1) ⟨va_cnB 1 hts (gdIn (hd := []) (fun _ h => absurd h List.not_mem_nil) kw_216) rfl rfl rfl (hE.2.1 _ kn_214) (hts _ kw_7) yd_X9_init ⟨Nat.le_of_ble_eq_true rfl, Nat.le_of_ble_eq_true rfl⟩, rfl, hts _ kw_215⟩ (hq_preS hE hI _) rfl rfl hl.1 rfl (lv_room (Nat.le_of_ble_eq_true rfl)) dX2_init_2 ⟨Nat.le_of_ble_eq_true rfl, Nat.le_of_ble_eq_true rfl⟩) (fun H locs hI => ?_)
  exact hq_vret hx hb hr hlocks h0 hI h dX2_init_5
-- RodDips$Barn.<init>(LRodDips$Trace;)V
theorem dX0_init_0 : decode cX0_init 0 = .ok (.aload_n 0, 1) := by decide +kernel
theorem dX0_init_1 : decode cX0_init 1 = .ok (.aload_n 1, 1) := by decide +kernel
theorem dX0_init_2 : decode cX0_init 2 = .ok (.invokespecial 1, 3) := by decide +kernel
theorem dX0_init_5 : decode cX0_init 5 = .ok (.return_, 1) := by decide +kernel
def f_X0_init (S : HSt) (a0 : Nat) (a1 : Nat) : Option (HSt) := (f_X9_init S a0 a1).bind fun S2 => some S2
abbrev rm_X0_init : Room := { frames := 2, cells := 0, slots := 0, locals := 33 }
abbrev w_X0_init : List Cond := Cond.code yX0_init cX0_init 2 none :: lwG
theorem yd_X0_init : yX0_init.cls ≠ "java/lang/invoke/MethodHandle" ∧ yX0_init.cls ≠ "java/lang/invoke/VarHandle" ∧ (parseMethodDescriptor yX0_init.desc).map (fun d => d.parameters.length) = some 1 := by decide +kernel
theorem ye_X0_init : yX0_init.cls = RX0 ∧ yX0_init.cls ≠ "java/lang/invoke/MethodHandle" ∧ yX0_init.cls ≠ "java/lang/invoke/VarHandle" ∧ (parseMethodDescriptor yX0_init.desc).map (fun d => d.parameters.length) = some 1 := by decide +kernel
set_option maxHeartbeats 4000000 in
set_option maxRecDepth 100000 in
theorem c_X0_init (l : Launch) (D : va_G) (kA ρ : Nat → Nat) (HB : Heap) (S : HSt) (a0 : Nat) (a1 : Nat) (res : HSt) (h : f_X0_init S a0 a1 = some res) : Met l yX0_init w_X0_init rm_X0_init (hPc D kA ρ HB S [.ref a0, .ref a1]) (hQv D kA HB S res) 0 0 (hFree HB) := by
  refine Met.ofW (cc := cX0_init) (maxL := 2) (ret := none) (by decide) rfl ?_
  intro p e s m args below meth c s₁ B hml hv
  obtain ⟨rfl, hE, h0⟩ := hv
  have hx := B.exec
  have hb := B.bytes
  have hr := B.returns
  have hts0 := atoms_spec (ws := w_X0_init) B.pre
  have hts : ∀ w ∈ lwG, w.before _ s = true := fun w hw => hts0 w (List.mem_cons_of_mem _ hw)
  have hown : s.vm.findClass RX0 = some m.cls := findClass_of_methodNamed B.named
  have hlocks := B.notSynchronized
  have hin : meth.name = "<init>" := (name_of_methodNamed B.named B.method).1
  have hI : hqX D kA HB S.2 S s.heap [] := ⟨h0, Nat.le_refl _, fun _ q => absurd q List.not_mem_nil⟩
  have hl := lv_entry ([.ref a0, .ref a1]) (n := 2) (Nat.le_of_ble_eq_true rfl)
  rw [lg_entry_eq]
  generalize (lg_sl ([.ref a0, .ref a1]) ++ List.replicate (2 - (lg_sl ([.ref a0, .ref a1])).length) Slot.unset).toArray = ls at hl ⊢
  have hl : lv_has ls 2 [(0, .ref a0), (1, .ref a1)] := hl
  unfold f_X0_init at h
  refine lv_aload_n hx hb dX0_init_0 rfl (lv_at hl 0 rfl) ?_
  refine lv_aload_n hx hb dX0_init_1 rfl (lv_at hl 1 rfl) ?_
  obtain ⟨S2, g1, h⟩ := hq_bind h
  refine hq_callv hI (va_runIN (As := [.ref a1]) (rest := []) ⟨hx, hb, hml, hown, hts⟩ (c_X9_init l D kA ρ HB S a0 a1 _ g1) ⟨va_cnB 1 hts (gdIn (hd := []) (fun _ h => absurd h List.not_mem_nil) kw_216) rfl rfl rfl (hE.2.1 _ kn_260) (hts _ kw_7) yd_X9_init ⟨Nat.le_of_ble_eq_true rfl, Nat.le_of_ble_eq_true rfl⟩, rfl, hts _ kw_215⟩ (hq_preS hE hI _) rfl rfl hl.1 rfl (lv_room (Nat.le_of_ble_eq_true rfl)) dX0_init_2 ⟨Nat.le_of_ble_eq_true rfl, Nat.le_of_ble_eq_true rfl⟩) (fun H locs hI => ?_)
  exact hq_vret hx hb hr hlocks h0 hI h dX0_init_5
-- RodDips$Seen.<init>(LRodDips$Trace;)V
theorem dX5_init_0 : decode cX5_init 0 = .ok (.aload_n 0, 1) := by decide +kernel
theorem dX5_init_1 : decode cX5_init 1 = .ok (.aload_n 1, 1) := by decide +kernel
theorem dX5_init_2 : decode cX5_init 2 = .ok (.invokespecial 1, 3) := by decide +kernel
theorem dX5_init_5 : decode cX5_init 5 = .ok (.return_, 1) := by decide +kernel
def f_X5_init (S : HSt) (a0 : Nat) (a1 : Nat) : Option (HSt) := (f_X9_init S a0 a1).bind fun S2 => some S2
abbrev rm_X5_init : Room := { frames := 2, cells := 0, slots := 0, locals := 33 }
abbrev w_X5_init : List Cond := Cond.code yX5_init cX5_init 2 none :: lwG
theorem yd_X5_init : yX5_init.cls ≠ "java/lang/invoke/MethodHandle" ∧ yX5_init.cls ≠ "java/lang/invoke/VarHandle" ∧ (parseMethodDescriptor yX5_init.desc).map (fun d => d.parameters.length) = some 1 := by decide +kernel
theorem ye_X5_init : yX5_init.cls = RX5 ∧ yX5_init.cls ≠ "java/lang/invoke/MethodHandle" ∧ yX5_init.cls ≠ "java/lang/invoke/VarHandle" ∧ (parseMethodDescriptor yX5_init.desc).map (fun d => d.parameters.length) = some 1 := by decide +kernel
set_option maxHeartbeats 4000000 in
set_option maxRecDepth 100000 in
theorem c_X5_init (l : Launch) (D : va_G) (kA ρ : Nat → Nat) (HB : Heap) (S : HSt) (a0 : Nat) (a1 : Nat) (res : HSt) (h : f_X5_init S a0 a1 = some res) : Met l yX5_init w_X5_init rm_X5_init (hPc D kA ρ HB S [.ref a0, .ref a1]) (hQv D kA HB S res) 0 0 (hFree HB) := by
  refine Met.ofW (cc := cX5_init) (maxL := 2) (ret := none) (by decide) rfl ?_
  intro p e s m args below meth c s₁ B hml hv
  obtain ⟨rfl, hE, h0⟩ := hv
  have hx := B.exec
  have hb := B.bytes
  have hr := B.returns
  have hts0 := atoms_spec (ws := w_X5_init) B.pre
  have hts : ∀ w ∈ lwG, w.before _ s = true := fun w hw => hts0 w (List.mem_cons_of_mem _ hw)
  have hown : s.vm.findClass RX5 = some m.cls := findClass_of_methodNamed B.named
  have hlocks := B.notSynchronized
  have hin : meth.name = "<init>" := (name_of_methodNamed B.named B.method).1
  have hI : hqX D kA HB S.2 S s.heap [] := ⟨h0, Nat.le_refl _, fun _ q => absurd q List.not_mem_nil⟩
  have hl := lv_entry ([.ref a0, .ref a1]) (n := 2) (Nat.le_of_ble_eq_true rfl)
  rw [lg_entry_eq]
  generalize (lg_sl ([.ref a0, .ref a1]) ++ List.replicate (2 - (lg_sl ([.ref a0, .ref a1])).length) Slot.unset).toArray = ls at hl ⊢
  have hl : lv_has ls 2 [(0, .ref a0), (1, .ref a1)] := hl
  unfold f_X5_init at h
  refine lv_aload_n hx hb dX5_init_0 rfl (lv_at hl 0 rfl) ?_
  refine lv_aload_n hx hb dX5_init_1 rfl (lv_at hl 1 rfl) ?_
  obtain ⟨S2, g1, h⟩ := hq_bind h
  refine hq_callv hI (va_runIN (As := [.ref a1]) (rest := []) ⟨hx, hb, hml, hown, hts⟩ (c_X9_init l D kA ρ HB S a0 a1 _ g1) ⟨va_cnB 1 hts (gdIn (hd := []) (fun _ h => absurd h List.not_mem_nil) kw_216) rfl rfl rfl (hE.2.1 _ kn_276) (hts _ kw_7) yd_X9_init ⟨Nat.le_of_ble_eq_true rfl, Nat.le_of_ble_eq_true rfl⟩, rfl, hts _ kw_215⟩ (hq_preS hE hI _) rfl rfl hl.1 rfl (lv_room (Nat.le_of_ble_eq_true rfl)) dX5_init_2 ⟨Nat.le_of_ble_eq_true rfl, Nat.le_of_ble_eq_true rfl⟩) (fun H locs hI => ?_)
  exact hq_vret hx hb hr hlocks h0 hI h dX5_init_5
-- RodDips$Middle.<init>(LRodDips$Trace;)V
theorem dX3_init_0 : decode cX3_init 0 = .ok (.aload_n 0, 1) := by decide +kernel
theorem dX3_init_1 : decode cX3_init 1 = .ok (.aload_n 1, 1) := by decide +kernel
theorem dX3_init_2 : decode cX3_init 2 = .ok (.invokespecial 1, 3) := by decide +kernel
theorem dX3_init_5 : decode cX3_init 5 = .ok (.return_, 1) := by decide +kernel
def f_X3_init (S : HSt) (a0 : Nat) (a1 : Nat) : Option (HSt) := (f_X0_init S a0 a1).bind fun S2 => some S2
abbrev rm_X3_init : Room := { frames := 3, cells := 0, slots := 0, locals := 54 }
abbrev w_X3_init : List Cond := Cond.code yX3_init cX3_init 2 none :: lwG
theorem yd_X3_init : yX3_init.cls ≠ "java/lang/invoke/MethodHandle" ∧ yX3_init.cls ≠ "java/lang/invoke/VarHandle" ∧ (parseMethodDescriptor yX3_init.desc).map (fun d => d.parameters.length) = some 1 := by decide +kernel
theorem ye_X3_init : yX3_init.cls = RX3 ∧ yX3_init.cls ≠ "java/lang/invoke/MethodHandle" ∧ yX3_init.cls ≠ "java/lang/invoke/VarHandle" ∧ (parseMethodDescriptor yX3_init.desc).map (fun d => d.parameters.length) = some 1 := by decide +kernel
set_option maxHeartbeats 4000000 in
set_option maxRecDepth 100000 in
theorem c_X3_init (l : Launch) (D : va_G) (kA ρ : Nat → Nat) (HB : Heap) (S : HSt) (a0 : Nat) (a1 : Nat) (res : HSt) (h : f_X3_init S a0 a1 = some res) : Met l yX3_init w_X3_init rm_X3_init (hPc D kA ρ HB S [.ref a0, .ref a1]) (hQv D kA HB S res) 0 0 (hFree HB) := by
  refine Met.ofW (cc := cX3_init) (maxL := 2) (ret := none) (by decide) rfl ?_
  intro p e s m args below meth c s₁ B hml hv
  obtain ⟨rfl, hE, h0⟩ := hv
  have hx := B.exec
  have hb := B.bytes
  have hr := B.returns
  have hts0 := atoms_spec (ws := w_X3_init) B.pre
  have hts : ∀ w ∈ lwG, w.before _ s = true := fun w hw => hts0 w (List.mem_cons_of_mem _ hw)
  have hown : s.vm.findClass RX3 = some m.cls := findClass_of_methodNamed B.named
  have hlocks := B.notSynchronized
  have hin : meth.name = "<init>" := (name_of_methodNamed B.named B.method).1
  have hI : hqX D kA HB S.2 S s.heap [] := ⟨h0, Nat.le_refl _, fun _ q => absurd q List.not_mem_nil⟩
  have hl := lv_entry ([.ref a0, .ref a1]) (n := 2) (Nat.le_of_ble_eq_true rfl)
  rw [lg_entry_eq]
  generalize (lg_sl ([.ref a0, .ref a1]) ++ List.replicate (2 - (lg_sl ([.ref a0, .ref a1])).length) Slot.unset).toArray = ls at hl ⊢
  have hl : lv_has ls 2 [(0, .ref a0), (1, .ref a1)] := hl
  unfold f_X3_init at h
  refine lv_aload_n hx hb dX3_init_0 rfl (lv_at hl 0 rfl) ?_
  refine lv_aload_n hx hb dX3_init_1 rfl (lv_at hl 1 rfl) ?_
  obtain ⟨S2, g1, h⟩ := hq_bind h
  refine hq_callv hI (va_runIN (As := [.ref a1]) (rest := []) ⟨hx, hb, hml, hown, hts⟩ (c_X0_init l D kA ρ HB S a0 a1 _ g1) ⟨va_cnB 1 hts (gdIn (hd := []) (fun _ h => absurd h List.not_mem_nil) kw_259) rfl rfl rfl (hE.2.1 _ kn_292) (hts _ kw_9) yd_X0_init ⟨Nat.le_of_ble_eq_true rfl, Nat.le_of_ble_eq_true rfl⟩, rfl, hts _ kw_258⟩ (hq_preS hE hI _) rfl rfl hl.1 rfl (lv_room (Nat.le_of_ble_eq_true rfl)) dX3_init_2 ⟨Nat.le_of_ble_eq_true rfl, Nat.le_of_ble_eq_true rfl⟩) (fun H locs hI => ?_)
  exact hq_vret hx hb hr hlocks h0 hI h dX3_init_5
-- RodDips$Boxed.<init>(LRodDips$Trace;)V
theorem dX1_init_0 : decode cX1_init 0 = .ok (.aload_n 0, 1) := by decide +kernel
theorem dX1_init_1 : decode cX1_init 1 = .ok (.aload_n 1, 1) := by decide +kernel
theorem dX1_init_2 : decode cX1_init 2 = .ok (.invokespecial 1, 3) := by decide +kernel
theorem dX1_init_5 : decode cX1_init 5 = .ok (.return_, 1) := by decide +kernel
def f_X1_init (S : HSt) (a0 : Nat) (a1 : Nat) : Option (HSt) := (f_X0_init S a0 a1).bind fun S2 => some S2
abbrev rm_X1_init : Room := { frames := 3, cells := 0, slots := 0, locals := 54 }
abbrev w_X1_init : List Cond := Cond.code yX1_init cX1_init 2 none :: lwG
theorem yd_X1_init : yX1_init.cls ≠ "java/lang/invoke/MethodHandle" ∧ yX1_init.cls ≠ "java/lang/invoke/VarHandle" ∧ (parseMethodDescriptor yX1_init.desc).map (fun d => d.parameters.length) = some 1 := by decide +kernel
theorem ye_X1_init : yX1_init.cls = RX1 ∧ yX1_init.cls ≠ "java/lang/invoke/MethodHandle" ∧ yX1_init.cls ≠ "java/lang/invoke/VarHandle" ∧ (parseMethodDescriptor yX1_init.desc).map (fun d => d.parameters.length) = some 1 := by decide +kernel
set_option maxHeartbeats 4000000 in
set_option maxRecDepth 100000 in
theorem c_X1_init (l : Launch) (D : va_G) (kA ρ : Nat → Nat) (HB : Heap) (S : HSt) (a0 : Nat) (a1 : Nat) (res : HSt) (h : f_X1_init S a0 a1 = some res) : Met l yX1_init w_X1_init rm_X1_init (hPc D kA ρ HB S [.ref a0, .ref a1]) (hQv D kA HB S res) 0 0 (hFree HB) := by
  refine Met.ofW (cc := cX1_init) (maxL := 2) (ret := none) (by decide) rfl ?_
  intro p e s m args below meth c s₁ B hml hv
  obtain ⟨rfl, hE, h0⟩ := hv
  have hx := B.exec
  have hb := B.bytes
  have hr := B.returns
  have hts0 := atoms_spec (ws := w_X1_init) B.pre
  have hts : ∀ w ∈ lwG, w.before _ s = true := fun w hw => hts0 w (List.mem_cons_of_mem _ hw)
  have hown : s.vm.findClass RX1 = some m.cls := findClass_of_methodNamed B.named
  have hlocks := B.notSynchronized
  have hin : meth.name = "<init>" := (name_of_methodNamed B.named B.method).1
  have hI : hqX D kA HB S.2 S s.heap [] := ⟨h0, Nat.le_refl _, fun _ q => absurd q List.not_mem_nil⟩
  have hl := lv_entry ([.ref a0, .ref a1]) (n := 2) (Nat.le_of_ble_eq_true rfl)
  rw [lg_entry_eq]
  generalize (lg_sl ([.ref a0, .ref a1]) ++ List.replicate (2 - (lg_sl ([.ref a0, .ref a1])).length) Slot.unset).toArray = ls at hl ⊢
  have hl : lv_has ls 2 [(0, .ref a0), (1, .ref a1)] := hl
  unfold f_X1_init at h
  refine lv_aload_n hx hb dX1_init_0 rfl (lv_at hl 0 rfl) ?_
  refine lv_aload_n hx hb dX1_init_1 rfl (lv_at hl 1 rfl) ?_
  obtain ⟨S2, g1, h⟩ := hq_bind h
  refine hq_callv hI (va_runIN (As := [.ref a1]) (rest := []) ⟨hx, hb, hml, hown, hts⟩ (c_X0_init l D kA ρ HB S a0 a1 _ g1) ⟨va_cnB 1 hts (gdIn (hd := []) (fun _ h => absurd h List.not_mem_nil) kw_259) rfl rfl rfl (hE.2.1 _ kn_308) (hts _ kw_9) yd_X0_init ⟨Nat.le_of_ble_eq_true rfl, Nat.le_of_ble_eq_true rfl⟩, rfl, hts _ kw_258⟩ (hq_preS hE hI _) rfl rfl hl.1 rfl (lv_room (Nat.le_of_ble_eq_true rfl)) dX1_init_2 ⟨Nat.le_of_ble_eq_true rfl, Nat.le_of_ble_eq_true rfl⟩) (fun H locs hI => ?_)
  exact hq_vret hx hb hr hlocks h0 hI h dX1_init_5
-- RodDips$Warm.<init>(LRodDips$Trace;)V
theorem dX10_init_0 : decode cX10_init 0 = .ok (.aload_n 0, 1) := by decide +kernel
theorem dX10_init_1 : decode cX10_init 1 = .ok (.aload_n 1, 1) := by decide +kernel
theorem dX10_init_2 : decode cX10_init 2 = .ok (.invokespecial 1, 3) := by decide +kernel
theorem dX10_init_5 : decode cX10_init 5 = .ok (.return_, 1) := by decide +kernel
def f_X10_init (S : HSt) (a0 : Nat) (a1 : Nat) : Option (HSt) := (f_X5_init S a0 a1).bind fun S2 => some S2
abbrev rm_X10_init : Room := { frames := 3, cells := 0, slots := 0, locals := 54 }
abbrev w_X10_init : List Cond := Cond.code yX10_init cX10_init 2 none :: lwG
theorem yd_X10_init : yX10_init.cls ≠ "java/lang/invoke/MethodHandle" ∧ yX10_init.cls ≠ "java/lang/invoke/VarHandle" ∧ (parseMethodDescriptor yX10_init.desc).map (fun d => d.parameters.length) = some 1 := by decide +kernel
theorem ye_X10_init : yX10_init.cls = RX10 ∧ yX10_init.cls ≠ "java/lang/invoke/MethodHandle" ∧ yX10_init.cls ≠ "java/lang/invoke/VarHandle" ∧ (parseMethodDescriptor yX10_init.desc).map (fun d => d.parameters.length) = some 1 := by decide +kernel
set_option maxHeartbeats 4000000 in
set_option maxRecDepth 100000 in
theorem c_X10_init (l : Launch) (D : va_G) (kA ρ : Nat → Nat) (HB : Heap) (S : HSt) (a0 : Nat) (a1 : Nat) (res : HSt) (h : f_X10_init S a0 a1 = some res) : Met l yX10_init w_X10_init rm_X10_init (hPc D kA ρ HB S [.ref a0, .ref a1]) (hQv D kA HB S res) 0 0 (hFree HB) := by
  refine Met.ofW (cc := cX10_init) (maxL := 2) (ret := none) (by decide) rfl ?_
  intro p e s m args below meth c s₁ B hml hv
  obtain ⟨rfl, hE, h0⟩ := hv
  have hx := B.exec
  have hb := B.bytes
  have hr := B.returns
  have hts0 := atoms_spec (ws := w_X10_init) B.pre
  have hts : ∀ w ∈ lwG, w.before _ s = true := fun w hw => hts0 w (List.mem_cons_of_mem _ hw)
  have hown : s.vm.findClass RX10 = some m.cls := findClass_of_methodNamed B.named
  have hlocks := B.notSynchronized
  have hin : meth.name = "<init>" := (name_of_methodNamed B.named B.method).1
  have hI : hqX D kA HB S.2 S s.heap [] := ⟨h0, Nat.le_refl _, fun _ q => absurd q List.not_mem_nil⟩
  have hl := lv_entry ([.ref a0, .ref a1]) (n := 2) (Nat.le_of_ble_eq_true rfl)
  rw [lg_entry_eq]
  generalize (lg_sl ([.ref a0, .ref a1]) ++ List.replicate (2 - (lg_sl ([.ref a0, .ref a1])).length) Slot.unset).toArray = ls at hl ⊢
  have hl : lv_has ls 2 [(0, .ref a0), (1, .ref a1)] := hl
  unfold f_X10_init at h
  refine lv_aload_n hx hb dX10_init_0 rfl (lv_at hl 0 rfl) ?_
  refine lv_aload_n hx hb dX10_init_1 rfl (lv_at hl 1 rfl) ?_
  obtain ⟨S2, g1, h⟩ := hq_bind h
  refine hq_callv hI (va_runIN (As := [.ref a1]) (rest := []) ⟨hx, hb, hml, hown, hts⟩ (c_X5_init l D kA ρ HB S a0 a1 _ g1) ⟨va_cnB 1 hts (gdIn (hd := []) (fun _ h => absurd h List.not_mem_nil) kw_275) rfl rfl rfl (hE.2.1 _ kn_324) (hts _ kw_10) yd_X5_init ⟨Nat.le_of_ble_eq_true rfl, Nat.le_of_ble_eq_true rfl⟩, rfl, hts _ kw_274⟩ (hq_preS hE hI _) rfl rfl hl.1 rfl (lv_room (Nat.le_of_ble_eq_true rfl)) dX10_init_2 ⟨Nat.le_of_ble_eq_true rfl, Nat.le_of_ble_eq_true rfl⟩) (fun H locs hI => ?_)
  exact hq_vret hx hb hr hlocks h0 hI h dX10_init_5
-- RodDipsModel.<init>()V
theorem dX12_init_0 : decode cX12_init 0 = .ok (.aload_n 0, 1) := by decide +kernel
theorem dX12_init_1 : decode cX12_init 1 = .ok (.invokespecial 3, 3) := by decide +kernel
theorem dX12_init_4 : decode cX12_init 4 = .ok (.aload_n 0, 1) := by decide +kernel
theorem dX12_init_5 : decode cX12_init 5 = .ok (.sipush 1735, 3) := by decide +kernel
theorem dX12_init_8 : decode cX12_init 8 = .ok (.newarray .int, 2) := by decide +kernel
theorem dX12_init_10 : decode cX12_init 10 = .ok (.putfield 9, 3) := by decide +kernel
theorem dX12_init_13 : decode cX12_init 13 = .ok (.aload_n 0, 1) := by decide +kernel
theorem dX12_init_14 : decode cX12_init 14 = .ok (.sipush 1735, 3) := by decide +kernel
theorem dX12_init_17 : decode cX12_init 17 = .ok (.newarray .int, 2) := by decide +kernel
theorem dX12_init_19 : decode cX12_init 19 = .ok (.putfield 15, 3) := by decide +kernel
theorem dX12_init_22 : decode cX12_init 22 = .ok (.aload_n 0, 1) := by decide +kernel
theorem dX12_init_23 : decode cX12_init 23 = .ok (.bipush 64, 2) := by decide +kernel
theorem dX12_init_25 : decode cX12_init 25 = .ok (.newarray .boolean, 2) := by decide +kernel
theorem dX12_init_27 : decode cX12_init 27 = .ok (.putfield 18, 3) := by decide +kernel
theorem dX12_init_30 : decode cX12_init 30 = .ok (.aload_n 0, 1) := by decide +kernel
theorem dX12_init_31 : decode cX12_init 31 = .ok (.iconst 5, 1) := by decide +kernel
theorem dX12_init_32 : decode cX12_init 32 = .ok (.newarray .int, 2) := by decide +kernel
theorem dX12_init_34 : decode cX12_init 34 = .ok (.putfield 22, 3) := by decide +kernel
theorem dX12_init_37 : decode cX12_init 37 = .ok (.aload_n 0, 1) := by decide +kernel
theorem dX12_init_38 : decode cX12_init 38 = .ok (.iconst 5, 1) := by decide +kernel
theorem dX12_init_39 : decode cX12_init 39 = .ok (.newarray .boolean, 2) := by decide +kernel
theorem dX12_init_41 : decode cX12_init 41 = .ok (.putfield 25, 3) := by decide +kernel
theorem dX12_init_44 : decode cX12_init 44 = .ok (.aload_n 0, 1) := by decide +kernel
theorem dX12_init_45 : decode cX12_init 45 = .ok (.bipush 11, 2) := by decide +kernel
theorem dX12_init_47 : decode cX12_init 47 = .ok (.newarray .long, 2) := by decide +kernel
theorem dX12_init_49 : decode cX12_init 49 = .ok (.putfield 28, 3) := by decide +kernel
theorem dX12_init_52 : decode cX12_init 52 = .ok (.aload_n 0, 1) := by decide +kernel
theorem dX12_init_53 : decode cX12_init 53 = .ok (.bipush 20, 2) := by decide +kernel
theorem dX12_init_55 : decode cX12_init 55 = .ok (.newarray .int, 2) := by decide +kernel
theorem dX12_init_57 : decode cX12_init 57 = .ok (.putfield 32, 3) := by decide +kernel
theorem dX12_init_60 : decode cX12_init 60 = .ok (.aload_n 0, 1) := by decide +kernel
theorem dX12_init_61 : decode cX12_init 61 = .ok (.getfield 9, 3) := by decide +kernel
theorem dX12_init_64 : decode cX12_init 64 = .ok (.iconst 0, 1) := by decide +kernel
theorem dX12_init_65 : decode cX12_init 65 = .ok (.bipush 10, 2) := by decide +kernel
theorem dX12_init_67 : decode cX12_init 67 = .ok (.iastore, 1) := by decide +kernel
theorem dX12_init_68 : decode cX12_init 68 = .ok (.return_, 1) := by decide +kernel
def f_X12_init (S : HSt) (a0 : Nat) : Option (HSt) := hqn (hNew S (.inl (0, 1735, .inl (fun _ => 0)))) fun (S1 : HSt) => (pV S1 a0 12 1 (.ref S.2)).bind fun S2 => hqn (hNew S2 (.inl (0, 1735, .inl (fun _ => 0)))) fun (S4 : HSt) => (pV S4 a0 12 2 (.ref S2.2)).bind fun S5 => hqn (hNew S5 (.inl (2, 64, .inl (fun _ => 0)))) fun (S7 : HSt) => (pV S7 a0 12 9 (.ref S5.2)).bind fun S8 => hqn (hNew S8 (.inl (0, 5, .inl (fun _ => 0)))) fun (S10 : HSt) => (pV S10 a0 12 10 (.ref S8.2)).bind fun S11 => hqn (hNew S11 (.inl (2, 5, .inl (fun _ => 0)))) fun (S13 : HSt) => (pV S13 a0 12 11 (.ref S11.2)).bind fun S14 => hqn (hNew S14 (.inl (3, 11, .inr (.inl (fun _ => 0))))) fun (S16 : HSt) => (pV S16 a0 12 13 (.ref S14.2)).bind fun S17 => hqn (hNew S17 (.inl (0, 20, .inl (fun _ => 0)))) fun (S19 : HSt) => (pV S19 a0 12 15 (.ref S17.2)).bind fun S20 => (gR S20 a0 12 1).bind fun b22 => (sI S20 b22 0 0 10).bind fun S25 => some S25
abbrev rm_X12_init : Room := { frames := 1, cells := 7, slots := 3575, locals := 12 }
abbrev w_X12_init : List Cond := Cond.code yX12_init cX12_init 1 none :: lwG
theorem yd_X12_init : yX12_init.cls ≠ "java/lang/invoke/MethodHandle" ∧ yX12_init.cls ≠ "java/lang/invoke/VarHandle" ∧ (parseMethodDescriptor yX12_init.desc).map (fun d => d.parameters.length) = some 0 := by decide +kernel
theorem ye_X12_init : yX12_init.cls = RX12 ∧ yX12_init.cls ≠ "java/lang/invoke/MethodHandle" ∧ yX12_init.cls ≠ "java/lang/invoke/VarHandle" ∧ (parseMethodDescriptor yX12_init.desc).map (fun d => d.parameters.length) = some 0 := by decide +kernel
set_option maxHeartbeats 4000000 in
set_option maxRecDepth 100000 in
theorem c_X12_init (l : Launch) (D : va_G) (kA ρ : Nat → Nat) (HB : Heap) (S : HSt) (a0 : Nat) (res : HSt) (h : f_X12_init S a0 = some res) : Met l yX12_init w_X12_init rm_X12_init (hPc D kA ρ HB S [.ref a0]) (hQv D kA HB S res) 7 3575 (hFree HB) := by
  refine Met.ofW (cc := cX12_init) (maxL := 1) (ret := none) (by decide) rfl ?_
  intro p e s m args below meth c s₁ B hml hv
  obtain ⟨rfl, hE, h0⟩ := hv
  have hx := B.exec
  have hb := B.bytes
  have hr := B.returns
  have hts0 := atoms_spec (ws := w_X12_init) B.pre
  have hts : ∀ w ∈ lwG, w.before _ s = true := fun w hw => hts0 w (List.mem_cons_of_mem _ hw)
  have hown : s.vm.findClass RX12 = some m.cls := findClass_of_methodNamed B.named
  have hlocks := B.notSynchronized
  have hin : meth.name = "<init>" := (name_of_methodNamed B.named B.method).1
  have hI : hqX D kA HB S.2 S s.heap [] := ⟨h0, Nat.le_refl _, fun _ q => absurd q List.not_mem_nil⟩
  have hl := lv_entry ([.ref a0]) (n := 1) (Nat.le_of_ble_eq_true rfl)
  rw [lg_entry_eq]
  generalize (lg_sl ([.ref a0]) ++ List.replicate (1 - (lg_sl ([.ref a0])).length) Slot.unset).toArray = ls at hl ⊢
  have hl : lv_has ls 1 [(0, .ref a0)] := hl
  unfold f_X12_init at h
  refine lv_aload_n hx hb dX12_init_0 rfl (lv_at hl 0 rfl) ?_
  refine W.objInit hx hb hown (hts _ kw_944) (hts _ kw_29) (hts _ kw_30) rfl (by rw [hml]; exact hl.1) rfl dX12_init_1 (Nat.le_of_ble_eq_true rfl) (Nat.le_of_ble_eq_true rfl) ?_
  refine W.eq (g2 := F0 m 4 ls []) rfl ?_
  refine lv_aload_n hx hb dX12_init_4 rfl (lv_at hl 0 rfl) ?_
  refine lv_sipush (v := 1735) hx hb dX12_init_5 (by decide) ?_
  refine hq_newa (atype := .int) hx hb 0 (by decide) hts hE hI kw_85 rfl (fun q => q) (N' := 1735) (a0 := (1735, .inl (fun _ => 0))) (fun _ => rfl) (by decide) (by decide) (Nat.le_of_ble_eq_true rfl) (Nat.le_of_ble_eq_true rfl) (Nat.le_of_ble_eq_true rfl) dX12_init_8 (fun H hI => ?_)
  obtain ⟨S1, e_S1⟩ : ∃ z, z = hNew S (.inl (0, 1735, .inl (fun _ => 0))) := ⟨_, rfl⟩
  rw [← e_S1] at hI
  have h := hq_nm h e_S1
  obtain ⟨S2, g3, h⟩ := hq_bind h
  obtain ⟨fs_g3, hs_g3, hl_g3, e_g3⟩ := pV_at g3
  refine hq_putF hx hb hts hown hE hI hs_g3 inG12 tyX12 tyX12_ok nmX12 rfl 1 (by decide) kw_945 rfl hin rfl (v := .ref S.2) rfl rfl rfl hl_g3 e_g3 dX12_init_10 (fun H locs hI => ?_)
  refine lv_aload_n hx hb dX12_init_13 rfl (lv_at hl 0 rfl) ?_
  refine lv_sipush (v := 1735) hx hb dX12_init_14 (by decide) ?_
  refine hq_newa (atype := .int) hx hb 0 (by decide) hts hE hI kw_85 rfl (fun q => q) (N' := 1735) (a0 := (1735, .inl (fun _ => 0))) (fun _ => rfl) (by decide) (by decide) (Nat.le_of_ble_eq_true rfl) (Nat.le_of_ble_eq_true rfl) (Nat.le_of_ble_eq_true rfl) dX12_init_17 (fun H hI => ?_)
  obtain ⟨S4, e_S4⟩ : ∃ z, z = hNew S2 (.inl (0, 1735, .inl (fun _ => 0))) := ⟨_, rfl⟩
  rw [← e_S4] at hI
  have h := hq_nm h e_S4
  obtain ⟨S5, g6, h⟩ := hq_bind h
  obtain ⟨fs_g6, hs_g6, hl_g6, e_g6⟩ := pV_at g6
  refine hq_putF hx hb hts hown hE hI hs_g6 inG12 tyX12 tyX12_ok nmX12 rfl 2 (by decide) kw_946 rfl hin rfl (v := .ref S2.2) rfl rfl rfl hl_g6 e_g6 dX12_init_19 (fun H locs hI => ?_)
  refine lv_aload_n hx hb dX12_init_22 rfl (lv_at hl 0 rfl) ?_
  refine lv_bipush (v := 64) hx hb dX12_init_23 (by decide) ?_
  refine hq_newa (atype := .boolean) hx hb 2 (by decide) hts hE hI kw_1005 rfl (fun q => q) (N' := 64) (a0 := (64, .inl (fun _ => 0))) (fun _ => rfl) (by decide) (by decide) (Nat.le_of_ble_eq_true rfl) (Nat.le_of_ble_eq_true rfl) (Nat.le_of_ble_eq_true rfl) dX12_init_25 (fun H hI => ?_)
  obtain ⟨S7, e_S7⟩ : ∃ z, z = hNew S5 (.inl (2, 64, .inl (fun _ => 0))) := ⟨_, rfl⟩
  rw [← e_S7] at hI
  have h := hq_nm h e_S7
  obtain ⟨S8, g9, h⟩ := hq_bind h
  obtain ⟨fs_g9, hs_g9, hl_g9, e_g9⟩ := pV_at g9
  refine hq_putF hx hb hts hown hE hI hs_g9 inG12 tyX12 tyX12_ok nmX12 rfl 9 (by decide) kw_953 rfl hin rfl (v := .ref S5.2) rfl rfl rfl hl_g9 e_g9 dX12_init_27 (fun H locs hI => ?_)
  refine lv_aload_n hx hb dX12_init_30 rfl (lv_at hl 0 rfl) ?_
  refine lv_iconst (v := 5) hx hb dX12_init_31 (by decide) ?_
  refine hq_newa (atype := .int) hx hb 0 (by decide) hts hE hI kw_85 rfl (fun q => q) (N' := 5) (a0 := (5, .inl (fun _ => 0))) (fun _ => rfl) (by decide) (by decide) (Nat.le_of_ble_eq_true rfl) (Nat.le_of_ble_eq_true rfl) (Nat.le_of_ble_eq_true rfl) dX12_init_32 (fun H hI => ?_)
  obtain ⟨S10, e_S10⟩ : ∃ z, z = hNew S8 (.inl (0, 5, .inl (fun _ => 0))) := ⟨_, rfl⟩
  rw [← e_S10] at hI
  have h := hq_nm h e_S10
  obtain ⟨S11, g12, h⟩ := hq_bind h
  obtain ⟨fs_g12, hs_g12, hl_g12, e_g12⟩ := pV_at g12
  refine hq_putF hx hb hts hown hE hI hs_g12 inG12 tyX12 tyX12_ok nmX12 rfl 10 (by decide) kw_954 rfl hin rfl (v := .ref S8.2) rfl rfl rfl hl_g12 e_g12 dX12_init_34 (fun H locs hI => ?_)
  refine lv_aload_n hx hb dX12_init_37 rfl (lv_at hl 0 rfl) ?_
  refine lv_iconst (v := 5) hx hb dX12_init_38 (by decide) ?_
  refine hq_newa (atype := .boolean) hx hb 2 (by decide) hts hE hI kw_1005 rfl (fun q => q) (N' := 5) (a0 := (5, .inl (fun _ => 0))) (fun _ => rfl) (by decide) (by decide) (Nat.le_of_ble_eq_true rfl) (Nat.le_of_ble_eq_true rfl) (Nat.le_of_ble_eq_true rfl) dX12_init_39 (fun H hI => ?_)
  obtain ⟨S13, e_S13⟩ : ∃ z, z = hNew S11 (.inl (2, 5, .inl (fun _ => 0))) := ⟨_, rfl⟩
  rw [← e_S13] at hI
  have h := hq_nm h e_S13
  obtain ⟨S14, g15, h⟩ := hq_bind h
  obtain ⟨fs_g15, hs_g15, hl_g15, e_g15⟩ := pV_at g15
  refine hq_putF hx hb hts hown hE hI hs_g15 inG12 tyX12 tyX12_ok nmX12 rfl 11 (by decide) kw_955 rfl hin rfl (v := .ref S11.2) rfl rfl rfl hl_g15 e_g15 dX12_init_41 (fun H locs hI => ?_)
  refine lv_aload_n hx hb dX12_init_44 rfl (lv_at hl 0 rfl) ?_
  refine lv_bipush (v := 11) hx hb dX12_init_45 (by decide) ?_
  refine hq_newa (atype := .long) hx hb 3 (by decide) hts hE hI kw_70 rfl (fun q => q) (N' := 11) (a0 := (11, .inr (.inl (fun _ => 0)))) (fun _ => rfl) (by decide) (by decide) (Nat.le_of_ble_eq_true rfl) (Nat.le_of_ble_eq_true rfl) (Nat.le_of_ble_eq_true rfl) dX12_init_47 (fun H hI => ?_)
  obtain ⟨S16, e_S16⟩ : ∃ z, z = hNew S14 (.inl (3, 11, .inr (.inl (fun _ => 0)))) := ⟨_, rfl⟩
  rw [← e_S16] at hI
  have h := hq_nm h e_S16
  obtain ⟨S17, g18, h⟩ := hq_bind h
  obtain ⟨fs_g18, hs_g18, hl_g18, e_g18⟩ := pV_at g18
  refine hq_putF hx hb hts hown hE hI hs_g18 inG12 tyX12 tyX12_ok nmX12 rfl 13 (by decide) kw_957 rfl hin rfl (v := .ref S14.2) rfl rfl rfl hl_g18 e_g18 dX12_init_49 (fun H locs hI => ?_)
  refine lv_aload_n hx hb dX12_init_52 rfl (lv_at hl 0 rfl) ?_
  refine lv_bipush (v := 20) hx hb dX12_init_53 (by decide) ?_
  refine hq_newa (atype := .int) hx hb 0 (by decide) hts hE hI kw_85 rfl (fun q => q) (N' := 20) (a0 := (20, .inl (fun _ => 0))) (fun _ => rfl) (by decide) (by decide) (Nat.le_of_ble_eq_true rfl) (Nat.le_of_ble_eq_true rfl) (Nat.le_of_ble_eq_true rfl) dX12_init_55 (fun H hI => ?_)
  obtain ⟨S19, e_S19⟩ : ∃ z, z = hNew S17 (.inl (0, 20, .inl (fun _ => 0))) := ⟨_, rfl⟩
  rw [← e_S19] at hI
  have h := hq_nm h e_S19
  obtain ⟨S20, g21, h⟩ := hq_bind h
  obtain ⟨fs_g21, hs_g21, hl_g21, e_g21⟩ := pV_at g21
  refine hq_putF hx hb hts hown hE hI hs_g21 inG12 tyX12 tyX12_ok nmX12 rfl 15 (by decide) kw_959 rfl hin rfl (v := .ref S17.2) rfl rfl rfl hl_g21 e_g21 dX12_init_57 (fun H locs hI => ?_)
  refine lv_aload_n hx hb dX12_init_60 rfl (lv_at hl 0 rfl) ?_
  obtain ⟨b22, g23, h⟩ := hq_bind h
  obtain ⟨fs_g23, hs_g23, hv_g23⟩ := gR_at g23
  refine hq_get hx hb hts hown hE hI hs_g23 inG12 rfl 1 (by decide) kw_945 hv_g23 dX12_init_61 ?_
  refine lv_iconst (v := 0) hx hb dX12_init_64 (by decide) ?_
  refine lv_bipush (v := 10) hx hb dX12_init_65 (by decide) ?_
  obtain ⟨S25, g24, h⟩ := hq_bind h
  refine hq_iast hx hb hE hI g24 dX12_init_67 (fun H locs hI => ?_)
  refine W.widen (k := 7) (n := 3575) (Nat.le_of_ble_eq_true rfl) (Nat.le_of_ble_eq_true rfl) ?_
  exact hq_vret hx hb hr hlocks h0 hI h dX12_init_68
