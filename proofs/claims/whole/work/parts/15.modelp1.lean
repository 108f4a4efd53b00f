/-! the reference reads words: printed by wip/whole/gen.py -/
-- RodDipsModel.spells(Ljava/lang/String;)V
theorem dX12_spells_0 : decode cX12_spells 0 = .ok (.iconst 0, 1) := by decide +kernel
theorem dX12_spells_1 : decode cX12_spells 1 = .ok (.istore_n 2, 1) := by decide +kernel
theorem dX12_spells_2 : decode cX12_spells 2 = .ok (.iload_n 2, 1) := by decide +kernel
theorem dX12_spells_3 : decode cX12_spells 3 = .ok (.aload_n 1, 1) := by decide +kernel
theorem dX12_spells_4 : decode cX12_spells 4 = .ok (.invokevirtual 76, 3) := by decide +kernel
theorem dX12_spells_7 : decode cX12_spells 7 = .ok (.if_icmp .ge 18, 3) := by decide +kernel
theorem dX12_spells_10 : decode cX12_spells 10 = .ok (.aload_n 0, 1) := by decide +kernel
theorem dX12_spells_11 : decode cX12_spells 11 = .ok (.aload_n 1, 1) := by decide +kernel
theorem dX12_spells_12 : decode cX12_spells 12 = .ok (.iload_n 2, 1) := by decide +kernel
theorem dX12_spells_13 : decode cX12_spells 13 = .ok (.invokevirtual 81, 3) := by decide +kernel
theorem dX12_spells_16 : decode cX12_spells 16 = .ok (.invokevirtual 85, 3) := by decide +kernel
theorem dX12_spells_19 : decode cX12_spells 19 = .ok (.iinc 2 1, 3) := by decide +kernel
theorem dX12_spells_22 : decode cX12_spells 22 = .ok (.goto (-20), 3) := by decide +kernel
theorem dX12_spells_25 : decode cX12_spells 25 = .ok (.return_, 1) := by decide +kernel
def f_X12_spells_K25 (S1 : HSt) : Option (HSt) := some S1
def f_X12_spells_B2 (ρ : Nat → Nat) (a0 : Nat) (a1 : Nat) (kx25 : (HSt → Option (HSt))) (kb2 : (Int32 → HSt → Option (HSt))) (x2 : Int32) (S3 : HSt) : Option (HSt) := if (sX ρ a1).isSome = true then (bd2 (f_J0_length_8abf5 ρ S3 a1) fun v7 S6 => if v7 ≤ x2 then (kx25 S6) else (if (sX ρ a1).isSome = true then (bd2 (f_J0_charAt_5068e ρ S6 a1 x2) fun v12 S11 => if gC S11 a0 = some 12 then ((f_X12_must S11 a0 v12).bind fun S15 => kb2 (x2 + 1) S15) else none) else none)) else none
def f_X12_spells_L2 (ρ : Nat → Nat) (a0 : Nat) (a1 : Nat) (kx25 : (HSt → Option (HSt))) : Nat → Int32 → HSt → Option (HSt)
  | 0, _, _ => none
  | n + 1, x2, S => f_X12_spells_B2 ρ a0 a1 kx25 (f_X12_spells_L2 ρ a0 a1 kx25 n) x2 S
def f_X12_spells (ρ : Nat → Nat) (S : HSt) (a0 : Nat) (a1 : Nat) : Option (HSt) := (f_X12_spells_L2 ρ a0 a1 f_X12_spells_K25 FU) 0 S
abbrev rm_X12_spells : Room := { frames := 4, cells := 0, slots := 0, locals := 85 }
abbrev w_X12_spells : List Cond := Cond.code yX12_spells cX12_spells 3 none :: lwG
theorem yd_X12_spells : yX12_spells.cls ≠ "java/lang/invoke/MethodHandle" ∧ yX12_spells.cls ≠ "java/lang/invoke/VarHandle" ∧ (parseMethodDescriptor yX12_spells.desc).map (fun d => d.parameters.length) = some 1 := by decide +kernel
theorem ye_X12_spells : yX12_spells.cls = RX12 ∧ yX12_spells.cls ≠ "java/lang/invoke/MethodHandle" ∧ yX12_spells.cls ≠ "java/lang/invoke/VarHandle" ∧ (parseMethodDescriptor yX12_spells.desc).map (fun d => d.parameters.length) = some 1 := by decide +kernel
set_option maxHeartbeats 4000000 in
set_option maxRecDepth 100000 in
theorem c_X12_spells (l : Launch) (D : va_G) (kA ρ : Nat → Nat) (HB : Heap) (S : HSt) (a0 : Nat) (a1 : Nat) (res : HSt) (h : f_X12_spells ρ S a0 a1 = some res) : Met l yX12_spells w_X12_spells rm_X12_spells (hPc D kA ρ HB S [.ref a0, .ref a1]) (hQv D kA HB S res) 0 0 (hFree HB) := by
  refine Met.ofW (cc := cX12_spells) (maxL := 3) (ret := none) (by decide) rfl ?_
  intro p e s m args below meth c s₁ B hml hv
  obtain ⟨rfl, hE, h0⟩ := hv
  have hx := B.exec
  have hb := B.bytes
  have hr := B.returns
  have hts0 := atoms_spec (ws := w_X12_spells) B.pre
  have hts : ∀ w ∈ lwG, w.before _ s = true := fun w hw => hts0 w (List.mem_cons_of_mem _ hw)
  have hown : s.vm.findClass RX12 = some m.cls := findClass_of_methodNamed B.named
  have hlocks := B.notSynchronized
  have hI : hqX D kA HB S.2 S s.heap [] := ⟨h0, Nat.le_refl _, fun _ q => absurd q List.not_mem_nil⟩
  have hl := lv_entry ([.ref a0, .ref a1]) (n := 3) (Nat.le_of_ble_eq_true rfl)
  rw [lg_entry_eq]
  generalize (lg_sl ([.ref a0, .ref a1]) ++ List.replicate (3 - (lg_sl ([.ref a0, .ref a1])).length) Slot.unset).toArray = ls at hl ⊢
  have hl : lv_has ls 3 [(0, .ref a0), (1, .ref a1)] := hl
  unfold f_X12_spells at h
  refine lv_iconst (v := 0) hx hb dX12_spells_0 (by decide) ?_
  refine lv_istore_n (lv' := [(2, .int 0), (0, .ref a0), (1, .ref a1)]) hx hb dX12_spells_1 rfl hl (by decide) rfl (fun ls hl => ?_)
  have hK25 : ∀ (S1 : HSt) (H : Heap) (locs : List Loc) (ls : Array Slot), f_X12_spells_K25 S1 = some res → hqX D kA HB S.2 S1 H locs → lv_has ls 3 [] → W p l e rm_X12_spells s m ([.ref a0, .ref a1] : List Value).toArray below meth c H locs 0 0 (MQ below (hQv D kA HB S res) ([.ref a0, .ref a1] : List Value).toArray s 0 0 (hFree HB)) (F0 m 25 ls []) := by
    intro S1 H locs ls h hI hl
    unfold f_X12_spells_K25 at h
    exact hq_vret hx hb hr hlocks h0 hI h dX12_spells_25
  have hL2 : ∀ (n2 : Nat) (x2 : Int32) (S3 : HSt) (H : Heap) (locs : List Loc) (ls : Array Slot), (f_X12_spells_L2 ρ a0 a1 f_X12_spells_K25 n2) x2 S3 = some res → hqX D kA HB S.2 S3 H locs → lv_has ls 3 [(0, .ref a0), (1, .ref a1), (2, .int x2)] → W p l e rm_X12_spells s m ([.ref a0, .ref a1] : List Value).toArray below meth c H locs 0 0 (MQ below (hQv D kA HB S res) ([.ref a0, .ref a1] : List Value).toArray s 0 0 (hFree HB)) (F0 m 2 ls []) := by
    intro n2
    induction n2 with
    | zero =>
      intro x2 S3 H locs ls h
      have h : (none : Option (HSt)) = some res := h
      cases h
    | succ n2 ih2 =>
      intro x2 S3 H locs ls h hI hl
      have h : f_X12_spells_B2 ρ a0 a1 f_X12_spells_K25 (f_X12_spells_L2 ρ a0 a1 f_X12_spells_K25 n2) x2 S3 = some res := h
      unfold f_X12_spells_B2 at h
      refine lv_iload_n hx hb dX12_spells_2 rfl (lv_at hl 2 rfl) ?_
      refine lv_aload_n hx hb dX12_spells_3 rfl (lv_at hl 1 rfl) ?_
      obtain ⟨g5, h⟩ := hq_g h
      obtain ⟨v7, S6, g4, h⟩ := hq_bd2 h
      refine hq_calli hI (va_runV (As := []) (rest := [.int x2]) ⟨hx, hb, hml, hown, hts⟩ (c_J0_length_8abf5 l D kA ρ HB S3 a1 _ g4) (cwV 0 hts (gdIn (List.forall_mem_cons.mpr ⟨kw_1073, (List.forall_mem_cons.mpr ⟨kw_412, (List.forall_mem_cons.mpr ⟨kw_413, (List.forall_mem_cons.mpr ⟨kw_15, (fun _ h => absurd h List.not_mem_nil)⟩)⟩)⟩)⟩) kw_414) rfl rfl rfl ye_J0_length_8abf5 ⟨Nat.le_of_ble_eq_true rfl, Nat.le_of_ble_eq_true rfl⟩) (hq_preT hE h0 hI g5 _) rfl rfl hl.1 rfl (lv_room (Nat.le_of_ble_eq_true rfl)) dX12_spells_4 ⟨Nat.le_of_ble_eq_true rfl, Nat.le_of_ble_eq_true rfl⟩) (fun H locs hI => ?_)
      refine lv_icmp_ge (tgt := 25) hx hb dX12_spells_7 (by decide) (fun c8 => ?_) (fun c8 => ?_)
      · have h := hq_t h c8
        exact hK25 S6 _ _ _ h hI (lv_sub hl [] rfl)
      · have h := hq_f h c8
        refine lv_aload_n hx hb dX12_spells_10 rfl (lv_at hl 0 rfl) ?_
        refine lv_aload_n hx hb dX12_spells_11 rfl (lv_at hl 1 rfl) ?_
        refine lv_iload_n hx hb dX12_spells_12 rfl (lv_at hl 2 rfl) ?_
        obtain ⟨g10, h⟩ := hq_g h
        obtain ⟨v12, S11, g9, h⟩ := hq_bd2 h
        refine hq_calli hI (va_runV (As := [.int x2]) (rest := [.ref a0]) ⟨hx, hb, hml, hown, hts⟩ (c_J0_charAt_5068e l D kA ρ HB S6 a1 x2 _ g9) (cwV 1 hts (gdIn (List.forall_mem_cons.mpr ⟨kw_1074, (List.forall_mem_cons.mpr ⟨kw_422, (List.forall_mem_cons.mpr ⟨kw_423, (List.forall_mem_cons.mpr ⟨kw_15, (fun _ h => absurd h List.not_mem_nil)⟩)⟩)⟩)⟩) kw_424) rfl rfl rfl ye_J0_charAt_5068e ⟨Nat.le_of_ble_eq_true rfl, Nat.le_of_ble_eq_true rfl⟩) (hq_preT hE h0 hI g10 _) rfl rfl hl.1 rfl (lv_room (Nat.le_of_ble_eq_true rfl)) dX12_spells_13 ⟨Nat.le_of_ble_eq_true rfl, Nat.le_of_ble_eq_true rfl⟩) (fun H locs hI => ?_)
        obtain ⟨g14, h⟩ := hq_g h
        obtain ⟨S15, g13, h⟩ := hq_bind h
        refine hq_callv hI (va_runV (As := [.int v12]) (rest := []) ⟨hx, hb, hml, hown, hts⟩ (c_X12_must l D kA ρ HB S11 a0 v12 _ g13) (cwV 1 hts (gdIn (List.forall_mem_cons.mpr ⟨kw_1075, (List.forall_mem_cons.mpr ⟨kw_1077, (List.forall_mem_cons.mpr ⟨ks_38, (List.forall_mem_cons.mpr ⟨kw_6, (fun _ h => absurd h List.not_mem_nil)⟩)⟩)⟩)⟩) kw_1078) rfl rfl rfl ye_X12_must ⟨Nat.le_of_ble_eq_true rfl, Nat.le_of_ble_eq_true rfl⟩) (hq_preC hE hI g14 rfl _) rfl rfl hl.1 rfl (lv_room (Nat.le_of_ble_eq_true rfl)) dX12_spells_16 ⟨Nat.le_of_ble_eq_true rfl, Nat.le_of_ble_eq_true rfl⟩) (fun H locs hI => ?_)
        refine lv_iinc (v := (x2 + 1)) (lv' := [(2, .int (x2 + 1)), (0, .ref a0), (1, .ref a1)]) hx hb dX12_spells_19 hl (k := 2) rfl rfl (by decide) rfl (fun ls hl => ?_)
        refine lv_goto (tgt := 2) hx hb dX12_spells_22 (by decide) ?_
        exact ih2 (x2 + 1) S15 _ _ _ h hI (lv_sub hl [1, 2, 0] rfl)
  exact hL2 FU 0 S _ _ _ h hI (lv_sub hl [1, 2, 0] rfl)
-- RodDipsModel.among(Ljava/lang/String;)I
theorem dX12_among_0 : decode cX12_among 0 = .ok (.iconst 0, 1) := by decide +kernel
theorem dX12_among_1 : decode cX12_among 1 = .ok (.istore_n 2, 1) := by decide +kernel
theorem dX12_among_2 : decode cX12_among 2 = .ok (.iload_n 2, 1) := by decide +kernel
theorem dX12_among_3 : decode cX12_among 3 = .ok (.aload_n 1, 1) := by decide +kernel
theorem dX12_among_4 : decode cX12_among 4 = .ok (.invokevirtual 76, 3) := by decide +kernel
theorem dX12_among_7 : decode cX12_among 7 = .ok (.if_icmp .ge 33, 3) := by decide +kernel
theorem dX12_among_10 : decode cX12_among 10 = .ok (.aload_n 0, 1) := by decide +kernel
theorem dX12_among_11 : decode cX12_among 11 = .ok (.invokevirtual 72, 3) := by decide +kernel
theorem dX12_among_14 : decode cX12_among 14 = .ok (.aload_n 1, 1) := by decide +kernel
theorem dX12_among_15 : decode cX12_among 15 = .ok (.iload_n 2, 1) := by decide +kernel
theorem dX12_among_16 : decode cX12_among 16 = .ok (.invokevirtual 81, 3) := by decide +kernel
theorem dX12_among_19 : decode cX12_among 19 = .ok (.if_icmp .ne 15, 3) := by decide +kernel
theorem dX12_among_22 : decode cX12_among 22 = .ok (.aload_n 0, 1) := by decide +kernel
theorem dX12_among_23 : decode cX12_among 23 = .ok (.dup, 1) := by decide +kernel
theorem dX12_among_24 : decode cX12_among 24 = .ok (.getfield 62, 3) := by decide +kernel
theorem dX12_among_27 : decode cX12_among 27 = .ok (.iconst 1, 1) := by decide +kernel
theorem dX12_among_28 : decode cX12_among 28 = .ok (.iadd, 1) := by decide +kernel
theorem dX12_among_29 : decode cX12_among 29 = .ok (.putfield 62, 3) := by decide +kernel
theorem dX12_among_32 : decode cX12_among 32 = .ok (.iload_n 2, 1) := by decide +kernel
theorem dX12_among_33 : decode cX12_among 33 = .ok (.ireturn, 1) := by decide +kernel
theorem dX12_among_34 : decode cX12_among 34 = .ok (.iinc 2 1, 3) := by decide +kernel
theorem dX12_among_37 : decode cX12_among 37 = .ok (.goto (-35), 3) := by decide +kernel
theorem dX12_among_40 : decode cX12_among 40 = .ok (.iconst (-1), 1) := by decide +kernel
theorem dX12_among_41 : decode cX12_among 41 = .ok (.ireturn, 1) := by decide +kernel
def f_X12_among_K40 (S1 : HSt) : Option (Int32 × HSt) := some ((-1), S1)
def f_X12_among_B2 (ρ : Nat → Nat) (a0 : Nat) (a1 : Nat) (kx40 : (HSt → Option (Int32 × HSt))) (kb2 : (Int32 → HSt → Option (Int32 × HSt))) (x2 : Int32) (S3 : HSt) : Option (Int32 × HSt) := if (sX ρ a1).isSome = true then (bd2 (f_J0_length_8abf5 ρ S3 a1) fun v7 S6 => if v7 ≤ x2 then (kx40 S6) else (if gC S6 a0 = some 12 then (bd2 (f_X12_here S6 a0) fun v12 S11 => if (sX ρ a1).isSome = true then (bd2 (f_J0_charAt_5068e ρ S11 a1 x2) fun v16 S15 => if v12 = v16 then ((gI S15 a0 12 5).bind fun v18 => (pV S15 a0 12 5 (.int (v18 + 1))).bind fun S20 => some (x2, S20)) else (kb2 (x2 + 1) S15)) else none) else none)) else none
def f_X12_among_L2 (ρ : Nat → Nat) (a0 : Nat) (a1 : Nat) (kx40 : (HSt → Option (Int32 × HSt))) : Nat → Int32 → HSt → Option (Int32 × HSt)
  | 0, _, _ => none
  | n + 1, x2, S => f_X12_among_B2 ρ a0 a1 kx40 (f_X12_among_L2 ρ a0 a1 kx40 n) x2 S
def f_X12_among (ρ : Nat → Nat) (S : HSt) (a0 : Nat) (a1 : Nat) : Option (Int32 × HSt) := (f_X12_among_L2 ρ a0 a1 f_X12_among_K40 FU) 0 S
abbrev rm_X12_among : Room := { frames := 4, cells := 0, slots := 0, locals := 85 }
abbrev w_X12_among : List Cond := Cond.code yX12_among cX12_among 3 (Option.some FieldType.int) :: lwG
theorem yd_X12_among : yX12_among.cls ≠ "java/lang/invoke/MethodHandle" ∧ yX12_among.cls ≠ "java/lang/invoke/VarHandle" ∧ (parseMethodDescriptor yX12_among.desc).map (fun d => d.parameters.length) = some 1 := by decide +kernel
theorem ye_X12_among : yX12_among.cls = RX12 ∧ yX12_among.cls ≠ "java/lang/invoke/MethodHandle" ∧ yX12_among.cls ≠ "java/lang/invoke/VarHandle" ∧ (parseMethodDescriptor yX12_among.desc).map (fun d => d.parameters.length) = some 1 := by decide +kernel
set_option maxHeartbeats 4000000 in
set_option maxRecDepth 100000 in
theorem c_X12_among (l : Launch) (D : va_G) (kA ρ : Nat → Nat) (HB : Heap) (S : HSt) (a0 : Nat) (a1 : Nat) (res : Int32 × HSt) (h : f_X12_among ρ S a0 a1 = some res) : Met l yX12_among w_X12_among rm_X12_among (hPc D kA ρ HB S [.ref a0, .ref a1]) (hQi D kA HB S res) 0 0 (hFree HB) := by
  refine Met.ofW (cc := cX12_among) (maxL := 3) (ret := (Option.some FieldType.int)) (by decide) rfl ?_
  intro p e s m args below meth c s₁ B hml hv
  obtain ⟨rfl, hE, h0⟩ := hv
  have hx := B.exec
  have hb := B.bytes
  have hr := B.returns
  have hts0 := atoms_spec (ws := w_X12_among) B.pre
  have hts : ∀ w ∈ lwG, w.before _ s = true := fun w hw => hts0 w (List.mem_cons_of_mem _ hw)
  have hown : s.vm.findClass RX12 = some m.cls := findClass_of_methodNamed B.named
  have hlocks := B.notSynchronized
  have hI : hqX D kA HB S.2 S s.heap [] := ⟨h0, Nat.le_refl _, fun _ q => absurd q List.not_mem_nil⟩
  have hl := lv_entry ([.ref a0, .ref a1]) (n := 3) (Nat.le_of_ble_eq_true rfl)
  rw [lg_entry_eq]
  generalize (lg_sl ([.ref a0, .ref a1]) ++ List.replicate (3 - (lg_sl ([.ref a0, .ref a1])).length) Slot.unset).toArray = ls at hl ⊢
  have hl : lv_has ls 3 [(0, .ref a0), (1, .ref a1)] := hl
  unfold f_X12_among at h
  refine lv_iconst (v := 0) hx hb dX12_among_0 (by decide) ?_
  refine lv_istore_n (lv' := [(2, .int 0), (0, .ref a0), (1, .ref a1)]) hx hb dX12_among_1 rfl hl (by decide) rfl (fun ls hl => ?_)
  have hK40 : ∀ (S1 : HSt) (H : Heap) (locs : List Loc) (ls : Array Slot), f_X12_among_K40 S1 = some res → hqX D kA HB S.2 S1 H locs → lv_has ls 3 [] → W p l e rm_X12_among s m ([.ref a0, .ref a1] : List Value).toArray below meth c H locs 0 0 (MQ below (hQi D kA HB S res) ([.ref a0, .ref a1] : List Value).toArray s 0 0 (hFree HB)) (F0 m 40 ls []) := by
    intro S1 H locs ls h hI hl
    unfold f_X12_among_K40 at h
    refine lv_iconst (v := (-1)) hx hb dX12_among_40 (by decide) ?_
    exact hq_iret hx hb hr hlocks h0 hI h dX12_among_41
  have hL2 : ∀ (n2 : Nat) (x2 : Int32) (S3 : HSt) (H : Heap) (locs : List Loc) (ls : Array Slot), (f_X12_among_L2 ρ a0 a1 f_X12_among_K40 n2) x2 S3 = some res → hqX D kA HB S.2 S3 H locs → lv_has ls 3 [(0, .ref a0), (1, .ref a1), (2, .int x2)] → W p l e rm_X12_among s m ([.ref a0, .ref a1] : List Value).toArray below meth c H locs 0 0 (MQ below (hQi D kA HB S res) ([.ref a0, .ref a1] : List Value).toArray s 0 0 (hFree HB)) (F0 m 2 ls []) := by
    intro n2
    induction n2 with
    | zero =>
      intro x2 S3 H locs ls h
      have h : (none : Option (Int32 × HSt)) = some res := h
      cases h
    | succ n2 ih2 =>
      intro x2 S3 H locs ls h hI hl
      have h : f_X12_among_B2 ρ a0 a1 f_X12_among_K40 (f_X12_among_L2 ρ a0 a1 f_X12_among_K40 n2) x2 S3 = some res := h
      unfold f_X12_among_B2 at h
      refine lv_iload_n hx hb dX12_among_2 rfl (lv_at hl 2 rfl) ?_
      refine lv_aload_n hx hb dX12_among_3 rfl (lv_at hl 1 rfl) ?_
      obtain ⟨g5, h⟩ := hq_g h
      obtain ⟨v7, S6, g4, h⟩ := hq_bd2 h
      refine hq_calli hI (va_runV (As := []) (rest := [.int x2]) ⟨hx, hb, hml, hown, hts⟩ (c_J0_length_8abf5 l D kA ρ HB S3 a1 _ g4) (cwV 0 hts (gdIn (List.forall_mem_cons.mpr ⟨kw_1073, (List.forall_mem_cons.mpr ⟨kw_412, (List.forall_mem_cons.mpr ⟨kw_413, (List.forall_mem_cons.mpr ⟨kw_15, (fun _ h => absurd h List.not_mem_nil)⟩)⟩)⟩)⟩) kw_414) rfl rfl rfl ye_J0_length_8abf5 ⟨Nat.le_of_ble_eq_true rfl, Nat.le_of_ble_eq_true rfl⟩) (hq_preT hE h0 hI g5 _) rfl rfl hl.1 rfl (lv_room (Nat.le_of_ble_eq_true rfl)) dX12_among_4 ⟨Nat.le_of_ble_eq_true rfl, Nat.le_of_ble_eq_true rfl⟩) (fun H locs hI => ?_)
      refine lv_icmp_ge (tgt := 40) hx hb dX12_among_7 (by decide) (fun c8 => ?_) (fun c8 => ?_)
      · have h := hq_t h c8
        exact hK40 S6 _ _ _ h hI (lv_sub hl [] rfl)
      · have h := hq_f h c8
        refine lv_aload_n hx hb dX12_among_10 rfl (lv_at hl 0 rfl) ?_
        obtain ⟨g10, h⟩ := hq_g h
        obtain ⟨v12, S11, g9, h⟩ := hq_bd2 h
        refine hq_calli hI (va_runV (As := []) (rest := []) ⟨hx, hb, hml, hown, hts⟩ (c_X12_here l D kA ρ HB S6 a0 _ g9) (cwV 0 hts (gdIn (List.forall_mem_cons.mpr ⟨kw_1060, (List.forall_mem_cons.mpr ⟨kw_1062, (List.forall_mem_cons.mpr ⟨ks_35, (List.forall_mem_cons.mpr ⟨kw_6, (fun _ h => absurd h List.not_mem_nil)⟩)⟩)⟩)⟩) kw_1063) rfl rfl rfl ye_X12_here ⟨Nat.le_of_ble_eq_true rfl, Nat.le_of_ble_eq_true rfl⟩) (hq_preC hE hI g10 rfl _) rfl rfl hl.1 rfl (lv_room (Nat.le_of_ble_eq_true rfl)) dX12_among_11 ⟨Nat.le_of_ble_eq_true rfl, Nat.le_of_ble_eq_true rfl⟩) (fun H locs hI => ?_)
        refine lv_aload_n hx hb dX12_among_14 rfl (lv_at hl 1 rfl) ?_
        refine lv_iload_n hx hb dX12_among_15 rfl (lv_at hl 2 rfl) ?_
        obtain ⟨g14, h⟩ := hq_g h
        obtain ⟨v16, S15, g13, h⟩ := hq_bd2 h
        refine hq_calli hI (va_runV (As := [.int x2]) (rest := [.int v12]) ⟨hx, hb, hml, hown, hts⟩ (c_J0_charAt_5068e l D kA ρ HB S11 a1 x2 _ g13) (cwV 1 hts (gdIn (List.forall_mem_cons.mpr ⟨kw_1074, (List.forall_mem_cons.mpr ⟨kw_422, (List.forall_mem_cons.mpr ⟨kw_423, (List.forall_mem_cons.mpr ⟨kw_15, (fun _ h => absurd h List.not_mem_nil)⟩)⟩)⟩)⟩) kw_424) rfl rfl rfl ye_J0_charAt_5068e ⟨Nat.le_of_ble_eq_true rfl, Nat.le_of_ble_eq_true rfl⟩) (hq_preT hE h0 hI g14 _) rfl rfl hl.1 rfl (lv_room (Nat.le_of_ble_eq_true rfl)) dX12_among_16 ⟨Nat.le_of_ble_eq_true rfl, Nat.le_of_ble_eq_true rfl⟩) (fun H locs hI => ?_)
        refine lv_icmp_ne (tgt := 34) hx hb dX12_among_19 (by decide) (fun c17 => ?_) (fun c17 => ?_)
        · have h := hq_f h c17
          refine lv_iinc (v := (x2 + 1)) (lv' := [(2, .int (x2 + 1)), (0, .ref a0), (1, .ref a1)]) hx hb dX12_among_34 hl (k := 2) rfl rfl (by decide) rfl (fun ls hl => ?_)
          refine lv_goto (tgt := 2) hx hb dX12_among_37 (by decide) ?_
          exact ih2 (x2 + 1) S15 _ _ _ h hI (lv_sub hl [1, 2, 0] rfl)
        · have h := hq_t h c17
          refine lv_aload_n hx hb dX12_among_22 rfl (lv_at hl 0 rfl) ?_
          refine lv_dup hx hb dX12_among_23 rfl ?_
          obtain ⟨v18, g19, h⟩ := hq_bind h
          obtain ⟨fs_g19, hs_g19, hv_g19⟩ := gI_at g19
          refine hq_get hx hb hts hown hE hI hs_g19 inG12 rfl 5 (by decide) kw_949 hv_g19 dX12_among_24 ?_
          refine lv_iconst (v := 1) hx hb dX12_among_27 (by decide) ?_
          refine lv_iadd hx hb dX12_among_28 ?_
          obtain ⟨S20, g21, h⟩ := hq_bind h
          obtain ⟨fs_g21, hs_g21, hl_g21, e_g21⟩ := pV_at g21
          refine hq_put hx hb hts hown hE hI hs_g21 inG12 tyX12 tyX12_ok nmX12 rfl 5 (by decide) kw_949 rfl (v := .int (v18 + 1)) rfl rfl rfl hl_g21 e_g21 dX12_among_29 (fun H locs hI => ?_)
          refine lv_iload_n hx hb dX12_among_32 rfl (lv_at hl 2 rfl) ?_
          exact hq_iret hx hb hr hlocks h0 hI h dX12_among_33
  exact hL2 FU 0 S _ _ _ h hI (lv_sub hl [1, 2, 0] rfl)
abbrev w_X12_factor : List Cond := Cond.code yX12_factor cX12_factor 5 none :: lwG
theorem yd_X12_factor : yX12_factor.cls ≠ "java/lang/invoke/MethodHandle" ∧ yX12_factor.cls ≠ "java/lang/invoke/VarHandle" ∧ (parseMethodDescriptor yX12_factor.desc).map (fun d => d.parameters.length) = some 0 := by decide +kernel
theorem ye_X12_factor : yX12_factor.cls = RX12 ∧ yX12_factor.cls ≠ "java/lang/invoke/MethodHandle" ∧ yX12_factor.cls ≠ "java/lang/invoke/VarHandle" ∧ (parseMethodDescriptor yX12_factor.desc).map (fun d => d.parameters.length) = some 0 := by decide +kernel
