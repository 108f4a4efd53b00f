/-! TEST: printed by wip/whole/gen.py -/
-- RodDipsModel.in(III)Z
theorem dX12_in_0 : decode cX12_in 0 = .ok (.iload_n 0, 1) := by decide +kernel
theorem dX12_in_1 : decode cX12_in 1 = .ok (.iload_n 1, 1) := by decide +kernel
theorem dX12_in_2 : decode cX12_in 2 = .ok (.if_icmp .lt 12, 3) := by decide +kernel
theorem dX12_in_5 : decode cX12_in 5 = .ok (.iload_n 0, 1) := by decide +kernel
theorem dX12_in_6 : decode cX12_in 6 = .ok (.iload_n 2, 1) := by decide +kernel
theorem dX12_in_7 : decode cX12_in 7 = .ok (.if_icmp .gt 7, 3) := by decide +kernel
theorem dX12_in_10 : decode cX12_in 10 = .ok (.iconst 1, 1) := by decide +kernel
theorem dX12_in_11 : decode cX12_in 11 = .ok (.goto 4, 3) := by decide +kernel
theorem dX12_in_14 : decode cX12_in 14 = .ok (.iconst 0, 1) := by decide +kernel
theorem dX12_in_15 : decode cX12_in 15 = .ok (.ireturn, 1) := by decide +kernel
def f_X12_in (S : HSt) (a0 : Int32) (a1 : Int32) (a2 : Int32) : Option (Int32 × HSt) := if a0 < a1 then (some (0, S)) else (if a2 < a0 then (some (0, S)) else (some (1, S)))
abbrev rm_X12_in : Room := { frames := 0, cells := 0, slots := 0, locals := 0 }
abbrev w_X12_in : List Cond := Cond.code yX12_in cX12_in 3 (Option.some FieldType.boolean) :: lwG
theorem yd_X12_in : yX12_in.cls ≠ "java/lang/invoke/MethodHandle" ∧ yX12_in.cls ≠ "java/lang/invoke/VarHandle" ∧ (parseMethodDescriptor yX12_in.desc).map (fun d => d.parameters.length) = some 3 := by decide +kernel
set_option maxHeartbeats 4000000 in
set_option maxRecDepth 100000 in
theorem c_X12_in (l : Launch) (D : va_G) (kA ρ : Nat → Nat) (HB : Heap) (S : HSt) (a0 : Int32) (a1 : Int32) (a2 : Int32) (res : Int32 × HSt) (h : f_X12_in S a0 a1 a2 = some res) : Met l yX12_in w_X12_in rm_X12_in (hPc D kA ρ HB S [.int a0, .int a1, .int a2]) (hQi D kA HB S res) 0 0 (hFree HB) := by
  refine Met.ofW (cc := cX12_in) (maxL := 3) (ret := (Option.some FieldType.boolean)) (by decide) rfl ?_
  intro p e s m args below meth c s₁ B hml hv
  obtain ⟨rfl, hE, h0⟩ := hv
  have hx := B.exec
  have hb := B.bytes
  have hr := B.returns
  have hts0 := atoms_spec (ws := w_X12_in) B.pre
  have hts : ∀ w ∈ lwG, w.before _ s = true := fun w hw => hts0 w (List.mem_cons_of_mem _ hw)
  have hown : s.vm.findClass RX12 = some m.cls := findClass_of_methodNamed B.named
  have hlocks := B.notSynchronized
  have hI : hqX D kA HB S.2 S s.heap [] := ⟨h0, Nat.le_refl _, fun _ q => absurd q List.not_mem_nil⟩
  have hl := lv_entry ([.int a0, .int a1, .int a2]) (n := 3) (Nat.le_of_ble_eq_true rfl)
  rw [lg_entry_eq]
  generalize (lg_sl ([.int a0, .int a1, .int a2]) ++ List.replicate (3 - (lg_sl ([.int a0, .int a1, .int a2])).length) Slot.unset).toArray = ls at hl ⊢
  have hl : lv_has ls 3 [(0, .int a0), (1, .int a1), (2, .int a2)] := hl
  unfold f_X12_in at h
  refine lv_iload_n hx hb dX12_in_0 rfl (lv_at hl 0 rfl) ?_
  refine lv_iload_n hx hb dX12_in_1 rfl (lv_at hl 1 rfl) ?_
  refine lv_icmp_lt (tgt := 14) hx hb dX12_in_2 (by decide) (fun c1 => ?_) (fun c1 => ?_)
  · have h := hq_t h c1
    refine lv_iconst (v := 0) hx hb dX12_in_14 (by decide) ?_
    exact hq_zret hx hb hr hlocks h0 hI (by decide) h dX12_in_15
  · have h := hq_f h c1
    refine lv_iload_n hx hb dX12_in_5 rfl (lv_at hl 0 rfl) ?_
    refine lv_iload_n hx hb dX12_in_6 rfl (lv_at hl 2 rfl) ?_
    refine lv_icmp_gt (tgt := 14) hx hb dX12_in_7 (by decide) (fun c2 => ?_) (fun c2 => ?_)
    · have h := hq_t h c2
      refine lv_iconst (v := 0) hx hb dX12_in_14 (by decide) ?_
      exact hq_zret hx hb hr hlocks h0 hI (by decide) h dX12_in_15
    · have h := hq_f h c2
      refine lv_iconst (v := 1) hx hb dX12_in_10 (by decide) ?_
      refine lv_goto (tgt := 15) hx hb dX12_in_11 (by decide) ?_
      exact hq_zret hx hb hr hlocks h0 hI (by decide) h dX12_in_15
-- RodDipsModel.size(I)I
theorem dX12_size_0 : decode cX12_size 0 = .ok (.iload_n 0, 1) := by decide +kernel
theorem dX12_size_1 : decode cX12_size 1 = .ok (.ifCond .ge 8, 3) := by decide +kernel
theorem dX12_size_4 : decode cX12_size 4 = .ok (.iload_n 0, 1) := by decide +kernel
theorem dX12_size_5 : decode cX12_size 5 = .ok (.ineg, 1) := by decide +kernel
theorem dX12_size_6 : decode cX12_size 6 = .ok (.goto 4, 3) := by decide +kernel
theorem dX12_size_9 : decode cX12_size 9 = .ok (.iload_n 0, 1) := by decide +kernel
theorem dX12_size_10 : decode cX12_size 10 = .ok (.ireturn, 1) := by decide +kernel
def f_X12_size (S : HSt) (a0 : Int32) : Option (Int32 × HSt) := if 0 ≤ a0 then (some (a0, S)) else (some (-a0, S))
abbrev rm_X12_size : Room := { frames := 0, cells := 0, slots := 0, locals := 0 }
abbrev w_X12_size : List Cond := Cond.code yX12_size cX12_size 1 (Option.some FieldType.int) :: lwG
theorem yd_X12_size : yX12_size.cls ≠ "java/lang/invoke/MethodHandle" ∧ yX12_size.cls ≠ "java/lang/invoke/VarHandle" ∧ (parseMethodDescriptor yX12_size.desc).map (fun d => d.parameters.length) = some 1 := by decide +kernel
set_option maxHeartbeats 4000000 in
set_option maxRecDepth 100000 in
theorem c_X12_size (l : Launch) (D : va_G) (kA ρ : Nat → Nat) (HB : Heap) (S : HSt) (a0 : Int32) (res : Int32 × HSt) (h : f_X12_size S a0 = some res) : Met l yX12_size w_X12_size rm_X12_size (hPc D kA ρ HB S [.int a0]) (hQi D kA HB S res) 0 0 (hFree HB) := by
  refine Met.ofW (cc := cX12_size) (maxL := 1) (ret := (Option.some FieldType.int)) (by decide) rfl ?_
  intro p e s m args below meth c s₁ B hml hv
  obtain ⟨rfl, hE, h0⟩ := hv
  have hx := B.exec
  have hb := B.bytes
  have hr := B.returns
  have hts0 := atoms_spec (ws := w_X12_size) B.pre
  have hts : ∀ w ∈ lwG, w.before _ s = true := fun w hw => hts0 w (List.mem_cons_of_mem _ hw)
  have hown : s.vm.findClass RX12 = some m.cls := findClass_of_methodNamed B.named
  have hlocks := B.notSynchronized
  have hI : hqX D kA HB S.2 S s.heap [] := ⟨h0, Nat.le_refl _, fun _ q => absurd q List.not_mem_nil⟩
  have hl := lv_entry ([.int a0]) (n := 1) (Nat.le_of_ble_eq_true rfl)
  rw [lg_entry_eq]
  generalize (lg_sl ([.int a0]) ++ List.replicate (1 - (lg_sl ([.int a0])).length) Slot.unset).toArray = ls at hl ⊢
  have hl : lv_has ls 1 [(0, .int a0)] := hl
  unfold f_X12_size at h
  refine lv_iload_n hx hb dX12_size_0 rfl (lv_at hl 0 rfl) ?_
  refine lv_if_ge (tgt := 9) hx hb dX12_size_1 (by decide) (fun c1 => ?_) (fun c1 => ?_)
  · have h := hq_t h c1
    refine lv_iload_n hx hb dX12_size_9 rfl (lv_at hl 0 rfl) ?_
    exact hq_iret hx hb hr hlocks h0 hI h dX12_size_10
  · have h := hq_f h c1
    refine lv_iload_n hx hb dX12_size_4 rfl (lv_at hl 0 rfl) ?_
    refine lv_ineg hx hb dX12_size_5 ?_
    refine lv_goto (tgt := 10) hx hb dX12_size_6 (by decide) ?_
    exact hq_iret hx hb hr hlocks h0 hI h dX12_size_10
-- RodDipsModel.count1(I)I
theorem dX12_count1_0 : decode cX12_count1 0 = .ok (.iconst 0, 1) := by decide +kernel
theorem dX12_count1_1 : decode cX12_count1 1 = .ok (.istore_n 1, 1) := by decide +kernel
theorem dX12_count1_2 : decode cX12_count1 2 = .ok (.iconst 0, 1) := by decide +kernel
theorem dX12_count1_3 : decode cX12_count1 3 = .ok (.istore_n 2, 1) := by decide +kernel
theorem dX12_count1_4 : decode cX12_count1 4 = .ok (.iload_n 2, 1) := by decide +kernel
theorem dX12_count1_5 : decode cX12_count1 5 = .ok (.bipush 30, 2) := by decide +kernel
theorem dX12_count1_7 : decode cX12_count1 7 = .ok (.if_icmp .ge 17, 3) := by decide +kernel
theorem dX12_count1_10 : decode cX12_count1 10 = .ok (.iload_n 1, 1) := by decide +kernel
theorem dX12_count1_11 : decode cX12_count1 11 = .ok (.iload_n 0, 1) := by decide +kernel
theorem dX12_count1_12 : decode cX12_count1 12 = .ok (.iload_n 2, 1) := by decide +kernel
theorem dX12_count1_13 : decode cX12_count1 13 = .ok (.ishr, 1) := by decide +kernel
theorem dX12_count1_14 : decode cX12_count1 14 = .ok (.iconst 1, 1) := by decide +kernel
theorem dX12_count1_15 : decode cX12_count1 15 = .ok (.iand, 1) := by decide +kernel
theorem dX12_count1_16 : decode cX12_count1 16 = .ok (.iadd, 1) := by decide +kernel
theorem dX12_count1_17 : decode cX12_count1 17 = .ok (.istore_n 1, 1) := by decide +kernel
theorem dX12_count1_18 : decode cX12_count1 18 = .ok (.iinc 2 1, 3) := by decide +kernel
theorem dX12_count1_21 : decode cX12_count1 21 = .ok (.goto (-17), 3) := by decide +kernel
theorem dX12_count1_24 : decode cX12_count1 24 = .ok (.iload_n 1, 1) := by decide +kernel
theorem dX12_count1_25 : decode cX12_count1 25 = .ok (.ireturn, 1) := by decide +kernel
def f_X12_count1_K24 (x1 : Int32) (S2 : HSt) : Option (Int32 × HSt) := some (x1, S2)
def f_X12_count1_B4 (a0 : Int32) (kx24 : (Int32 → HSt → Option (Int32 × HSt))) (kb4 : (Int32 → Int32 → HSt → Option (Int32 × HSt))) (x3 : Int32) (x4 : Int32) (S5 : HSt) : Option (Int32 × HSt) := if 30 ≤ x4 then (kx24 x3 S5) else (kb4 (x3 + ((a0 >>> (x4 &&& 31)) &&& 1)) (x4 + 1) S5)
def f_X12_count1_L4 (a0 : Int32) (kx24 : (Int32 → HSt → Option (Int32 × HSt))) : Nat → Int32 → Int32 → HSt → Option (Int32 × HSt)
  | 0, _, _, _ => none
  | n + 1, x3, x4, S => f_X12_count1_B4 a0 kx24 (f_X12_count1_L4 a0 kx24 n) x3 x4 S
def f_X12_count1 (S : HSt) (a0 : Int32) : Option (Int32 × HSt) := (f_X12_count1_L4 a0 f_X12_count1_K24 FU) 0 0 S
abbrev rm_X12_count1 : Room := { frames := 0, cells := 0, slots := 0, locals := 0 }
abbrev w_X12_count1 : List Cond := Cond.code yX12_count1 cX12_count1 3 (Option.some FieldType.int) :: lwG
theorem yd_X12_count1 : yX12_count1.cls ≠ "java/lang/invoke/MethodHandle" ∧ yX12_count1.cls ≠ "java/lang/invoke/VarHandle" ∧ (parseMethodDescriptor yX12_count1.desc).map (fun d => d.parameters.length) = some 1 := by decide +kernel
set_option maxHeartbeats 4000000 in
set_option maxRecDepth 100000 in
theorem c_X12_count1 (l : Launch) (D : va_G) (kA ρ : Nat → Nat) (HB : Heap) (S : HSt) (a0 : Int32) (res : Int32 × HSt) (h : f_X12_count1 S a0 = some res) : Met l yX12_count1 w_X12_count1 rm_X12_count1 (hPc D kA ρ HB S [.int a0]) (hQi D kA HB S res) 0 0 (hFree HB) := by
  refine Met.ofW (cc := cX12_count1) (maxL := 3) (ret := (Option.some FieldType.int)) (by decide) rfl ?_
  intro p e s m args below meth c s₁ B hml hv
  obtain ⟨rfl, hE, h0⟩ := hv
  have hx := B.exec
  have hb := B.bytes
  have hr := B.returns
  have hts0 := atoms_spec (ws := w_X12_count1) B.pre
  have hts : ∀ w ∈ lwG, w.before _ s = true := fun w hw => hts0 w (List.mem_cons_of_mem _ hw)
  have hown : s.vm.findClass RX12 = some m.cls := findClass_of_methodNamed B.named
  have hlocks := B.notSynchronized
  have hI : hqX D kA HB S.2 S s.heap [] := ⟨h0, Nat.le_refl _, fun _ q => absurd q List.not_mem_nil⟩
  have hl := lv_entry ([.int a0]) (n := 3) (Nat.le_of_ble_eq_true rfl)
  rw [lg_entry_eq]
  generalize (lg_sl ([.int a0]) ++ List.replicate (3 - (lg_sl ([.int a0])).length) Slot.unset).toArray = ls at hl ⊢
  have hl : lv_has ls 3 [(0, .int a0)] := hl
  unfold f_X12_count1 at h
  refine lv_iconst (v := 0) hx hb dX12_count1_0 (by decide) ?_
  refine lv_istore_n (lv' := [(1, .int 0), (0, .int a0)]) hx hb dX12_count1_1 rfl hl (by decide) rfl (fun ls hl => ?_)
  refine lv_iconst (v := 0) hx hb dX12_count1_2 (by decide) ?_
  refine lv_istore_n (lv' := [(2, .int 0), (1, .int 0), (0, .int a0)]) hx hb dX12_count1_3 rfl hl (by decide) rfl (fun ls hl => ?_)
  have hK24 : ∀ (x1 : Int32) (S2 : HSt) (H : Heap) (locs : List Loc) (ls : Array Slot), f_X12_count1_K24 x1 S2 = some res → hqX D kA HB S.2 S2 H locs → lv_has ls 3 [(1, .int x1)] → W p l e rm_X12_count1 s m ([.int a0] : List Value).toArray below meth c H locs 0 0 (MQ below (hQi D kA HB S res) ([.int a0] : List Value).toArray s 0 0 (hFree HB)) (F0 m 24 ls []) := by
    intro x1 S2 H locs ls h hI hl
    unfold f_X12_count1_K24 at h
    refine lv_iload_n hx hb dX12_count1_24 rfl (lv_at hl 0 rfl) ?_
    exact hq_iret hx hb hr hlocks h0 hI h dX12_count1_25
  have hL4 : ∀ (n4 : Nat) (x3 : Int32) (x4 : Int32) (S5 : HSt) (H : Heap) (locs : List Loc) (ls : Array Slot), (f_X12_count1_L4 a0 f_X12_count1_K24 n4) x3 x4 S5 = some res → hqX D kA HB S.2 S5 H locs → lv_has ls 3 [(0, .int a0), (1, .int x3), (2, .int x4)] → W p l e rm_X12_count1 s m ([.int a0] : List Value).toArray below meth c H locs 0 0 (MQ below (hQi D kA HB S res) ([.int a0] : List Value).toArray s 0 0 (hFree HB)) (F0 m 4 ls []) := by
    intro n4
    induction n4 with
    | zero =>
      intro x3 x4 S5 H locs ls h
      have h : (none : Option (Int32 × HSt)) = some res := h
      cases h
    | succ n4 ih4 =>
      intro x3 x4 S5 H locs ls h hI hl
      have h : f_X12_count1_B4 a0 f_X12_count1_K24 (f_X12_count1_L4 a0 f_X12_count1_K24 n4) x3 x4 S5 = some res := h
      unfold f_X12_count1_B4 at h
      refine lv_iload_n hx hb dX12_count1_4 rfl (lv_at hl 2 rfl) ?_
      refine lv_bipush (v := 30) hx hb dX12_count1_5 (by decide) ?_
      refine lv_icmp_ge (tgt := 24) hx hb dX12_count1_7 (by decide) (fun c6 => ?_) (fun c6 => ?_)
      · have h := hq_t h c6
        exact hK24 x3 S5 _ _ _ h hI (lv_sub hl [1] rfl)
      · have h := hq_f h c6
        refine lv_iload_n hx hb dX12_count1_10 rfl (lv_at hl 1 rfl) ?_
        refine lv_iload_n hx hb dX12_count1_11 rfl (lv_at hl 0 rfl) ?_
        refine lv_iload_n hx hb dX12_count1_12 rfl (lv_at hl 2 rfl) ?_
        refine lv_ishr hx hb dX12_count1_13 ?_
        refine lv_iconst (v := 1) hx hb dX12_count1_14 (by decide) ?_
        refine lv_iand hx hb dX12_count1_15 ?_
        refine lv_iadd hx hb dX12_count1_16 ?_
        refine lv_istore_n (lv' := [(1, .int (x3 + ((a0 >>> (x4 &&& 31)) &&& 1))), (0, .int a0), (2, .int x4)]) hx hb dX12_count1_17 rfl hl (by decide) rfl (fun ls hl => ?_)
        refine lv_iinc (v := (x4 + 1)) (lv' := [(2, .int (x4 + 1)), (1, .int (x3 + ((a0 >>> (x4 &&& 31)) &&& 1))), (0, .int a0)]) hx hb dX12_count1_18 hl (k := 2) rfl rfl (by decide) rfl (fun ls hl => ?_)
        refine lv_goto (tgt := 4) hx hb dX12_count1_21 (by decide) ?_
        exact ih4 (x3 + ((a0 >>> (x4 &&& 31)) &&& 1)) (x4 + 1) S5 _ _ _ h hI (lv_sub hl [2, 1, 0] rfl)
  exact hL4 FU 0 0 S _ _ _ h hI (lv_sub hl [2, 1, 0] rfl)
-- RodDipsModel.isTry(I)Z
theorem dX12_isTry_0 : decode cX12_isTry 0 = .ok (.iload_n 1, 1) := by decide +kernel
theorem dX12_isTry_1 : decode cX12_isTry 1 = .ok (.iconst 0, 1) := by decide +kernel
theorem dX12_isTry_2 : decode cX12_isTry 2 = .ok (.aload_n 0, 1) := by decide +kernel
theorem dX12_isTry_3 : decode cX12_isTry 3 = .ok (.getfield 9, 3) := by decide +kernel
theorem dX12_isTry_6 : decode cX12_isTry 6 = .ok (.iconst 1, 1) := by decide +kernel
theorem dX12_isTry_7 : decode cX12_isTry 7 = .ok (.iaload, 1) := by decide +kernel
theorem dX12_isTry_8 : decode cX12_isTry 8 = .ok (.iconst 1, 1) := by decide +kernel
theorem dX12_isTry_9 : decode cX12_isTry 9 = .ok (.isub, 1) := by decide +kernel
theorem dX12_isTry_10 : decode cX12_isTry 10 = .ok (.invokestatic 39, 3) := by decide +kernel
theorem dX12_isTry_13 : decode cX12_isTry 13 = .ok (.ireturn, 1) := by decide +kernel
def f_X12_isTry (S : HSt) (a0 : Nat) (a1 : Int32) : Option (Int32 × HSt) := (gR S a0 12 1).bind fun b1 => (aI S b1 0 1).bind fun v4 => b2 (f_X12_in S a1 0 (v4 - 1)) fun v7 S6 => if v7 = 0 ∨ v7 = 1 then (some (v7, S6)) else none
abbrev rm_X12_isTry : Room := { frames := 1, cells := 0, slots := 0, locals := 22 }
abbrev w_X12_isTry : List Cond := Cond.code yX12_isTry cX12_isTry 2 (Option.some FieldType.boolean) :: lwG
theorem yd_X12_isTry : yX12_isTry.cls ≠ "java/lang/invoke/MethodHandle" ∧ yX12_isTry.cls ≠ "java/lang/invoke/VarHandle" ∧ (parseMethodDescriptor yX12_isTry.desc).map (fun d => d.parameters.length) = some 1 := by decide +kernel
theorem ye_X12_isTry : yX12_isTry.cls = RX12 ∧ yX12_isTry.cls ≠ "java/lang/invoke/MethodHandle" ∧ yX12_isTry.cls ≠ "java/lang/invoke/VarHandle" ∧ (parseMethodDescriptor yX12_isTry.desc).map (fun d => d.parameters.length) = some 1 := by decide +kernel
set_option maxHeartbeats 4000000 in
set_option maxRecDepth 100000 in
theorem c_X12_isTry (l : Launch) (D : va_G) (kA ρ : Nat → Nat) (HB : Heap) (S : HSt) (a0 : Nat) (a1 : Int32) (res : Int32 × HSt) (h : f_X12_isTry S a0 a1 = some res) : Met l yX12_isTry w_X12_isTry rm_X12_isTry (hPc D kA ρ HB S [.ref a0, .int a1]) (hQi D kA HB S res) 0 0 (hFree HB) := by
  refine Met.ofW (cc := cX12_isTry) (maxL := 2) (ret := (Option.some FieldType.boolean)) (by decide) rfl ?_
  intro p e s m args below meth c s₁ B hml hv
  obtain ⟨rfl, hE, h0⟩ := hv
  have hx := B.exec
  have hb := B.bytes
  have hr := B.returns
  have hts0 := atoms_spec (ws := w_X12_isTry) B.pre
  have hts : ∀ w ∈ lwG, w.before _ s = true := fun w hw => hts0 w (List.mem_cons_of_mem _ hw)
  have hown : s.vm.findClass RX12 = some m.cls := findClass_of_methodNamed B.named
  have hlocks := B.notSynchronized
  have hI : hqX D kA HB S.2 S s.heap [] := ⟨h0, Nat.le_refl _, fun _ q => absurd q List.not_mem_nil⟩
  have hl := lv_entry ([.ref a0, .int a1]) (n := 2) (Nat.le_of_ble_eq_true rfl)
  rw [lg_entry_eq]
  generalize (lg_sl ([.ref a0, .int a1]) ++ List.replicate (2 - (lg_sl ([.ref a0, .int a1])).length) Slot.unset).toArray = ls at hl ⊢
  have hl : lv_has ls 2 [(0, .ref a0), (1, .int a1)] := hl
  unfold f_X12_isTry at h
  refine lv_iload_n hx hb dX12_isTry_0 rfl (lv_at hl 1 rfl) ?_
  refine lv_iconst (v := 0) hx hb dX12_isTry_1 (by decide) ?_
  refine lv_aload_n hx hb dX12_isTry_2 rfl (lv_at hl 0 rfl) ?_
  obtain ⟨b1, g2, h⟩ := hq_bind h
  obtain ⟨fs_g2, hs_g2, hv_g2⟩ := gR_at g2
  refine hq_get hx hb hts hown hE hI hs_g2 inG12 rfl 1 (by decide) kw_948 hv_g2 dX12_isTry_3 ?_
  refine lv_iconst (v := 1) hx hb dX12_isTry_6 (by decide) ?_
  obtain ⟨v4, g3, h⟩ := hq_bind h
  refine hq_iald hx hb hE hI g3 dX12_isTry_7 ?_
  refine lv_iconst (v := 1) hx hb dX12_isTry_8 (by decide) ?_
  refine lv_isub hx hb dX12_isTry_9 ?_
  obtain ⟨v7, S6, g5, h⟩ := hq_b2 h
  refine hq_calli hI (va_runS (As := [.int a1, .int 0, .int (v4 - 1)]) (rest := []) ⟨hx, hb, hml, hown, hts⟩ (c_X12_in l D kA ρ HB S a1 0 (v4 - 1) _ g5) (va_cwS 3 hts (gdIn (List.forall_mem_cons.mpr ⟨kw_1013, (List.forall_mem_cons.mpr ⟨kw_1014, (List.forall_mem_cons.mpr ⟨kw_6, (fun _ h => absurd h List.not_mem_nil)⟩)⟩)⟩) kw_1015) rfl rfl rfl yd_X12_in ⟨Nat.le_of_ble_eq_true rfl, Nat.le_of_ble_eq_true rfl⟩) (hq_preS hE hI _) rfl rfl hl.1 rfl (lv_room (Nat.le_of_ble_eq_true rfl)) dX12_isTry_10 ⟨Nat.le_of_ble_eq_true rfl, Nat.le_of_ble_eq_true rfl⟩) (fun H locs hI => ?_)
  obtain ⟨c8, h⟩ := hq_g h
  exact hq_zret hx hb hr hlocks h0 hI c8 h dX12_isTry_13
-- RodDipsModel.isMan(I)Z
theorem dX12_isMan_0 : decode cX12_isMan 0 = .ok (.iload_n 0, 1) := by decide +kernel
theorem dX12_isMan_1 : decode cX12_isMan 1 = .ok (.iconst 0, 1) := by decide +kernel
theorem dX12_isMan_2 : decode cX12_isMan 2 = .ok (.iconst 5, 1) := by decide +kernel
theorem dX12_isMan_3 : decode cX12_isMan 3 = .ok (.invokestatic 39, 3) := by decide +kernel
theorem dX12_isMan_6 : decode cX12_isMan 6 = .ok (.ireturn, 1) := by decide +kernel
def f_X12_isMan (S : HSt) (a0 : Int32) : Option (Int32 × HSt) := b2 (f_X12_in S a0 0 5) fun v3 S2 => if v3 = 0 ∨ v3 = 1 then (some (v3, S2)) else none
abbrev rm_X12_isMan : Room := { frames := 1, cells := 0, slots := 0, locals := 22 }
abbrev w_X12_isMan : List Cond := Cond.code yX12_isMan cX12_isMan 1 (Option.some FieldType.boolean) :: lwG
theorem yd_X12_isMan : yX12_isMan.cls ≠ "java/lang/invoke/MethodHandle" ∧ yX12_isMan.cls ≠ "java/lang/invoke/VarHandle" ∧ (parseMethodDescriptor yX12_isMan.desc).map (fun d => d.parameters.length) = some 1 := by decide +kernel
set_option maxHeartbeats 4000000 in
set_option maxRecDepth 100000 in
theorem c_X12_isMan (l : Launch) (D : va_G) (kA ρ : Nat → Nat) (HB : Heap) (S : HSt) (a0 : Int32) (res : Int32 × HSt) (h : f_X12_isMan S a0 = some res) : Met l yX12_isMan w_X12_isMan rm_X12_isMan (hPc D kA ρ HB S [.int a0]) (hQi D kA HB S res) 0 0 (hFree HB) := by
  refine Met.ofW (cc := cX12_isMan) (maxL := 1) (ret := (Option.some FieldType.boolean)) (by decide) rfl ?_
  intro p e s m args below meth c s₁ B hml hv
  obtain ⟨rfl, hE, h0⟩ := hv
  have hx := B.exec
  have hb := B.bytes
  have hr := B.returns
  have hts0 := atoms_spec (ws := w_X12_isMan) B.pre
  have hts : ∀ w ∈ lwG, w.before _ s = true := fun w hw => hts0 w (List.mem_cons_of_mem _ hw)
  have hown : s.vm.findClass RX12 = some m.cls := findClass_of_methodNamed B.named
  have hlocks := B.notSynchronized
  have hI : hqX D kA HB S.2 S s.heap [] := ⟨h0, Nat.le_refl _, fun _ q => absurd q List.not_mem_nil⟩
  have hl := lv_entry ([.int a0]) (n := 1) (Nat.le_of_ble_eq_true rfl)
  rw [lg_entry_eq]
  generalize (lg_sl ([.int a0]) ++ List.replicate (1 - (lg_sl ([.int a0])).length) Slot.unset).toArray = ls at hl ⊢
  have hl : lv_has ls 1 [(0, .int a0)] := hl
  unfold f_X12_isMan at h
  refine lv_iload_n hx hb dX12_isMan_0 rfl (lv_at hl 0 rfl) ?_
  refine lv_iconst (v := 0) hx hb dX12_isMan_1 (by decide) ?_
  refine lv_iconst (v := 5) hx hb dX12_isMan_2 (by decide) ?_
  obtain ⟨v3, S2, g1, h⟩ := hq_b2 h
  refine hq_calli hI (va_runS (As := [.int a0, .int 0, .int 5]) (rest := []) ⟨hx, hb, hml, hown, hts⟩ (c_X12_in l D kA ρ HB S a0 0 5 _ g1) (va_cwS 3 hts (gdIn (List.forall_mem_cons.mpr ⟨kw_1013, (List.forall_mem_cons.mpr ⟨kw_1014, (List.forall_mem_cons.mpr ⟨kw_6, (fun _ h => absurd h List.not_mem_nil)⟩)⟩)⟩) kw_1015) rfl rfl rfl yd_X12_in ⟨Nat.le_of_ble_eq_true rfl, Nat.le_of_ble_eq_true rfl⟩) (hq_preS hE hI _) rfl rfl hl.1 rfl (lv_room (Nat.le_of_ble_eq_true rfl)) dX12_isMan_3 ⟨Nat.le_of_ble_eq_true rfl, Nat.le_of_ble_eq_true rfl⟩) (fun H locs hI => ?_)
  obtain ⟨c4, h⟩ := hq_g h
  exact hq_zret hx hb hr hlocks h0 hI c4 h dX12_isMan_6
-- RodDipsModel.isPlace(I)Z
theorem dX12_isPlace_0 : decode cX12_isPlace 0 = .ok (.iload_n 1, 1) := by decide +kernel
theorem dX12_isPlace_1 : decode cX12_isPlace 1 = .ok (.iconst 0, 1) := by decide +kernel
theorem dX12_isPlace_2 : decode cX12_isPlace 2 = .ok (.aload_n 0, 1) := by decide +kernel
theorem dX12_isPlace_3 : decode cX12_isPlace 3 = .ok (.getfield 9, 3) := by decide +kernel
theorem dX12_isPlace_6 : decode cX12_isPlace 6 = .ok (.iconst 0, 1) := by decide +kernel
theorem dX12_isPlace_7 : decode cX12_isPlace 7 = .ok (.iaload, 1) := by decide +kernel
theorem dX12_isPlace_8 : decode cX12_isPlace 8 = .ok (.iconst 1, 1) := by decide +kernel
theorem dX12_isPlace_9 : decode cX12_isPlace 9 = .ok (.isub, 1) := by decide +kernel
theorem dX12_isPlace_10 : decode cX12_isPlace 10 = .ok (.invokestatic 39, 3) := by decide +kernel
theorem dX12_isPlace_13 : decode cX12_isPlace 13 = .ok (.ireturn, 1) := by decide +kernel
def f_X12_isPlace (S : HSt) (a0 : Nat) (a1 : Int32) : Option (Int32 × HSt) := (gR S a0 12 1).bind fun b1 => (aI S b1 0 0).bind fun v4 => b2 (f_X12_in S a1 0 (v4 - 1)) fun v7 S6 => if v7 = 0 ∨ v7 = 1 then (some (v7, S6)) else none
abbrev rm_X12_isPlace : Room := { frames := 1, cells := 0, slots := 0, locals := 22 }
abbrev w_X12_isPlace : List Cond := Cond.code yX12_isPlace cX12_isPlace 2 (Option.some FieldType.boolean) :: lwG
theorem yd_X12_isPlace : yX12_isPlace.cls ≠ "java/lang/invoke/MethodHandle" ∧ yX12_isPlace.cls ≠ "java/lang/invoke/VarHandle" ∧ (parseMethodDescriptor yX12_isPlace.desc).map (fun d => d.parameters.length) = some 1 := by decide +kernel
theorem ye_X12_isPlace : yX12_isPlace.cls = RX12 ∧ yX12_isPlace.cls ≠ "java/lang/invoke/MethodHandle" ∧ yX12_isPlace.cls ≠ "java/lang/invoke/VarHandle" ∧ (parseMethodDescriptor yX12_isPlace.desc).map (fun d => d.parameters.length) = some 1 := by decide +kernel
set_option maxHeartbeats 4000000 in
set_option maxRecDepth 100000 in
theorem c_X12_isPlace (l : Launch) (D : va_G) (kA ρ : Nat → Nat) (HB : Heap) (S : HSt) (a0 : Nat) (a1 : Int32) (res : Int32 × HSt) (h : f_X12_isPlace S a0 a1 = some res) : Met l yX12_isPlace w_X12_isPlace rm_X12_isPlace (hPc D kA ρ HB S [.ref a0, .int a1]) (hQi D kA HB S res) 0 0 (hFree HB) := by
  refine Met.ofW (cc := cX12_isPlace) (maxL := 2) (ret := (Option.some FieldType.boolean)) (by decide) rfl ?_
  intro p e s m args below meth c s₁ B hml hv
  obtain ⟨rfl, hE, h0⟩ := hv
  have hx := B.exec
  have hb := B.bytes
  have hr := B.returns
  have hts0 := atoms_spec (ws := w_X12_isPlace) B.pre
  have hts : ∀ w ∈ lwG, w.before _ s = true := fun w hw => hts0 w (List.mem_cons_of_mem _ hw)
  have hown : s.vm.findClass RX12 = some m.cls := findClass_of_methodNamed B.named
  have hlocks := B.notSynchronized
  have hI : hqX D kA HB S.2 S s.heap [] := ⟨h0, Nat.le_refl _, fun _ q => absurd q List.not_mem_nil⟩
  have hl := lv_entry ([.ref a0, .int a1]) (n := 2) (Nat.le_of_ble_eq_true rfl)
  rw [lg_entry_eq]
  generalize (lg_sl ([.ref a0, .int a1]) ++ List.replicate (2 - (lg_sl ([.ref a0, .int a1])).length) Slot.unset).toArray = ls at hl ⊢
  have hl : lv_has ls 2 [(0, .ref a0), (1, .int a1)] := hl
  unfold f_X12_isPlace at h
  refine lv_iload_n hx hb dX12_isPlace_0 rfl (lv_at hl 1 rfl) ?_
  refine lv_iconst (v := 0) hx hb dX12_isPlace_1 (by decide) ?_
  refine lv_aload_n hx hb dX12_isPlace_2 rfl (lv_at hl 0 rfl) ?_
  obtain ⟨b1, g2, h⟩ := hq_bind h
  obtain ⟨fs_g2, hs_g2, hv_g2⟩ := gR_at g2
  refine hq_get hx hb hts hown hE hI hs_g2 inG12 rfl 1 (by decide) kw_948 hv_g2 dX12_isPlace_3 ?_
  refine lv_iconst (v := 0) hx hb dX12_isPlace_6 (by decide) ?_
  obtain ⟨v4, g3, h⟩ := hq_bind h
  refine hq_iald hx hb hE hI g3 dX12_isPlace_7 ?_
  refine lv_iconst (v := 1) hx hb dX12_isPlace_8 (by decide) ?_
  refine lv_isub hx hb dX12_isPlace_9 ?_
  obtain ⟨v7, S6, g5, h⟩ := hq_b2 h
  refine hq_calli hI (va_runS (As := [.int a1, .int 0, .int (v4 - 1)]) (rest := []) ⟨hx, hb, hml, hown, hts⟩ (c_X12_in l D kA ρ HB S a1 0 (v4 - 1) _ g5) (va_cwS 3 hts (gdIn (List.forall_mem_cons.mpr ⟨kw_1013, (List.forall_mem_cons.mpr ⟨kw_1014, (List.forall_mem_cons.mpr ⟨kw_6, (fun _ h => absurd h List.not_mem_nil)⟩)⟩)⟩) kw_1015) rfl rfl rfl yd_X12_in ⟨Nat.le_of_ble_eq_true rfl, Nat.le_of_ble_eq_true rfl⟩) (hq_preS hE hI _) rfl rfl hl.1 rfl (lv_room (Nat.le_of_ble_eq_true rfl)) dX12_isPlace_10 ⟨Nat.le_of_ble_eq_true rfl, Nat.le_of_ble_eq_true rfl⟩) (fun H locs hI => ?_)
  obtain ⟨c8, h⟩ := hq_g h
  exact hq_zret hx hb hr hlocks h0 hI c8 h dX12_isPlace_13
-- RodDipsModel.barn(I)I
theorem dX12_barn_0 : decode cX12_barn 0 = .ok (.iload_n 1, 1) := by decide +kernel
theorem dX12_barn_1 : decode cX12_barn 1 = .ok (.iconst 2, 1) := by decide +kernel
theorem dX12_barn_2 : decode cX12_barn 2 = .ok (.bipush 100, 2) := by decide +kernel
theorem dX12_barn_4 : decode cX12_barn 4 = .ok (.invokestatic 39, 3) := by decide +kernel
theorem dX12_barn_7 : decode cX12_barn 7 = .ok (.ifCond .ne 6, 3) := by decide +kernel
theorem dX12_barn_10 : decode cX12_barn 10 = .ok (.bipush (-2), 2) := by decide +kernel
theorem dX12_barn_12 : decode cX12_barn 12 = .ok (.ireturn, 1) := by decide +kernel
theorem dX12_barn_13 : decode cX12_barn 13 = .ok (.aload_n 0, 1) := by decide +kernel
theorem dX12_barn_14 : decode cX12_barn 14 = .ok (.getfield 9, 3) := by decide +kernel
theorem dX12_barn_17 : decode cX12_barn 17 = .ok (.iconst 1, 1) := by decide +kernel
theorem dX12_barn_18 : decode cX12_barn 18 = .ok (.iaload, 1) := by decide +kernel
theorem dX12_barn_19 : decode cX12_barn 19 = .ok (.ifCond .le 6, 3) := by decide +kernel
theorem dX12_barn_22 : decode cX12_barn 22 = .ok (.bipush (-3), 2) := by decide +kernel
theorem dX12_barn_24 : decode cX12_barn 24 = .ok (.ireturn, 1) := by decide +kernel
theorem dX12_barn_25 : decode cX12_barn 25 = .ok (.aload_n 0, 1) := by decide +kernel
theorem dX12_barn_26 : decode cX12_barn 26 = .ok (.getfield 9, 3) := by decide +kernel
theorem dX12_barn_29 : decode cX12_barn 29 = .ok (.iconst 0, 1) := by decide +kernel
theorem dX12_barn_30 : decode cX12_barn 30 = .ok (.iaload, 1) := by decide +kernel
theorem dX12_barn_31 : decode cX12_barn 31 = .ok (.istore_n 2, 1) := by decide +kernel
theorem dX12_barn_32 : decode cX12_barn 32 = .ok (.aload_n 0, 1) := by decide +kernel
theorem dX12_barn_33 : decode cX12_barn 33 = .ok (.getfield 9, 3) := by decide +kernel
theorem dX12_barn_36 : decode cX12_barn 36 = .ok (.iconst 0, 1) := by decide +kernel
theorem dX12_barn_37 : decode cX12_barn 37 = .ok (.iload_n 1, 1) := by decide +kernel
theorem dX12_barn_38 : decode cX12_barn 38 = .ok (.iastore, 1) := by decide +kernel
theorem dX12_barn_39 : decode cX12_barn 39 = .ok (.iload_n 2, 1) := by decide +kernel
theorem dX12_barn_40 : decode cX12_barn 40 = .ok (.ireturn, 1) := by decide +kernel
def f_X12_barn (S : HSt) (a0 : Nat) (a1 : Int32) : Option (Int32 × HSt) := b2 (f_X12_in S a1 2 100) fun v3 S2 => if v3 = 0 then (some ((-2), S2)) else ((gR S2 a0 12 1).bind fun b5 => (aI S2 b5 0 1).bind fun v8 => if v8 ≤ 0 then ((gR S2 a0 12 1).bind fun b10 => (aI S2 b10 0 0).bind fun v13 => (gR S2 a0 12 1).bind fun b14 => (sI S2 b14 0 0 a1).bind fun S17 => some (v13, S17)) else (some ((-3), S2)))
abbrev rm_X12_barn : Room := { frames := 1, cells := 0, slots := 0, locals := 22 }
abbrev w_X12_barn : List Cond := Cond.code yX12_barn cX12_barn 3 (Option.some FieldType.int) :: lwG
theorem yd_X12_barn : yX12_barn.cls ≠ "java/lang/invoke/MethodHandle" ∧ yX12_barn.cls ≠ "java/lang/invoke/VarHandle" ∧ (parseMethodDescriptor yX12_barn.desc).map (fun d => d.parameters.length) = some 1 := by decide +kernel
theorem ye_X12_barn : yX12_barn.cls = RX12 ∧ yX12_barn.cls ≠ "java/lang/invoke/MethodHandle" ∧ yX12_barn.cls ≠ "java/lang/invoke/VarHandle" ∧ (parseMethodDescriptor yX12_barn.desc).map (fun d => d.parameters.length) = some 1 := by decide +kernel
set_option maxHeartbeats 4000000 in
set_option maxRecDepth 100000 in
theorem c_X12_barn (l : Launch) (D : va_G) (kA ρ : Nat → Nat) (HB : Heap) (S : HSt) (a0 : Nat) (a1 : Int32) (res : Int32 × HSt) (h : f_X12_barn S a0 a1 = some res) : Met l yX12_barn w_X12_barn rm_X12_barn (hPc D kA ρ HB S [.ref a0, .int a1]) (hQi D kA HB S res) 0 0 (hFree HB) := by
  refine Met.ofW (cc := cX12_barn) (maxL := 3) (ret := (Option.some FieldType.int)) (by decide) rfl ?_
  intro p e s m args below meth c s₁ B hml hv
  obtain ⟨rfl, hE, h0⟩ := hv
  have hx := B.exec
  have hb := B.bytes
  have hr := B.returns
  have hts0 := atoms_spec (ws := w_X12_barn) B.pre
  have hts : ∀ w ∈ lwG, w.before _ s = true := fun w hw => hts0 w (List.mem_cons_of_mem _ hw)
  have hown : s.vm.findClass RX12 = some m.cls := findClass_of_methodNamed B.named
  have hlocks := B.notSynchronized
  have hI : hqX D kA HB S.2 S s.heap [] := ⟨h0, Nat.le_refl _, fun _ q => absurd q List.not_mem_nil⟩
  have hl := lv_entry ([.ref a0, .int a1]) (n := 3) (Nat.le_of_ble_eq_true rfl)
  rw [lg_entry_eq]
  generalize (lg_sl ([.ref a0, .int a1]) ++ List.replicate (3 - (lg_sl ([.ref a0, .int a1])).length) Slot.unset).toArray = ls at hl ⊢
  have hl : lv_has ls 3 [(0, .ref a0), (1, .int a1)] := hl
  unfold f_X12_barn at h
  refine lv_iload_n hx hb dX12_barn_0 rfl (lv_at hl 1 rfl) ?_
  refine lv_iconst (v := 2) hx hb dX12_barn_1 (by decide) ?_
  refine lv_bipush (v := 100) hx hb dX12_barn_2 (by decide) ?_
  obtain ⟨v3, S2, g1, h⟩ := hq_b2 h
  refine hq_calli hI (va_runS (As := [.int a1, .int 2, .int 100]) (rest := []) ⟨hx, hb, hml, hown, hts⟩ (c_X12_in l D kA ρ HB S a1 2 100 _ g1) (va_cwS 3 hts (gdIn (List.forall_mem_cons.mpr ⟨kw_1013, (List.forall_mem_cons.mpr ⟨kw_1014, (List.forall_mem_cons.mpr ⟨kw_6, (fun _ h => absurd h List.not_mem_nil)⟩)⟩)⟩) kw_1015) rfl rfl rfl yd_X12_in ⟨Nat.le_of_ble_eq_true rfl, Nat.le_of_ble_eq_true rfl⟩) (hq_preS hE hI _) rfl rfl hl.1 rfl (lv_room (Nat.le_of_ble_eq_true rfl)) dX12_barn_4 ⟨Nat.le_of_ble_eq_true rfl, Nat.le_of_ble_eq_true rfl⟩) (fun H locs hI => ?_)
  refine lv_if_ne (tgt := 13) hx hb dX12_barn_7 (by decide) (fun c4 => ?_) (fun c4 => ?_)
  · have h := hq_f h c4
    refine lv_aload_n hx hb dX12_barn_13 rfl (lv_at hl 0 rfl) ?_
    obtain ⟨b5, g6, h⟩ := hq_bind h
    obtain ⟨fs_g6, hs_g6, hv_g6⟩ := gR_at g6
    refine hq_get hx hb hts hown hE hI hs_g6 inG12 rfl 1 (by decide) kw_948 hv_g6 dX12_barn_14 ?_
    refine lv_iconst (v := 1) hx hb dX12_barn_17 (by decide) ?_
    obtain ⟨v8, g7, h⟩ := hq_bind h
    refine hq_iald hx hb hE hI g7 dX12_barn_18 ?_
    refine lv_if_le (tgt := 25) hx hb dX12_barn_19 (by decide) (fun c9 => ?_) (fun c9 => ?_)
    · have h := hq_t h c9
      refine lv_aload_n hx hb dX12_barn_25 rfl (lv_at hl 0 rfl) ?_
      obtain ⟨b10, g11, h⟩ := hq_bind h
      obtain ⟨fs_g11, hs_g11, hv_g11⟩ := gR_at g11
      refine hq_get hx hb hts hown hE hI hs_g11 inG12 rfl 1 (by decide) kw_948 hv_g11 dX12_barn_26 ?_
      refine lv_iconst (v := 0) hx hb dX12_barn_29 (by decide) ?_
      obtain ⟨v13, g12, h⟩ := hq_bind h
      refine hq_iald hx hb hE hI g12 dX12_barn_30 ?_
      refine lv_istore_n (lv' := [(2, .int v13), (0, .ref a0), (1, .int a1)]) hx hb dX12_barn_31 rfl hl (by decide) rfl (fun ls hl => ?_)
      refine lv_aload_n hx hb dX12_barn_32 rfl (lv_at hl 1 rfl) ?_
      obtain ⟨b14, g15, h⟩ := hq_bind h
      obtain ⟨fs_g15, hs_g15, hv_g15⟩ := gR_at g15
      refine hq_get hx hb hts hown hE hI hs_g15 inG12 rfl 1 (by decide) kw_948 hv_g15 dX12_barn_33 ?_
      refine lv_iconst (v := 0) hx hb dX12_barn_36 (by decide) ?_
      refine lv_iload_n hx hb dX12_barn_37 rfl (lv_at hl 2 rfl) ?_
      obtain ⟨S17, g16, h⟩ := hq_bind h
      refine hq_iast hx hb hE hI g16 dX12_barn_38 (fun H locs hI => ?_)
      refine lv_iload_n hx hb dX12_barn_39 rfl (lv_at hl 0 rfl) ?_
      exact hq_iret hx hb hr hlocks h0 hI h dX12_barn_40
    · have h := hq_f h c9
      refine lv_bipush (v := (-3)) hx hb dX12_barn_22 (by decide) ?_
      exact hq_iret hx hb hr hlocks h0 hI h dX12_barn_24
  · have h := hq_t h c4
    refine lv_bipush (v := (-2)) hx hb dX12_barn_10 (by decide) ?_
    exact hq_iret hx hb hr hlocks h0 hI h dX12_barn_12
-- RodDipsModel.tryout(IIIII)I
theorem dX12_tryout_0 : decode cX12_tryout 0 = .ok (.iload_n 1, 1) := by decide +kernel
theorem dX12_tryout_1 : decode cX12_tryout 1 = .ok (.invokestatic 43, 3) := by decide +kernel
theorem dX12_tryout_4 : decode cX12_tryout 4 = .ok (.ifCond .eq 31, 3) := by decide +kernel
theorem dX12_tryout_7 : decode cX12_tryout 7 = .ok (.iload_n 3, 1) := by decide +kernel
theorem dX12_tryout_8 : decode cX12_tryout 8 = .ok (.iconst 0, 1) := by decide +kernel
theorem dX12_tryout_9 : decode cX12_tryout 9 = .ok (.bipush 6, 2) := by decide +kernel
theorem dX12_tryout_11 : decode cX12_tryout 11 = .ok (.invokestatic 39, 3) := by decide +kernel
theorem dX12_tryout_14 : decode cX12_tryout 14 = .ok (.ifCond .eq 21, 3) := by decide +kernel
theorem dX12_tryout_17 : decode cX12_tryout 17 = .ok (.aload_n 0, 1) := by decide +kernel
theorem dX12_tryout_18 : decode cX12_tryout 18 = .ok (.iload 4, 2) := by decide +kernel
theorem dX12_tryout_20 : decode cX12_tryout 20 = .ok (.invokevirtual 47, 3) := by decide +kernel
theorem dX12_tryout_23 : decode cX12_tryout 23 = .ok (.ifCond .eq 12, 3) := by decide +kernel
theorem dX12_tryout_26 : decode cX12_tryout 26 = .ok (.aload_n 0, 1) := by decide +kernel
theorem dX12_tryout_27 : decode cX12_tryout 27 = .ok (.iload 5, 2) := by decide +kernel
theorem dX12_tryout_29 : decode cX12_tryout 29 = .ok (.invokevirtual 47, 3) := by decide +kernel
theorem dX12_tryout_32 : decode cX12_tryout 32 = .ok (.ifCond .ne 5, 3) := by decide +kernel
theorem dX12_tryout_35 : decode cX12_tryout 35 = .ok (.iconst (-1), 1) := by decide +kernel
theorem dX12_tryout_36 : decode cX12_tryout 36 = .ok (.ireturn, 1) := by decide +kernel
theorem dX12_tryout_37 : decode cX12_tryout 37 = .ok (.iload_n 2, 1) := by decide +kernel
theorem dX12_tryout_38 : decode cX12_tryout 38 = .ok (.iconst 0, 1) := by decide +kernel
theorem dX12_tryout_39 : decode cX12_tryout 39 = .ok (.bipush 99, 2) := by decide +kernel
theorem dX12_tryout_41 : decode cX12_tryout 41 = .ok (.invokestatic 39, 3) := by decide +kernel
theorem dX12_tryout_44 : decode cX12_tryout 44 = .ok (.ifCond .ne 6, 3) := by decide +kernel
theorem dX12_tryout_47 : decode cX12_tryout 47 = .ok (.bipush (-2), 2) := by decide +kernel
theorem dX12_tryout_49 : decode cX12_tryout 49 = .ok (.ireturn, 1) := by decide +kernel
theorem dX12_tryout_50 : decode cX12_tryout 50 = .ok (.aload_n 0, 1) := by decide +kernel
theorem dX12_tryout_51 : decode cX12_tryout 51 = .ok (.getfield 9, 3) := by decide +kernel
theorem dX12_tryout_54 : decode cX12_tryout 54 = .ok (.iconst 1, 1) := by decide +kernel
theorem dX12_tryout_55 : decode cX12_tryout 55 = .ok (.iaload, 1) := by decide +kernel
theorem dX12_tryout_56 : decode cX12_tryout 56 = .ok (.bipush 30, 2) := by decide +kernel
theorem dX12_tryout_58 : decode cX12_tryout 58 = .ok (.if_icmp .ne 6, 3) := by decide +kernel
theorem dX12_tryout_61 : decode cX12_tryout 61 = .ok (.bipush (-4), 2) := by decide +kernel
theorem dX12_tryout_63 : decode cX12_tryout 63 = .ok (.ireturn, 1) := by decide +kernel
theorem dX12_tryout_64 : decode cX12_tryout 64 = .ok (.aload_n 0, 1) := by decide +kernel
theorem dX12_tryout_65 : decode cX12_tryout 65 = .ok (.getfield 9, 3) := by decide +kernel
theorem dX12_tryout_68 : decode cX12_tryout 68 = .ok (.iconst 1, 1) := by decide +kernel
theorem dX12_tryout_69 : decode cX12_tryout 69 = .ok (.iaload, 1) := by decide +kernel
theorem dX12_tryout_70 : decode cX12_tryout 70 = .ok (.istore 6, 2) := by decide +kernel
theorem dX12_tryout_72 : decode cX12_tryout 72 = .ok (.aload_n 0, 1) := by decide +kernel
theorem dX12_tryout_73 : decode cX12_tryout 73 = .ok (.getfield 9, 3) := by decide +kernel
theorem dX12_tryout_76 : decode cX12_tryout 76 = .ok (.sipush 130, 3) := by decide +kernel
theorem dX12_tryout_79 : decode cX12_tryout 79 = .ok (.iload 6, 2) := by decide +kernel
theorem dX12_tryout_81 : decode cX12_tryout 81 = .ok (.iadd, 1) := by decide +kernel
theorem dX12_tryout_82 : decode cX12_tryout 82 = .ok (.iload_n 1, 1) := by decide +kernel
theorem dX12_tryout_83 : decode cX12_tryout 83 = .ok (.iastore, 1) := by decide +kernel
theorem dX12_tryout_84 : decode cX12_tryout 84 = .ok (.aload_n 0, 1) := by decide +kernel
theorem dX12_tryout_85 : decode cX12_tryout 85 = .ok (.getfield 9, 3) := by decide +kernel
theorem dX12_tryout_88 : decode cX12_tryout 88 = .ok (.sipush 160, 3) := by decide +kernel
theorem dX12_tryout_91 : decode cX12_tryout 91 = .ok (.iload 6, 2) := by decide +kernel
theorem dX12_tryout_93 : decode cX12_tryout 93 = .ok (.iadd, 1) := by decide +kernel
theorem dX12_tryout_94 : decode cX12_tryout 94 = .ok (.iload_n 2, 1) := by decide +kernel
theorem dX12_tryout_95 : decode cX12_tryout 95 = .ok (.iastore, 1) := by decide +kernel
theorem dX12_tryout_96 : decode cX12_tryout 96 = .ok (.aload_n 0, 1) := by decide +kernel
theorem dX12_tryout_97 : decode cX12_tryout 97 = .ok (.getfield 9, 3) := by decide +kernel
theorem dX12_tryout_100 : decode cX12_tryout 100 = .ok (.sipush 190, 3) := by decide +kernel
theorem dX12_tryout_103 : decode cX12_tryout 103 = .ok (.iload 6, 2) := by decide +kernel
theorem dX12_tryout_105 : decode cX12_tryout 105 = .ok (.iadd, 1) := by decide +kernel
theorem dX12_tryout_106 : decode cX12_tryout 106 = .ok (.iload_n 3, 1) := by decide +kernel
theorem dX12_tryout_107 : decode cX12_tryout 107 = .ok (.iastore, 1) := by decide +kernel
theorem dX12_tryout_108 : decode cX12_tryout 108 = .ok (.aload_n 0, 1) := by decide +kernel
theorem dX12_tryout_109 : decode cX12_tryout 109 = .ok (.getfield 9, 3) := by decide +kernel
theorem dX12_tryout_112 : decode cX12_tryout 112 = .ok (.sipush 220, 3) := by decide +kernel
theorem dX12_tryout_115 : decode cX12_tryout 115 = .ok (.iload 6, 2) := by decide +kernel
theorem dX12_tryout_117 : decode cX12_tryout 117 = .ok (.iadd, 1) := by decide +kernel
theorem dX12_tryout_118 : decode cX12_tryout 118 = .ok (.iload 4, 2) := by decide +kernel
theorem dX12_tryout_120 : decode cX12_tryout 120 = .ok (.iastore, 1) := by decide +kernel
theorem dX12_tryout_121 : decode cX12_tryout 121 = .ok (.aload_n 0, 1) := by decide +kernel
theorem dX12_tryout_122 : decode cX12_tryout 122 = .ok (.getfield 9, 3) := by decide +kernel
theorem dX12_tryout_125 : decode cX12_tryout 125 = .ok (.sipush 250, 3) := by decide +kernel
theorem dX12_tryout_128 : decode cX12_tryout 128 = .ok (.iload 6, 2) := by decide +kernel
theorem dX12_tryout_130 : decode cX12_tryout 130 = .ok (.iadd, 1) := by decide +kernel
theorem dX12_tryout_131 : decode cX12_tryout 131 = .ok (.iload 5, 2) := by decide +kernel
theorem dX12_tryout_133 : decode cX12_tryout 133 = .ok (.iastore, 1) := by decide +kernel
theorem dX12_tryout_134 : decode cX12_tryout 134 = .ok (.aload_n 0, 1) := by decide +kernel
theorem dX12_tryout_135 : decode cX12_tryout 135 = .ok (.getfield 9, 3) := by decide +kernel
theorem dX12_tryout_138 : decode cX12_tryout 138 = .ok (.sipush 280, 3) := by decide +kernel
theorem dX12_tryout_141 : decode cX12_tryout 141 = .ok (.iload 6, 2) := by decide +kernel
theorem dX12_tryout_143 : decode cX12_tryout 143 = .ok (.iadd, 1) := by decide +kernel
theorem dX12_tryout_144 : decode cX12_tryout 144 = .ok (.iconst 0, 1) := by decide +kernel
theorem dX12_tryout_145 : decode cX12_tryout 145 = .ok (.iastore, 1) := by decide +kernel
theorem dX12_tryout_146 : decode cX12_tryout 146 = .ok (.aload_n 0, 1) := by decide +kernel
theorem dX12_tryout_147 : decode cX12_tryout 147 = .ok (.getfield 9, 3) := by decide +kernel
theorem dX12_tryout_150 : decode cX12_tryout 150 = .ok (.iconst 1, 1) := by decide +kernel
theorem dX12_tryout_151 : decode cX12_tryout 151 = .ok (.dup2, 1) := by decide +kernel
theorem dX12_tryout_152 : decode cX12_tryout 152 = .ok (.iaload, 1) := by decide +kernel
theorem dX12_tryout_153 : decode cX12_tryout 153 = .ok (.iconst 1, 1) := by decide +kernel
theorem dX12_tryout_154 : decode cX12_tryout 154 = .ok (.iadd, 1) := by decide +kernel
theorem dX12_tryout_155 : decode cX12_tryout 155 = .ok (.iastore, 1) := by decide +kernel
theorem dX12_tryout_156 : decode cX12_tryout 156 = .ok (.iload 6, 2) := by decide +kernel
theorem dX12_tryout_158 : decode cX12_tryout 158 = .ok (.ireturn, 1) := by decide +kernel
def f_X12_tryout (S : HSt) (a0 : Nat) (a1 : Int32) (a2 : Int32) (a3 : Int32) (a4 : Int32) (a5 : Int32) : Option (Int32 × HSt) := b2 (f_X12_isMan S a1) fun v3 S2 => if v3 = 0 then (some ((-1), S2)) else (b2 (f_X12_in S2 a3 0 6) fun v7 S6 => if v7 = 0 then (some ((-1), S6)) else (if gC S6 a0 = some 12 then (b2 (f_X12_isPlace S6 a0 a4) fun v12 S11 => if v12 = 0 then (some ((-1), S11)) else (if gC S11 a0 = some 12 then (b2 (f_X12_isPlace S11 a0 a5) fun v17 S16 => if v17 = 0 then (some ((-1), S16)) else (b2 (f_X12_in S16 a2 0 99) fun v21 S20 => if v21 = 0 then (some ((-2), S20)) else ((gR S20 a0 12 1).bind fun b23 => (aI S20 b23 0 1).bind fun v26 => if v26 = 30 then (some ((-4), S20)) else ((gR S20 a0 12 1).bind fun b28 => (aI S20 b28 0 1).bind fun v31 => (gR S20 a0 12 1).bind fun b32 => (sI S20 b32 0 (130 + v31) a1).bind fun S35 => (gR S35 a0 12 1).bind fun b36 => (sI S35 b36 0 (160 + v31) a2).bind fun S39 => (gR S39 a0 12 1).bind fun b40 => (sI S39 b40 0 (190 + v31) a3).bind fun S43 => (gR S43 a0 12 1).bind fun b44 => (sI S43 b44 0 (220 + v31) a4).bind fun S47 => (gR S47 a0 12 1).bind fun b48 => (sI S47 b48 0 (250 + v31) a5).bind fun S51 => (gR S51 a0 12 1).bind fun b52 => (sI S51 b52 0 (280 + v31) 0).bind fun S55 => (gR S55 a0 12 1).bind fun b56 => (aI S55 b56 0 1).bind fun v59 => (sI S55 b56 0 1 (v59 + 1)).bind fun S61 => some (v31, S61))))) else none)) else none))
abbrev rm_X12_tryout : Room := { frames := 2, cells := 0, slots := 0, locals := 43 }
abbrev w_X12_tryout : List Cond := Cond.code yX12_tryout cX12_tryout 7 (Option.some FieldType.int) :: lwG
theorem yd_X12_tryout : yX12_tryout.cls ≠ "java/lang/invoke/MethodHandle" ∧ yX12_tryout.cls ≠ "java/lang/invoke/VarHandle" ∧ (parseMethodDescriptor yX12_tryout.desc).map (fun d => d.parameters.length) = some 5 := by decide +kernel
theorem ye_X12_tryout : yX12_tryout.cls = RX12 ∧ yX12_tryout.cls ≠ "java/lang/invoke/MethodHandle" ∧ yX12_tryout.cls ≠ "java/lang/invoke/VarHandle" ∧ (parseMethodDescriptor yX12_tryout.desc).map (fun d => d.parameters.length) = some 5 := by decide +kernel
set_option maxHeartbeats 4000000 in
set_option maxRecDepth 100000 in
theorem c_X12_tryout (l : Launch) (D : va_G) (kA ρ : Nat → Nat) (HB : Heap) (S : HSt) (a0 : Nat) (a1 : Int32) (a2 : Int32) (a3 : Int32) (a4 : Int32) (a5 : Int32) (res : Int32 × HSt) (h : f_X12_tryout S a0 a1 a2 a3 a4 a5 = some res) : Met l yX12_tryout w_X12_tryout rm_X12_tryout (hPc D kA ρ HB S [.ref a0, .int a1, .int a2, .int a3, .int a4, .int a5]) (hQi D kA HB S res) 0 0 (hFree HB) := by
  refine Met.ofW (cc := cX12_tryout) (maxL := 7) (ret := (Option.some FieldType.int)) (by decide) rfl ?_
  intro p e s m args below meth c s₁ B hml hv
  obtain ⟨rfl, hE, h0⟩ := hv
  have hx := B.exec
  have hb := B.bytes
  have hr := B.returns
  have hts0 := atoms_spec (ws := w_X12_tryout) B.pre
  have hts : ∀ w ∈ lwG, w.before _ s = true := fun w hw => hts0 w (List.mem_cons_of_mem _ hw)
  have hown : s.vm.findClass RX12 = some m.cls := findClass_of_methodNamed B.named
  have hlocks := B.notSynchronized
  have hI : hqX D kA HB S.2 S s.heap [] := ⟨h0, Nat.le_refl _, fun _ q => absurd q List.not_mem_nil⟩
  have hl := lv_entry ([.ref a0, .int a1, .int a2, .int a3, .int a4, .int a5]) (n := 7) (Nat.le_of_ble_eq_true rfl)
  rw [lg_entry_eq]
  generalize (lg_sl ([.ref a0, .int a1, .int a2, .int a3, .int a4, .int a5]) ++ List.replicate (7 - (lg_sl ([.ref a0, .int a1, .int a2, .int a3, .int a4, .int a5])).length) Slot.unset).toArray = ls at hl ⊢
  have hl : lv_has ls 7 [(0, .ref a0), (1, .int a1), (2, .int a2), (3, .int a3), (4, .int a4), (5, .int a5)] := hl
  unfold f_X12_tryout at h
  refine lv_iload_n hx hb dX12_tryout_0 rfl (lv_at hl 1 rfl) ?_
  obtain ⟨v3, S2, g1, h⟩ := hq_b2 h
  refine hq_calli hI (va_runS (As := [.int a1]) (rest := []) ⟨hx, hb, hml, hown, hts⟩ (c_X12_isMan l D kA ρ HB S a1 _ g1) (va_cwS 1 hts (gdIn (List.forall_mem_cons.mpr ⟨kw_1020, (List.forall_mem_cons.mpr ⟨kw_1021, (List.forall_mem_cons.mpr ⟨kw_6, (fun _ h => absurd h List.not_mem_nil)⟩)⟩)⟩) kw_1022) rfl rfl rfl yd_X12_isMan ⟨Nat.le_of_ble_eq_true rfl, Nat.le_of_ble_eq_true rfl⟩) (hq_preS hE hI _) rfl rfl hl.1 rfl (lv_room (Nat.le_of_ble_eq_true rfl)) dX12_tryout_1 ⟨Nat.le_of_ble_eq_true rfl, Nat.le_of_ble_eq_true rfl⟩) (fun H locs hI => ?_)
  refine lv_if_eq (tgt := 35) hx hb dX12_tryout_4 (by decide) (fun c4 => ?_) (fun c4 => ?_)
  · have h := hq_t h c4
    refine lv_iconst (v := (-1)) hx hb dX12_tryout_35 (by decide) ?_
    exact hq_iret hx hb hr hlocks h0 hI h dX12_tryout_36
  · have h := hq_f h c4
    refine lv_iload_n hx hb dX12_tryout_7 rfl (lv_at hl 3 rfl) ?_
    refine lv_iconst (v := 0) hx hb dX12_tryout_8 (by decide) ?_
    refine lv_bipush (v := 6) hx hb dX12_tryout_9 (by decide) ?_
    obtain ⟨v7, S6, g5, h⟩ := hq_b2 h
    refine hq_calli hI (va_runS (As := [.int a3, .int 0, .int 6]) (rest := []) ⟨hx, hb, hml, hown, hts⟩ (c_X12_in l D kA ρ HB S2 a3 0 6 _ g5) (va_cwS 3 hts (gdIn (List.forall_mem_cons.mpr ⟨kw_1013, (List.forall_mem_cons.mpr ⟨kw_1014, (List.forall_mem_cons.mpr ⟨kw_6, (fun _ h => absurd h List.not_mem_nil)⟩)⟩)⟩) kw_1015) rfl rfl rfl yd_X12_in ⟨Nat.le_of_ble_eq_true rfl, Nat.le_of_ble_eq_true rfl⟩) (hq_preS hE hI _) rfl rfl hl.1 rfl (lv_room (Nat.le_of_ble_eq_true rfl)) dX12_tryout_11 ⟨Nat.le_of_ble_eq_true rfl, Nat.le_of_ble_eq_true rfl⟩) (fun H locs hI => ?_)
    refine lv_if_eq (tgt := 35) hx hb dX12_tryout_14 (by decide) (fun c8 => ?_) (fun c8 => ?_)
    · have h := hq_t h c8
      refine lv_iconst (v := (-1)) hx hb dX12_tryout_35 (by decide) ?_
      exact hq_iret hx hb hr hlocks h0 hI h dX12_tryout_36
    · have h := hq_f h c8
      refine lv_aload_n hx hb dX12_tryout_17 rfl (lv_at hl 0 rfl) ?_
      refine lv_iload hx hb dX12_tryout_18 (lv_at hl 4 rfl) ?_
      obtain ⟨g10, h⟩ := hq_g h
      obtain ⟨v12, S11, g9, h⟩ := hq_b2 h
      refine hq_calli hI (va_runV (As := [.int a4]) (rest := []) ⟨hx, hb, hml, hown, hts⟩ (c_X12_isPlace l D kA ρ HB S6 a0 a4 _ g9) (cwV 1 hts (gdIn (List.forall_mem_cons.mpr ⟨kw_1023, (List.forall_mem_cons.mpr ⟨kw_1025, (List.forall_mem_cons.mpr ⟨ks_30, (List.forall_mem_cons.mpr ⟨kw_6, (fun _ h => absurd h List.not_mem_nil)⟩)⟩)⟩)⟩) kw_1026) rfl rfl rfl ye_X12_isPlace ⟨Nat.le_of_ble_eq_true rfl, Nat.le_of_ble_eq_true rfl⟩) (hq_preC hE hI g10 rfl _) rfl rfl hl.1 rfl (lv_room (Nat.le_of_ble_eq_true rfl)) dX12_tryout_20 ⟨Nat.le_of_ble_eq_true rfl, Nat.le_of_ble_eq_true rfl⟩) (fun H locs hI => ?_)
      refine lv_if_eq (tgt := 35) hx hb dX12_tryout_23 (by decide) (fun c13 => ?_) (fun c13 => ?_)
      · have h := hq_t h c13
        refine lv_iconst (v := (-1)) hx hb dX12_tryout_35 (by decide) ?_
        exact hq_iret hx hb hr hlocks h0 hI h dX12_tryout_36
      · have h := hq_f h c13
        refine lv_aload_n hx hb dX12_tryout_26 rfl (lv_at hl 0 rfl) ?_
        refine lv_iload hx hb dX12_tryout_27 (lv_at hl 5 rfl) ?_
        obtain ⟨g15, h⟩ := hq_g h
        obtain ⟨v17, S16, g14, h⟩ := hq_b2 h
        refine hq_calli hI (va_runV (As := [.int a5]) (rest := []) ⟨hx, hb, hml, hown, hts⟩ (c_X12_isPlace l D kA ρ HB S11 a0 a5 _ g14) (cwV 1 hts (gdIn (List.forall_mem_cons.mpr ⟨kw_1023, (List.forall_mem_cons.mpr ⟨kw_1025, (List.forall_mem_cons.mpr ⟨ks_30, (List.forall_mem_cons.mpr ⟨kw_6, (fun _ h => absurd h List.not_mem_nil)⟩)⟩)⟩)⟩) kw_1026) rfl rfl rfl ye_X12_isPlace ⟨Nat.le_of_ble_eq_true rfl, Nat.le_of_ble_eq_true rfl⟩) (hq_preC hE hI g15 rfl _) rfl rfl hl.1 rfl (lv_room (Nat.le_of_ble_eq_true rfl)) dX12_tryout_29 ⟨Nat.le_of_ble_eq_true rfl, Nat.le_of_ble_eq_true rfl⟩) (fun H locs hI => ?_)
        refine lv_if_ne (tgt := 37) hx hb dX12_tryout_32 (by decide) (fun c18 => ?_) (fun c18 => ?_)
        · have h := hq_f h c18
          refine lv_iload_n hx hb dX12_tryout_37 rfl (lv_at hl 2 rfl) ?_
          refine lv_iconst (v := 0) hx hb dX12_tryout_38 (by decide) ?_
          refine lv_bipush (v := 99) hx hb dX12_tryout_39 (by decide) ?_
          obtain ⟨v21, S20, g19, h⟩ := hq_b2 h
          refine hq_calli hI (va_runS (As := [.int a2, .int 0, .int 99]) (rest := []) ⟨hx, hb, hml, hown, hts⟩ (c_X12_in l D kA ρ HB S16 a2 0 99 _ g19) (va_cwS 3 hts (gdIn (List.forall_mem_cons.mpr ⟨kw_1013, (List.forall_mem_cons.mpr ⟨kw_1014, (List.forall_mem_cons.mpr ⟨kw_6, (fun _ h => absurd h List.not_mem_nil)⟩)⟩)⟩) kw_1015) rfl rfl rfl yd_X12_in ⟨Nat.le_of_ble_eq_true rfl, Nat.le_of_ble_eq_true rfl⟩) (hq_preS hE hI _) rfl rfl hl.1 rfl (lv_room (Nat.le_of_ble_eq_true rfl)) dX12_tryout_41 ⟨Nat.le_of_ble_eq_true rfl, Nat.le_of_ble_eq_true rfl⟩) (fun H locs hI => ?_)
          refine lv_if_ne (tgt := 50) hx hb dX12_tryout_44 (by decide) (fun c22 => ?_) (fun c22 => ?_)
          · have h := hq_f h c22
            refine lv_aload_n hx hb dX12_tryout_50 rfl (lv_at hl 0 rfl) ?_
            obtain ⟨b23, g24, h⟩ := hq_bind h
            obtain ⟨fs_g24, hs_g24, hv_g24⟩ := gR_at g24
            refine hq_get hx hb hts hown hE hI hs_g24 inG12 rfl 1 (by decide) kw_948 hv_g24 dX12_tryout_51 ?_
            refine lv_iconst (v := 1) hx hb dX12_tryout_54 (by decide) ?_
            obtain ⟨v26, g25, h⟩ := hq_bind h
            refine hq_iald hx hb hE hI g25 dX12_tryout_55 ?_
            refine lv_bipush (v := 30) hx hb dX12_tryout_56 (by decide) ?_
            refine lv_icmp_ne (tgt := 64) hx hb dX12_tryout_58 (by decide) (fun c27 => ?_) (fun c27 => ?_)
            · have h := hq_f h c27
              refine lv_aload_n hx hb dX12_tryout_64 rfl (lv_at hl 0 rfl) ?_
              obtain ⟨b28, g29, h⟩ := hq_bind h
              obtain ⟨fs_g29, hs_g29, hv_g29⟩ := gR_at g29
              refine hq_get hx hb hts hown hE hI hs_g29 inG12 rfl 1 (by decide) kw_948 hv_g29 dX12_tryout_65 ?_
              refine lv_iconst (v := 1) hx hb dX12_tryout_68 (by decide) ?_
              obtain ⟨v31, g30, h⟩ := hq_bind h
              refine hq_iald hx hb hE hI g30 dX12_tryout_69 ?_
              refine lv_istore (lv' := [(6, .int v31), (0, .ref a0), (1, .int a1), (2, .int a2), (3, .int a3), (4, .int a4), (5, .int a5)]) hx hb dX12_tryout_70 hl (by decide) rfl (fun ls hl => ?_)
              refine lv_aload_n hx hb dX12_tryout_72 rfl (lv_at hl 1 rfl) ?_
              obtain ⟨b32, g33, h⟩ := hq_bind h
              obtain ⟨fs_g33, hs_g33, hv_g33⟩ := gR_at g33
              refine hq_get hx hb hts hown hE hI hs_g33 inG12 rfl 1 (by decide) kw_948 hv_g33 dX12_tryout_73 ?_
              refine lv_sipush (v := 130) hx hb dX12_tryout_76 (by decide) ?_
              refine lv_iload hx hb dX12_tryout_79 (lv_at hl 0 rfl) ?_
              refine lv_iadd hx hb dX12_tryout_81 ?_
              refine lv_iload_n hx hb dX12_tryout_82 rfl (lv_at hl 2 rfl) ?_
              obtain ⟨S35, g34, h⟩ := hq_bind h
              refine hq_iast hx hb hE hI g34 dX12_tryout_83 (fun H locs hI => ?_)
              refine lv_aload_n hx hb dX12_tryout_84 rfl (lv_at hl 1 rfl) ?_
              obtain ⟨b36, g37, h⟩ := hq_bind h
              obtain ⟨fs_g37, hs_g37, hv_g37⟩ := gR_at g37
              refine hq_get hx hb hts hown hE hI hs_g37 inG12 rfl 1 (by decide) kw_948 hv_g37 dX12_tryout_85 ?_
              refine lv_sipush (v := 160) hx hb dX12_tryout_88 (by decide) ?_
              refine lv_iload hx hb dX12_tryout_91 (lv_at hl 0 rfl) ?_
              refine lv_iadd hx hb dX12_tryout_93 ?_
              refine lv_iload_n hx hb dX12_tryout_94 rfl (lv_at hl 3 rfl) ?_
              obtain ⟨S39, g38, h⟩ := hq_bind h
              refine hq_iast hx hb hE hI g38 dX12_tryout_95 (fun H locs hI => ?_)
              refine lv_aload_n hx hb dX12_tryout_96 rfl (lv_at hl 1 rfl) ?_
              obtain ⟨b40, g41, h⟩ := hq_bind h
              obtain ⟨fs_g41, hs_g41, hv_g41⟩ := gR_at g41
              refine hq_get hx hb hts hown hE hI hs_g41 inG12 rfl 1 (by decide) kw_948 hv_g41 dX12_tryout_97 ?_
              refine lv_sipush (v := 190) hx hb dX12_tryout_100 (by decide) ?_
              refine lv_iload hx hb dX12_tryout_103 (lv_at hl 0 rfl) ?_
              refine lv_iadd hx hb dX12_tryout_105 ?_
              refine lv_iload_n hx hb dX12_tryout_106 rfl (lv_at hl 4 rfl) ?_
              obtain ⟨S43, g42, h⟩ := hq_bind h
              refine hq_iast hx hb hE hI g42 dX12_tryout_107 (fun H locs hI => ?_)
              refine lv_aload_n hx hb dX12_tryout_108 rfl (lv_at hl 1 rfl) ?_
              obtain ⟨b44, g45, h⟩ := hq_bind h
              obtain ⟨fs_g45, hs_g45, hv_g45⟩ := gR_at g45
              refine hq_get hx hb hts hown hE hI hs_g45 inG12 rfl 1 (by decide) kw_948 hv_g45 dX12_tryout_109 ?_
              refine lv_sipush (v := 220) hx hb dX12_tryout_112 (by decide) ?_
              refine lv_iload hx hb dX12_tryout_115 (lv_at hl 0 rfl) ?_
              refine lv_iadd hx hb dX12_tryout_117 ?_
              refine lv_iload hx hb dX12_tryout_118 (lv_at hl 5 rfl) ?_
              obtain ⟨S47, g46, h⟩ := hq_bind h
              refine hq_iast hx hb hE hI g46 dX12_tryout_120 (fun H locs hI => ?_)
              refine lv_aload_n hx hb dX12_tryout_121 rfl (lv_at hl 1 rfl) ?_
              obtain ⟨b48, g49, h⟩ := hq_bind h
              obtain ⟨fs_g49, hs_g49, hv_g49⟩ := gR_at g49
              refine hq_get hx hb hts hown hE hI hs_g49 inG12 rfl 1 (by decide) kw_948 hv_g49 dX12_tryout_122 ?_
              refine lv_sipush (v := 250) hx hb dX12_tryout_125 (by decide) ?_
              refine lv_iload hx hb dX12_tryout_128 (lv_at hl 0 rfl) ?_
              refine lv_iadd hx hb dX12_tryout_130 ?_
              refine lv_iload hx hb dX12_tryout_131 (lv_at hl 6 rfl) ?_
              obtain ⟨S51, g50, h⟩ := hq_bind h
              refine hq_iast hx hb hE hI g50 dX12_tryout_133 (fun H locs hI => ?_)
              refine lv_aload_n hx hb dX12_tryout_134 rfl (lv_at hl 1 rfl) ?_
              obtain ⟨b52, g53, h⟩ := hq_bind h
              obtain ⟨fs_g53, hs_g53, hv_g53⟩ := gR_at g53
              refine hq_get hx hb hts hown hE hI hs_g53 inG12 rfl 1 (by decide) kw_948 hv_g53 dX12_tryout_135 ?_
              refine lv_sipush (v := 280) hx hb dX12_tryout_138 (by decide) ?_
              refine lv_iload hx hb dX12_tryout_141 (lv_at hl 0 rfl) ?_
              refine lv_iadd hx hb dX12_tryout_143 ?_
              refine lv_iconst (v := 0) hx hb dX12_tryout_144 (by decide) ?_
              obtain ⟨S55, g54, h⟩ := hq_bind h
              refine hq_iast hx hb hE hI g54 dX12_tryout_145 (fun H locs hI => ?_)
              refine lv_aload_n hx hb dX12_tryout_146 rfl (lv_at hl 1 rfl) ?_
              obtain ⟨b56, g57, h⟩ := hq_bind h
              obtain ⟨fs_g57, hs_g57, hv_g57⟩ := gR_at g57
              refine hq_get hx hb hts hown hE hI hs_g57 inG12 rfl 1 (by decide) kw_948 hv_g57 dX12_tryout_147 ?_
              refine lv_iconst (v := 1) hx hb dX12_tryout_150 (by decide) ?_
              refine lv_dup2_11 hx hb dX12_tryout_151 rfl rfl ?_
              obtain ⟨v59, g58, h⟩ := hq_bind h
              refine hq_iald hx hb hE hI g58 dX12_tryout_152 ?_
              refine lv_iconst (v := 1) hx hb dX12_tryout_153 (by decide) ?_
              refine lv_iadd hx hb dX12_tryout_154 ?_
              obtain ⟨S61, g60, h⟩ := hq_bind h
              refine hq_iast hx hb hE hI g60 dX12_tryout_155 (fun H locs hI => ?_)
              refine lv_iload hx hb dX12_tryout_156 (lv_at hl 0 rfl) ?_
              exact hq_iret hx hb hr hlocks h0 hI h dX12_tryout_158
            · have h := hq_t h c27
              refine lv_bipush (v := (-4)) hx hb dX12_tryout_61 (by decide) ?_
              exact hq_iret hx hb hr hlocks h0 hI h dX12_tryout_63
          · have h := hq_t h c22
            refine lv_bipush (v := (-2)) hx hb dX12_tryout_47 (by decide) ?_
            exact hq_iret hx hb hr hlocks h0 hI h dX12_tryout_49
        · have h := hq_t h c18
          refine lv_iconst (v := (-1)) hx hb dX12_tryout_35 (by decide) ?_
          exact hq_iret hx hb hr hlocks h0 hI h dX12_tryout_36
-- RodDipsModel.excuse(II)I
theorem dX12_excuse_0 : decode cX12_excuse 0 = .ok (.aload_n 0, 1) := by decide +kernel
theorem dX12_excuse_1 : decode cX12_excuse 1 = .ok (.iload_n 1, 1) := by decide +kernel
theorem dX12_excuse_2 : decode cX12_excuse 2 = .ok (.invokevirtual 50, 3) := by decide +kernel
theorem dX12_excuse_5 : decode cX12_excuse 5 = .ok (.ifCond .ne 5, 3) := by decide +kernel
theorem dX12_excuse_8 : decode cX12_excuse 8 = .ok (.iconst (-1), 1) := by decide +kernel
theorem dX12_excuse_9 : decode cX12_excuse 9 = .ok (.ireturn, 1) := by decide +kernel
theorem dX12_excuse_10 : decode cX12_excuse 10 = .ok (.iload_n 2, 1) := by decide +kernel
theorem dX12_excuse_11 : decode cX12_excuse 11 = .ok (.iconst 0, 1) := by decide +kernel
theorem dX12_excuse_12 : decode cX12_excuse 12 = .ok (.iconst 2, 1) := by decide +kernel
theorem dX12_excuse_13 : decode cX12_excuse 13 = .ok (.invokestatic 39, 3) := by decide +kernel
theorem dX12_excuse_16 : decode cX12_excuse 16 = .ok (.ifCond .ne 6, 3) := by decide +kernel
theorem dX12_excuse_19 : decode cX12_excuse 19 = .ok (.bipush (-2), 2) := by decide +kernel
theorem dX12_excuse_21 : decode cX12_excuse 21 = .ok (.ireturn, 1) := by decide +kernel
theorem dX12_excuse_22 : decode cX12_excuse 22 = .ok (.aload_n 0, 1) := by decide +kernel
theorem dX12_excuse_23 : decode cX12_excuse 23 = .ok (.getfield 9, 3) := by decide +kernel
theorem dX12_excuse_26 : decode cX12_excuse 26 = .ok (.sipush 280, 3) := by decide +kernel
theorem dX12_excuse_29 : decode cX12_excuse 29 = .ok (.iload_n 1, 1) := by decide +kernel
theorem dX12_excuse_30 : decode cX12_excuse 30 = .ok (.iadd, 1) := by decide +kernel
theorem dX12_excuse_31 : decode cX12_excuse 31 = .ok (.iaload, 1) := by decide +kernel
theorem dX12_excuse_32 : decode cX12_excuse 32 = .ok (.istore_n 3, 1) := by decide +kernel
theorem dX12_excuse_33 : decode cX12_excuse 33 = .ok (.aload_n 0, 1) := by decide +kernel
theorem dX12_excuse_34 : decode cX12_excuse 34 = .ok (.getfield 9, 3) := by decide +kernel
theorem dX12_excuse_37 : decode cX12_excuse 37 = .ok (.sipush 280, 3) := by decide +kernel
theorem dX12_excuse_40 : decode cX12_excuse 40 = .ok (.iload_n 1, 1) := by decide +kernel
theorem dX12_excuse_41 : decode cX12_excuse 41 = .ok (.iadd, 1) := by decide +kernel
theorem dX12_excuse_42 : decode cX12_excuse 42 = .ok (.iload_n 2, 1) := by decide +kernel
theorem dX12_excuse_43 : decode cX12_excuse 43 = .ok (.iastore, 1) := by decide +kernel
theorem dX12_excuse_44 : decode cX12_excuse 44 = .ok (.iload_n 3, 1) := by decide +kernel
theorem dX12_excuse_45 : decode cX12_excuse 45 = .ok (.ireturn, 1) := by decide +kernel
def f_X12_excuse (S : HSt) (a0 : Nat) (a1 : Int32) (a2 : Int32) : Option (Int32 × HSt) := if gC S a0 = some 12 then (b2 (f_X12_isTry S a0 a1) fun v4 S3 => if v4 = 0 then (some ((-1), S3)) else (b2 (f_X12_in S3 a2 0 2) fun v8 S7 => if v8 = 0 then (some ((-2), S7)) else ((gR S7 a0 12 1).bind fun b10 => (aI S7 b10 0 (280 + a1)).bind fun v13 => (gR S7 a0 12 1).bind fun b14 => (sI S7 b14 0 (280 + a1) a2).bind fun S17 => some (v13, S17)))) else none
abbrev rm_X12_excuse : Room := { frames := 2, cells := 0, slots := 0, locals := 43 }
abbrev w_X12_excuse : List Cond := Cond.code yX12_excuse cX12_excuse 4 (Option.some FieldType.int) :: lwG
theorem yd_X12_excuse : yX12_excuse.cls ≠ "java/lang/invoke/MethodHandle" ∧ yX12_excuse.cls ≠ "java/lang/invoke/VarHandle" ∧ (parseMethodDescriptor yX12_excuse.desc).map (fun d => d.parameters.length) = some 2 := by decide +kernel
theorem ye_X12_excuse : yX12_excuse.cls = RX12 ∧ yX12_excuse.cls ≠ "java/lang/invoke/MethodHandle" ∧ yX12_excuse.cls ≠ "java/lang/invoke/VarHandle" ∧ (parseMethodDescriptor yX12_excuse.desc).map (fun d => d.parameters.length) = some 2 := by decide +kernel
set_option maxHeartbeats 4000000 in
set_option maxRecDepth 100000 in
theorem c_X12_excuse (l : Launch) (D : va_G) (kA ρ : Nat → Nat) (HB : Heap) (S : HSt) (a0 : Nat) (a1 : Int32) (a2 : Int32) (res : Int32 × HSt) (h : f_X12_excuse S a0 a1 a2 = some res) : Met l yX12_excuse w_X12_excuse rm_X12_excuse (hPc D kA ρ HB S [.ref a0, .int a1, .int a2]) (hQi D kA HB S res) 0 0 (hFree HB) := by
  refine Met.ofW (cc := cX12_excuse) (maxL := 4) (ret := (Option.some FieldType.int)) (by decide) rfl ?_
  intro p e s m args below meth c s₁ B hml hv
  obtain ⟨rfl, hE, h0⟩ := hv
  have hx := B.exec
  have hb := B.bytes
  have hr := B.returns
  have hts0 := atoms_spec (ws := w_X12_excuse) B.pre
  have hts : ∀ w ∈ lwG, w.before _ s = true := fun w hw => hts0 w (List.mem_cons_of_mem _ hw)
  have hown : s.vm.findClass RX12 = some m.cls := findClass_of_methodNamed B.named
  have hlocks := B.notSynchronized
  have hI : hqX D kA HB S.2 S s.heap [] := ⟨h0, Nat.le_refl _, fun _ q => absurd q List.not_mem_nil⟩
  have hl := lv_entry ([.ref a0, .int a1, .int a2]) (n := 4) (Nat.le_of_ble_eq_true rfl)
  rw [lg_entry_eq]
  generalize (lg_sl ([.ref a0, .int a1, .int a2]) ++ List.replicate (4 - (lg_sl ([.ref a0, .int a1, .int a2])).length) Slot.unset).toArray = ls at hl ⊢
  have hl : lv_has ls 4 [(0, .ref a0), (1, .int a1), (2, .int a2)] := hl
  unfold f_X12_excuse at h
  refine lv_aload_n hx hb dX12_excuse_0 rfl (lv_at hl 0 rfl) ?_
  refine lv_iload_n hx hb dX12_excuse_1 rfl (lv_at hl 1 rfl) ?_
  obtain ⟨g2, h⟩ := hq_g h
  obtain ⟨v4, S3, g1, h⟩ := hq_b2 h
  refine hq_calli hI (va_runV (As := [.int a1]) (rest := []) ⟨hx, hb, hml, hown, hts⟩ (c_X12_isTry l D kA ρ HB S a0 a1 _ g1) (cwV 1 hts (gdIn (List.forall_mem_cons.mpr ⟨kw_1031, (List.forall_mem_cons.mpr ⟨kw_1033, (List.forall_mem_cons.mpr ⟨ks_31, (List.forall_mem_cons.mpr ⟨kw_6, (fun _ h => absurd h List.not_mem_nil)⟩)⟩)⟩)⟩) kw_1034) rfl rfl rfl ye_X12_isTry ⟨Nat.le_of_ble_eq_true rfl, Nat.le_of_ble_eq_true rfl⟩) (hq_preC hE hI g2 rfl _) rfl rfl hl.1 rfl (lv_room (Nat.le_of_ble_eq_true rfl)) dX12_excuse_2 ⟨Nat.le_of_ble_eq_true rfl, Nat.le_of_ble_eq_true rfl⟩) (fun H locs hI => ?_)
  refine lv_if_ne (tgt := 10) hx hb dX12_excuse_5 (by decide) (fun c5 => ?_) (fun c5 => ?_)
  · have h := hq_f h c5
    refine lv_iload_n hx hb dX12_excuse_10 rfl (lv_at hl 2 rfl) ?_
    refine lv_iconst (v := 0) hx hb dX12_excuse_11 (by decide) ?_
    refine lv_iconst (v := 2) hx hb dX12_excuse_12 (by decide) ?_
    obtain ⟨v8, S7, g6, h⟩ := hq_b2 h
    refine hq_calli hI (va_runS (As := [.int a2, .int 0, .int 2]) (rest := []) ⟨hx, hb, hml, hown, hts⟩ (c_X12_in l D kA ρ HB S3 a2 0 2 _ g6) (va_cwS 3 hts (gdIn (List.forall_mem_cons.mpr ⟨kw_1013, (List.forall_mem_cons.mpr ⟨kw_1014, (List.forall_mem_cons.mpr ⟨kw_6, (fun _ h => absurd h List.not_mem_nil)⟩)⟩)⟩) kw_1015) rfl rfl rfl yd_X12_in ⟨Nat.le_of_ble_eq_true rfl, Nat.le_of_ble_eq_true rfl⟩) (hq_preS hE hI _) rfl rfl hl.1 rfl (lv_room (Nat.le_of_ble_eq_true rfl)) dX12_excuse_13 ⟨Nat.le_of_ble_eq_true rfl, Nat.le_of_ble_eq_true rfl⟩) (fun H locs hI => ?_)
    refine lv_if_ne (tgt := 22) hx hb dX12_excuse_16 (by decide) (fun c9 => ?_) (fun c9 => ?_)
    · have h := hq_f h c9
      refine lv_aload_n hx hb dX12_excuse_22 rfl (lv_at hl 0 rfl) ?_
      obtain ⟨b10, g11, h⟩ := hq_bind h
      obtain ⟨fs_g11, hs_g11, hv_g11⟩ := gR_at g11
      refine hq_get hx hb hts hown hE hI hs_g11 inG12 rfl 1 (by decide) kw_948 hv_g11 dX12_excuse_23 ?_
      refine lv_sipush (v := 280) hx hb dX12_excuse_26 (by decide) ?_
      refine lv_iload_n hx hb dX12_excuse_29 rfl (lv_at hl 1 rfl) ?_
      refine lv_iadd hx hb dX12_excuse_30 ?_
      obtain ⟨v13, g12, h⟩ := hq_bind h
      refine hq_iald hx hb hE hI g12 dX12_excuse_31 ?_
      refine lv_istore_n (lv' := [(3, .int v13), (0, .ref a0), (1, .int a1), (2, .int a2)]) hx hb dX12_excuse_32 rfl hl (by decide) rfl (fun ls hl => ?_)
      refine lv_aload_n hx hb dX12_excuse_33 rfl (lv_at hl 1 rfl) ?_
      obtain ⟨b14, g15, h⟩ := hq_bind h
      obtain ⟨fs_g15, hs_g15, hv_g15⟩ := gR_at g15
      refine hq_get hx hb hts hown hE hI hs_g15 inG12 rfl 1 (by decide) kw_948 hv_g15 dX12_excuse_34 ?_
      refine lv_sipush (v := 280) hx hb dX12_excuse_37 (by decide) ?_
      refine lv_iload_n hx hb dX12_excuse_40 rfl (lv_at hl 2 rfl) ?_
      refine lv_iadd hx hb dX12_excuse_41 ?_
      refine lv_iload_n hx hb dX12_excuse_42 rfl (lv_at hl 3 rfl) ?_
      obtain ⟨S17, g16, h⟩ := hq_bind h
      refine hq_iast hx hb hE hI g16 dX12_excuse_43 (fun H locs hI => ?_)
      refine lv_iload_n hx hb dX12_excuse_44 rfl (lv_at hl 0 rfl) ?_
      exact hq_iret hx hb hr hlocks h0 hI h dX12_excuse_45
    · have h := hq_t h c9
      refine lv_bipush (v := (-2)) hx hb dX12_excuse_19 (by decide) ?_
      exact hq_iret hx hb hr hlocks h0 hI h dX12_excuse_21
  · have h := hq_t h c5
    refine lv_iconst (v := (-1)) hx hb dX12_excuse_8 (by decide) ?_
    exact hq_iret hx hb hr hlocks h0 hI h dX12_excuse_9
-- RodDipsModel.nearOf(I)I
theorem dX12_nearOf_0 : decode cX12_nearOf 0 = .ok (.aload_n 0, 1) := by decide +kernel
theorem dX12_nearOf_1 : decode cX12_nearOf 1 = .ok (.getfield 9, 3) := by decide +kernel
theorem dX12_nearOf_4 : decode cX12_nearOf 4 = .ok (.sipush 220, 3) := by decide +kernel
theorem dX12_nearOf_7 : decode cX12_nearOf 7 = .ok (.iload_n 1, 1) := by decide +kernel
theorem dX12_nearOf_8 : decode cX12_nearOf 8 = .ok (.iadd, 1) := by decide +kernel
theorem dX12_nearOf_9 : decode cX12_nearOf 9 = .ok (.iaload, 1) := by decide +kernel
theorem dX12_nearOf_10 : decode cX12_nearOf 10 = .ok (.aload_n 0, 1) := by decide +kernel
theorem dX12_nearOf_11 : decode cX12_nearOf 11 = .ok (.getfield 9, 3) := by decide +kernel
theorem dX12_nearOf_14 : decode cX12_nearOf 14 = .ok (.sipush 250, 3) := by decide +kernel
theorem dX12_nearOf_17 : decode cX12_nearOf 17 = .ok (.iload_n 1, 1) := by decide +kernel
theorem dX12_nearOf_18 : decode cX12_nearOf 18 = .ok (.iadd, 1) := by decide +kernel
theorem dX12_nearOf_19 : decode cX12_nearOf 19 = .ok (.iaload, 1) := by decide +kernel
theorem dX12_nearOf_20 : decode cX12_nearOf 20 = .ok (.isub, 1) := by decide +kernel
theorem dX12_nearOf_21 : decode cX12_nearOf 21 = .ok (.invokestatic 53, 3) := by decide +kernel
theorem dX12_nearOf_24 : decode cX12_nearOf 24 = .ok (.ireturn, 1) := by decide +kernel
def f_X12_nearOf (S : HSt) (a0 : Nat) (a1 : Int32) : Option (Int32 × HSt) := (gR S a0 12 1).bind fun b1 => (aI S b1 0 (220 + a1)).bind fun v4 => (gR S a0 12 1).bind fun b5 => (aI S b5 0 (250 + a1)).bind fun v8 => b2 (f_X12_size S (v4 - v8)) fun v11 S10 => some (v11, S10)
abbrev rm_X12_nearOf : Room := { frames := 1, cells := 0, slots := 0, locals := 20 }
abbrev w_X12_nearOf : List Cond := Cond.code yX12_nearOf cX12_nearOf 2 (Option.some FieldType.int) :: lwG
theorem yd_X12_nearOf : yX12_nearOf.cls ≠ "java/lang/invoke/MethodHandle" ∧ yX12_nearOf.cls ≠ "java/lang/invoke/VarHandle" ∧ (parseMethodDescriptor yX12_nearOf.desc).map (fun d => d.parameters.length) = some 1 := by decide +kernel
theorem ye_X12_nearOf : yX12_nearOf.cls = RX12 ∧ yX12_nearOf.cls ≠ "java/lang/invoke/MethodHandle" ∧ yX12_nearOf.cls ≠ "java/lang/invoke/VarHandle" ∧ (parseMethodDescriptor yX12_nearOf.desc).map (fun d => d.parameters.length) = some 1 := by decide +kernel
set_option maxHeartbeats 4000000 in
set_option maxRecDepth 100000 in
theorem c_X12_nearOf (l : Launch) (D : va_G) (kA ρ : Nat → Nat) (HB : Heap) (S : HSt) (a0 : Nat) (a1 : Int32) (res : Int32 × HSt) (h : f_X12_nearOf S a0 a1 = some res) : Met l yX12_nearOf w_X12_nearOf rm_X12_nearOf (hPc D kA ρ HB S [.ref a0, .int a1]) (hQi D kA HB S res) 0 0 (hFree HB) := by
  refine Met.ofW (cc := cX12_nearOf) (maxL := 2) (ret := (Option.some FieldType.int)) (by decide) rfl ?_
  intro p e s m args below meth c s₁ B hml hv
  obtain ⟨rfl, hE, h0⟩ := hv
  have hx := B.exec
  have hb := B.bytes
  have hr := B.returns
  have hts0 := atoms_spec (ws := w_X12_nearOf) B.pre
  have hts : ∀ w ∈ lwG, w.before _ s = true := fun w hw => hts0 w (List.mem_cons_of_mem _ hw)
  have hown : s.vm.findClass RX12 = some m.cls := findClass_of_methodNamed B.named
  have hlocks := B.notSynchronized
  have hI : hqX D kA HB S.2 S s.heap [] := ⟨h0, Nat.le_refl _, fun _ q => absurd q List.not_mem_nil⟩
  have hl := lv_entry ([.ref a0, .int a1]) (n := 2) (Nat.le_of_ble_eq_true rfl)
  rw [lg_entry_eq]
  generalize (lg_sl ([.ref a0, .int a1]) ++ List.replicate (2 - (lg_sl ([.ref a0, .int a1])).length) Slot.unset).toArray = ls at hl ⊢
  have hl : lv_has ls 2 [(0, .ref a0), (1, .int a1)] := hl
  unfold f_X12_nearOf at h
  refine lv_aload_n hx hb dX12_nearOf_0 rfl (lv_at hl 0 rfl) ?_
  obtain ⟨b1, g2, h⟩ := hq_bind h
  obtain ⟨fs_g2, hs_g2, hv_g2⟩ := gR_at g2
  refine hq_get hx hb hts hown hE hI hs_g2 inG12 rfl 1 (by decide) kw_948 hv_g2 dX12_nearOf_1 ?_
  refine lv_sipush (v := 220) hx hb dX12_nearOf_4 (by decide) ?_
  refine lv_iload_n hx hb dX12_nearOf_7 rfl (lv_at hl 1 rfl) ?_
  refine lv_iadd hx hb dX12_nearOf_8 ?_
  obtain ⟨v4, g3, h⟩ := hq_bind h
  refine hq_iald hx hb hE hI g3 dX12_nearOf_9 ?_
  refine lv_aload_n hx hb dX12_nearOf_10 rfl (lv_at hl 0 rfl) ?_
  obtain ⟨b5, g6, h⟩ := hq_bind h
  obtain ⟨fs_g6, hs_g6, hv_g6⟩ := gR_at g6
  refine hq_get hx hb hts hown hE hI hs_g6 inG12 rfl 1 (by decide) kw_948 hv_g6 dX12_nearOf_11 ?_
  refine lv_sipush (v := 250) hx hb dX12_nearOf_14 (by decide) ?_
  refine lv_iload_n hx hb dX12_nearOf_17 rfl (lv_at hl 1 rfl) ?_
  refine lv_iadd hx hb dX12_nearOf_18 ?_
  obtain ⟨v8, g7, h⟩ := hq_bind h
  refine hq_iald hx hb hE hI g7 dX12_nearOf_19 ?_
  refine lv_isub hx hb dX12_nearOf_20 ?_
  obtain ⟨v11, S10, g9, h⟩ := hq_b2 h
  refine hq_calli hI (va_runS (As := [.int (v4 - v8)]) (rest := []) ⟨hx, hb, hml, hown, hts⟩ (c_X12_size l D kA ρ HB S (v4 - v8) _ g9) (va_cwS 1 hts (gdIn (List.forall_mem_cons.mpr ⟨kw_1043, (List.forall_mem_cons.mpr ⟨kw_1044, (List.forall_mem_cons.mpr ⟨kw_6, (fun _ h => absurd h List.not_mem_nil)⟩)⟩)⟩) kw_1045) rfl rfl rfl yd_X12_size ⟨Nat.le_of_ble_eq_true rfl, Nat.le_of_ble_eq_true rfl⟩) (hq_preS hE hI _) rfl rfl hl.1 rfl (lv_room (Nat.le_of_ble_eq_true rfl)) dX12_nearOf_21 ⟨Nat.le_of_ble_eq_true rfl, Nat.le_of_ble_eq_true rfl⟩) (fun H locs hI => ?_)
  exact hq_iret hx hb hr hlocks h0 hI h dX12_nearOf_24
-- RodDipsModel.of(II)I
theorem dX12_of_0 : decode cX12_of 0 = .ok (.aload_n 0, 1) := by decide +kernel
theorem dX12_of_1 : decode cX12_of 1 = .ok (.iload_n 1, 1) := by decide +kernel
theorem dX12_of_2 : decode cX12_of 2 = .ok (.invokevirtual 50, 3) := by decide +kernel
theorem dX12_of_5 : decode cX12_of 5 = .ok (.ifCond .eq 13, 3) := by decide +kernel
theorem dX12_of_8 : decode cX12_of 8 = .ok (.iload_n 2, 1) := by decide +kernel
theorem dX12_of_9 : decode cX12_of 9 = .ok (.iconst 0, 1) := by decide +kernel
theorem dX12_of_10 : decode cX12_of 10 = .ok (.bipush 6, 2) := by decide +kernel
theorem dX12_of_12 : decode cX12_of 12 = .ok (.invokestatic 39, 3) := by decide +kernel
theorem dX12_of_15 : decode cX12_of 15 = .ok (.ifCond .ne 5, 3) := by decide +kernel
theorem dX12_of_18 : decode cX12_of 18 = .ok (.iconst (-1), 1) := by decide +kernel
theorem dX12_of_19 : decode cX12_of 19 = .ok (.ireturn, 1) := by decide +kernel
theorem dX12_of_20 : decode cX12_of 20 = .ok (.iload_n 2, 1) := by decide +kernel
theorem dX12_of_21 : decode cX12_of 21 = .ok (.bipush 6, 2) := by decide +kernel
theorem dX12_of_23 : decode cX12_of 23 = .ok (.if_icmp .ne 11, 3) := by decide +kernel
theorem dX12_of_26 : decode cX12_of 26 = .ok (.aload_n 0, 1) := by decide +kernel
theorem dX12_of_27 : decode cX12_of 27 = .ok (.iload_n 1, 1) := by decide +kernel
theorem dX12_of_28 : decode cX12_of 28 = .ok (.invokevirtual 57, 3) := by decide +kernel
theorem dX12_of_31 : decode cX12_of 31 = .ok (.goto 18, 3) := by decide +kernel
theorem dX12_of_34 : decode cX12_of 34 = .ok (.aload_n 0, 1) := by decide +kernel
theorem dX12_of_35 : decode cX12_of 35 = .ok (.getfield 9, 3) := by decide +kernel
theorem dX12_of_38 : decode cX12_of 38 = .ok (.sipush 130, 3) := by decide +kernel
theorem dX12_of_41 : decode cX12_of 41 = .ok (.bipush 30, 2) := by decide +kernel
theorem dX12_of_43 : decode cX12_of 43 = .ok (.iload_n 2, 1) := by decide +kernel
theorem dX12_of_44 : decode cX12_of 44 = .ok (.imul, 1) := by decide +kernel
theorem dX12_of_45 : decode cX12_of 45 = .ok (.iadd, 1) := by decide +kernel
theorem dX12_of_46 : decode cX12_of 46 = .ok (.iload_n 1, 1) := by decide +kernel
theorem dX12_of_47 : decode cX12_of 47 = .ok (.iadd, 1) := by decide +kernel
theorem dX12_of_48 : decode cX12_of 48 = .ok (.iaload, 1) := by decide +kernel
theorem dX12_of_49 : decode cX12_of 49 = .ok (.ireturn, 1) := by decide +kernel
def f_X12_of (S : HSt) (a0 : Nat) (a1 : Int32) (a2 : Int32) : Option (Int32 × HSt) := if gC S a0 = some 12 then (b2 (f_X12_isTry S a0 a1) fun v4 S3 => if v4 = 0 then (some ((-1), S3)) else (b2 (f_X12_in S3 a2 0 6) fun v8 S7 => if v8 = 0 then (some ((-1), S7)) else (if a2 = 6 then (if gC S7 a0 = some 12 then (b2 (f_X12_nearOf S7 a0 a1) fun v18 S17 => some (v18, S17)) else none) else ((gR S7 a0 12 1).bind fun b11 => (aI S7 b11 0 ((130 + (30 * a2)) + a1)).bind fun v14 => some (v14, S7))))) else none
abbrev rm_X12_of : Room := { frames := 2, cells := 0, slots := 0, locals := 43 }
abbrev w_X12_of : List Cond := Cond.code yX12_of cX12_of 3 (Option.some FieldType.int) :: lwG
theorem yd_X12_of : yX12_of.cls ≠ "java/lang/invoke/MethodHandle" ∧ yX12_of.cls ≠ "java/lang/invoke/VarHandle" ∧ (parseMethodDescriptor yX12_of.desc).map (fun d => d.parameters.length) = some 2 := by decide +kernel
theorem ye_X12_of : yX12_of.cls = RX12 ∧ yX12_of.cls ≠ "java/lang/invoke/MethodHandle" ∧ yX12_of.cls ≠ "java/lang/invoke/VarHandle" ∧ (parseMethodDescriptor yX12_of.desc).map (fun d => d.parameters.length) = some 2 := by decide +kernel
set_option maxHeartbeats 4000000 in
set_option maxRecDepth 100000 in
theorem c_X12_of (l : Launch) (D : va_G) (kA ρ : Nat → Nat) (HB : Heap) (S : HSt) (a0 : Nat) (a1 : Int32) (a2 : Int32) (res : Int32 × HSt) (h : f_X12_of S a0 a1 a2 = some res) : Met l yX12_of w_X12_of rm_X12_of (hPc D kA ρ HB S [.ref a0, .int a1, .int a2]) (hQi D kA HB S res) 0 0 (hFree HB) := by
  refine Met.ofW (cc := cX12_of) (maxL := 3) (ret := (Option.some FieldType.int)) (by decide) rfl ?_
  intro p e s m args below meth c s₁ B hml hv
  obtain ⟨rfl, hE, h0⟩ := hv
  have hx := B.exec
  have hb := B.bytes
  have hr := B.returns
  have hts0 := atoms_spec (ws := w_X12_of) B.pre
  have hts : ∀ w ∈ lwG, w.before _ s = true := fun w hw => hts0 w (List.mem_cons_of_mem _ hw)
  have hown : s.vm.findClass RX12 = some m.cls := findClass_of_methodNamed B.named
  have hlocks := B.notSynchronized
  have hI : hqX D kA HB S.2 S s.heap [] := ⟨h0, Nat.le_refl _, fun _ q => absurd q List.not_mem_nil⟩
  have hl := lv_entry ([.ref a0, .int a1, .int a2]) (n := 3) (Nat.le_of_ble_eq_true rfl)
  rw [lg_entry_eq]
  generalize (lg_sl ([.ref a0, .int a1, .int a2]) ++ List.replicate (3 - (lg_sl ([.ref a0, .int a1, .int a2])).length) Slot.unset).toArray = ls at hl ⊢
  have hl : lv_has ls 3 [(0, .ref a0), (1, .int a1), (2, .int a2)] := hl
  unfold f_X12_of at h
  refine lv_aload_n hx hb dX12_of_0 rfl (lv_at hl 0 rfl) ?_
  refine lv_iload_n hx hb dX12_of_1 rfl (lv_at hl 1 rfl) ?_
  obtain ⟨g2, h⟩ := hq_g h
  obtain ⟨v4, S3, g1, h⟩ := hq_b2 h
  refine hq_calli hI (va_runV (As := [.int a1]) (rest := []) ⟨hx, hb, hml, hown, hts⟩ (c_X12_isTry l D kA ρ HB S a0 a1 _ g1) (cwV 1 hts (gdIn (List.forall_mem_cons.mpr ⟨kw_1031, (List.forall_mem_cons.mpr ⟨kw_1033, (List.forall_mem_cons.mpr ⟨ks_31, (List.forall_mem_cons.mpr ⟨kw_6, (fun _ h => absurd h List.not_mem_nil)⟩)⟩)⟩)⟩) kw_1034) rfl rfl rfl ye_X12_isTry ⟨Nat.le_of_ble_eq_true rfl, Nat.le_of_ble_eq_true rfl⟩) (hq_preC hE hI g2 rfl _) rfl rfl hl.1 rfl (lv_room (Nat.le_of_ble_eq_true rfl)) dX12_of_2 ⟨Nat.le_of_ble_eq_true rfl, Nat.le_of_ble_eq_true rfl⟩) (fun H locs hI => ?_)
  refine lv_if_eq (tgt := 18) hx hb dX12_of_5 (by decide) (fun c5 => ?_) (fun c5 => ?_)
  · have h := hq_t h c5
    refine lv_iconst (v := (-1)) hx hb dX12_of_18 (by decide) ?_
    exact hq_iret hx hb hr hlocks h0 hI h dX12_of_19
  · have h := hq_f h c5
    refine lv_iload_n hx hb dX12_of_8 rfl (lv_at hl 2 rfl) ?_
    refine lv_iconst (v := 0) hx hb dX12_of_9 (by decide) ?_
    refine lv_bipush (v := 6) hx hb dX12_of_10 (by decide) ?_
    obtain ⟨v8, S7, g6, h⟩ := hq_b2 h
    refine hq_calli hI (va_runS (As := [.int a2, .int 0, .int 6]) (rest := []) ⟨hx, hb, hml, hown, hts⟩ (c_X12_in l D kA ρ HB S3 a2 0 6 _ g6) (va_cwS 3 hts (gdIn (List.forall_mem_cons.mpr ⟨kw_1013, (List.forall_mem_cons.mpr ⟨kw_1014, (List.forall_mem_cons.mpr ⟨kw_6, (fun _ h => absurd h List.not_mem_nil)⟩)⟩)⟩) kw_1015) rfl rfl rfl yd_X12_in ⟨Nat.le_of_ble_eq_true rfl, Nat.le_of_ble_eq_true rfl⟩) (hq_preS hE hI _) rfl rfl hl.1 rfl (lv_room (Nat.le_of_ble_eq_true rfl)) dX12_of_12 ⟨Nat.le_of_ble_eq_true rfl, Nat.le_of_ble_eq_true rfl⟩) (fun H locs hI => ?_)
    refine lv_if_ne (tgt := 20) hx hb dX12_of_15 (by decide) (fun c9 => ?_) (fun c9 => ?_)
    · have h := hq_f h c9
      refine lv_iload_n hx hb dX12_of_20 rfl (lv_at hl 2 rfl) ?_
      refine lv_bipush (v := 6) hx hb dX12_of_21 (by decide) ?_
      refine lv_icmp_ne (tgt := 34) hx hb dX12_of_23 (by decide) (fun c10 => ?_) (fun c10 => ?_)
      · have h := hq_f h c10
        refine lv_aload_n hx hb dX12_of_34 rfl (lv_at hl 0 rfl) ?_
        obtain ⟨b11, g12, h⟩ := hq_bind h
        obtain ⟨fs_g12, hs_g12, hv_g12⟩ := gR_at g12
        refine hq_get hx hb hts hown hE hI hs_g12 inG12 rfl 1 (by decide) kw_948 hv_g12 dX12_of_35 ?_
        refine lv_sipush (v := 130) hx hb dX12_of_38 (by decide) ?_
        refine lv_bipush (v := 30) hx hb dX12_of_41 (by decide) ?_
        refine lv_iload_n hx hb dX12_of_43 rfl (lv_at hl 2 rfl) ?_
        refine lv_imul hx hb dX12_of_44 ?_
        refine lv_iadd hx hb dX12_of_45 ?_
        refine lv_iload_n hx hb dX12_of_46 rfl (lv_at hl 1 rfl) ?_
        refine lv_iadd hx hb dX12_of_47 ?_
        obtain ⟨v14, g13, h⟩ := hq_bind h
        refine hq_iald hx hb hE hI g13 dX12_of_48 ?_
        exact hq_iret hx hb hr hlocks h0 hI h dX12_of_49
      · have h := hq_t h c10
        refine lv_aload_n hx hb dX12_of_26 rfl (lv_at hl 0 rfl) ?_
        refine lv_iload_n hx hb dX12_of_27 rfl (lv_at hl 1 rfl) ?_
        obtain ⟨g16, h⟩ := hq_g h
        obtain ⟨v18, S17, g15, h⟩ := hq_b2 h
        refine hq_calli hI (va_runV (As := [.int a1]) (rest := []) ⟨hx, hb, hml, hown, hts⟩ (c_X12_nearOf l D kA ρ HB S7 a0 a1 _ g15) (cwV 1 hts (gdIn (List.forall_mem_cons.mpr ⟨kw_1039, (List.forall_mem_cons.mpr ⟨kw_1041, (List.forall_mem_cons.mpr ⟨ks_32, (List.forall_mem_cons.mpr ⟨kw_6, (fun _ h => absurd h List.not_mem_nil)⟩)⟩)⟩)⟩) kw_1042) rfl rfl rfl ye_X12_nearOf ⟨Nat.le_of_ble_eq_true rfl, Nat.le_of_ble_eq_true rfl⟩) (hq_preC hE hI g16 rfl _) rfl rfl hl.1 rfl (lv_room (Nat.le_of_ble_eq_true rfl)) dX12_of_28 ⟨Nat.le_of_ble_eq_true rfl, Nat.le_of_ble_eq_true rfl⟩) (fun H locs hI => ?_)
        refine lv_goto (tgt := 49) hx hb dX12_of_31 (by decide) ?_
        exact hq_iret hx hb hr hlocks h0 hI h dX12_of_49
    · have h := hq_t h c9
      refine lv_iconst (v := (-1)) hx hb dX12_of_18 (by decide) ?_
      exact hq_iret hx hb hr hlocks h0 hI h dX12_of_19
-- RodDipsModel.before(I)I
theorem dX12_before_0 : decode cX12_before 0 = .ok (.bipush 100, 2) := by decide +kernel
theorem dX12_before_2 : decode cX12_before 2 = .ok (.istore_n 2, 1) := by decide +kernel
theorem dX12_before_3 : decode cX12_before 3 = .ok (.iconst 0, 1) := by decide +kernel
theorem dX12_before_4 : decode cX12_before 4 = .ok (.istore_n 3, 1) := by decide +kernel
theorem dX12_before_5 : decode cX12_before 5 = .ok (.iload_n 3, 1) := by decide +kernel
theorem dX12_before_6 : decode cX12_before 6 = .ok (.iload_n 1, 1) := by decide +kernel
theorem dX12_before_7 : decode cX12_before 7 = .ok (.if_icmp .ge 47, 3) := by decide +kernel
theorem dX12_before_10 : decode cX12_before 10 = .ok (.aload_n 0, 1) := by decide +kernel
theorem dX12_before_11 : decode cX12_before 11 = .ok (.getfield 9, 3) := by decide +kernel
theorem dX12_before_14 : decode cX12_before 14 = .ok (.sipush 130, 3) := by decide +kernel
theorem dX12_before_17 : decode cX12_before 17 = .ok (.iload_n 3, 1) := by decide +kernel
theorem dX12_before_18 : decode cX12_before 18 = .ok (.iadd, 1) := by decide +kernel
theorem dX12_before_19 : decode cX12_before 19 = .ok (.iaload, 1) := by decide +kernel
theorem dX12_before_20 : decode cX12_before 20 = .ok (.aload_n 0, 1) := by decide +kernel
theorem dX12_before_21 : decode cX12_before 21 = .ok (.getfield 9, 3) := by decide +kernel
theorem dX12_before_24 : decode cX12_before 24 = .ok (.sipush 130, 3) := by decide +kernel
theorem dX12_before_27 : decode cX12_before 27 = .ok (.iload_n 1, 1) := by decide +kernel
theorem dX12_before_28 : decode cX12_before 28 = .ok (.iadd, 1) := by decide +kernel
theorem dX12_before_29 : decode cX12_before 29 = .ok (.iaload, 1) := by decide +kernel
theorem dX12_before_30 : decode cX12_before 30 = .ok (.if_icmp .ne 16, 3) := by decide +kernel
theorem dX12_before_33 : decode cX12_before 33 = .ok (.aload_n 0, 1) := by decide +kernel
theorem dX12_before_34 : decode cX12_before 34 = .ok (.getfield 9, 3) := by decide +kernel
theorem dX12_before_37 : decode cX12_before 37 = .ok (.sipush 250, 3) := by decide +kernel
theorem dX12_before_40 : decode cX12_before 40 = .ok (.iload_n 3, 1) := by decide +kernel
theorem dX12_before_41 : decode cX12_before 41 = .ok (.iadd, 1) := by decide +kernel
theorem dX12_before_42 : decode cX12_before 42 = .ok (.iaload, 1) := by decide +kernel
theorem dX12_before_43 : decode cX12_before 43 = .ok (.goto 4, 3) := by decide +kernel
theorem dX12_before_46 : decode cX12_before 46 = .ok (.iload_n 2, 1) := by decide +kernel
theorem dX12_before_47 : decode cX12_before 47 = .ok (.istore_n 2, 1) := by decide +kernel
theorem dX12_before_48 : decode cX12_before 48 = .ok (.iinc 3 1, 3) := by decide +kernel
theorem dX12_before_51 : decode cX12_before 51 = .ok (.goto (-46), 3) := by decide +kernel
theorem dX12_before_54 : decode cX12_before 54 = .ok (.iload_n 2, 1) := by decide +kernel
theorem dX12_before_55 : decode cX12_before 55 = .ok (.ireturn, 1) := by decide +kernel
def f_X12_before_K54 (x1 : Int32) (S2 : HSt) : Option (Int32 × HSt) := some (x1, S2)
def f_X12_before_B5 (a0 : Nat) (a1 : Int32) (kx54 : (Int32 → HSt → Option (Int32 × HSt))) (kb5 : (Int32 → Int32 → HSt → Option (Int32 × HSt))) (x3 : Int32) (x4 : Int32) (S5 : HSt) : Option (Int32 × HSt) := if a1 ≤ x4 then (kx54 x3 S5) else ((gR S5 a0 12 1).bind fun b7 => (aI S5 b7 0 (130 + x4)).bind fun v10 => (gR S5 a0 12 1).bind fun b11 => (aI S5 b11 0 (130 + a1)).bind fun v14 => if v10 = v14 then ((gR S5 a0 12 1).bind fun b16 => (aI S5 b16 0 (250 + x4)).bind fun v19 => kb5 v19 (x4 + 1) S5) else (kb5 x3 (x4 + 1) S5))
def f_X12_before_L5 (a0 : Nat) (a1 : Int32) (kx54 : (Int32 → HSt → Option (Int32 × HSt))) : Nat → Int32 → Int32 → HSt → Option (Int32 × HSt)
  | 0, _, _, _ => none
  | n + 1, x3, x4, S => f_X12_before_B5 a0 a1 kx54 (f_X12_before_L5 a0 a1 kx54 n) x3 x4 S
def f_X12_before (S : HSt) (a0 : Nat) (a1 : Int32) : Option (Int32 × HSt) := (f_X12_before_L5 a0 a1 f_X12_before_K54 FU) 100 0 S
abbrev rm_X12_before : Room := { frames := 0, cells := 0, slots := 0, locals := 0 }
abbrev w_X12_before : List Cond := Cond.code yX12_before cX12_before 4 (Option.some FieldType.int) :: lwG
theorem yd_X12_before : yX12_before.cls ≠ "java/lang/invoke/MethodHandle" ∧ yX12_before.cls ≠ "java/lang/invoke/VarHandle" ∧ (parseMethodDescriptor yX12_before.desc).map (fun d => d.parameters.length) = some 1 := by decide +kernel
theorem ye_X12_before : yX12_before.cls = RX12 ∧ yX12_before.cls ≠ "java/lang/invoke/MethodHandle" ∧ yX12_before.cls ≠ "java/lang/invoke/VarHandle" ∧ (parseMethodDescriptor yX12_before.desc).map (fun d => d.parameters.length) = some 1 := by decide +kernel
set_option maxHeartbeats 4000000 in
set_option maxRecDepth 100000 in
theorem c_X12_before (l : Launch) (D : va_G) (kA ρ : Nat → Nat) (HB : Heap) (S : HSt) (a0 : Nat) (a1 : Int32) (res : Int32 × HSt) (h : f_X12_before S a0 a1 = some res) : Met l yX12_before w_X12_before rm_X12_before (hPc D kA ρ HB S [.ref a0, .int a1]) (hQi D kA HB S res) 0 0 (hFree HB) := by
  refine Met.ofW (cc := cX12_before) (maxL := 4) (ret := (Option.some FieldType.int)) (by decide) rfl ?_
  intro p e s m args below meth c s₁ B hml hv
  obtain ⟨rfl, hE, h0⟩ := hv
  have hx := B.exec
  have hb := B.bytes
  have hr := B.returns
  have hts0 := atoms_spec (ws := w_X12_before) B.pre
  have hts : ∀ w ∈ lwG, w.before _ s = true := fun w hw => hts0 w (List.mem_cons_of_mem _ hw)
  have hown : s.vm.findClass RX12 = some m.cls := findClass_of_methodNamed B.named
  have hlocks := B.notSynchronized
  have hI : hqX D kA HB S.2 S s.heap [] := ⟨h0, Nat.le_refl _, fun _ q => absurd q List.not_mem_nil⟩
  have hl := lv_entry ([.ref a0, .int a1]) (n := 4) (Nat.le_of_ble_eq_true rfl)
  rw [lg_entry_eq]
  generalize (lg_sl ([.ref a0, .int a1]) ++ List.replicate (4 - (lg_sl ([.ref a0, .int a1])).length) Slot.unset).toArray = ls at hl ⊢
  have hl : lv_has ls 4 [(0, .ref a0), (1, .int a1)] := hl
  unfold f_X12_before at h
  refine lv_bipush (v := 100) hx hb dX12_before_0 (by decide) ?_
  refine lv_istore_n (lv' := [(2, .int 100), (0, .ref a0), (1, .int a1)]) hx hb dX12_before_2 rfl hl (by decide) rfl (fun ls hl => ?_)
  refine lv_iconst (v := 0) hx hb dX12_before_3 (by decide) ?_
  refine lv_istore_n (lv' := [(3, .int 0), (2, .int 100), (0, .ref a0), (1, .int a1)]) hx hb dX12_before_4 rfl hl (by decide) rfl (fun ls hl => ?_)
  have hK54 : ∀ (x1 : Int32) (S2 : HSt) (H : Heap) (locs : List Loc) (ls : Array Slot), f_X12_before_K54 x1 S2 = some res → hqX D kA HB S.2 S2 H locs → lv_has ls 4 [(2, .int x1)] → W p l e rm_X12_before s m ([.ref a0, .int a1] : List Value).toArray below meth c H locs 0 0 (MQ below (hQi D kA HB S res) ([.ref a0, .int a1] : List Value).toArray s 0 0 (hFree HB)) (F0 m 54 ls []) := by
    intro x1 S2 H locs ls h hI hl
    unfold f_X12_before_K54 at h
    refine lv_iload_n hx hb dX12_before_54 rfl (lv_at hl 0 rfl) ?_
    exact hq_iret hx hb hr hlocks h0 hI h dX12_before_55
  have hL5 : ∀ (n5 : Nat) (x3 : Int32) (x4 : Int32) (S5 : HSt) (H : Heap) (locs : List Loc) (ls : Array Slot), (f_X12_before_L5 a0 a1 f_X12_before_K54 n5) x3 x4 S5 = some res → hqX D kA HB S.2 S5 H locs → lv_has ls 4 [(0, .ref a0), (1, .int a1), (2, .int x3), (3, .int x4)] → W p l e rm_X12_before s m ([.ref a0, .int a1] : List Value).toArray below meth c H locs 0 0 (MQ below (hQi D kA HB S res) ([.ref a0, .int a1] : List Value).toArray s 0 0 (hFree HB)) (F0 m 5 ls []) := by
    intro n5
    induction n5 with
    | zero =>
      intro x3 x4 S5 H locs ls h
      have h : (none : Option (Int32 × HSt)) = some res := h
      cases h
    | succ n5 ih5 =>
      intro x3 x4 S5 H locs ls h hI hl
      have h : f_X12_before_B5 a0 a1 f_X12_before_K54 (f_X12_before_L5 a0 a1 f_X12_before_K54 n5) x3 x4 S5 = some res := h
      unfold f_X12_before_B5 at h
      refine lv_iload_n hx hb dX12_before_5 rfl (lv_at hl 3 rfl) ?_
      refine lv_iload_n hx hb dX12_before_6 rfl (lv_at hl 1 rfl) ?_
      refine lv_icmp_ge (tgt := 54) hx hb dX12_before_7 (by decide) (fun c6 => ?_) (fun c6 => ?_)
      · have h := hq_t h c6
        exact hK54 x3 S5 _ _ _ h hI (lv_sub hl [2] rfl)
      · have h := hq_f h c6
        refine lv_aload_n hx hb dX12_before_10 rfl (lv_at hl 0 rfl) ?_
        obtain ⟨b7, g8, h⟩ := hq_bind h
        obtain ⟨fs_g8, hs_g8, hv_g8⟩ := gR_at g8
        refine hq_get hx hb hts hown hE hI hs_g8 inG12 rfl 1 (by decide) kw_948 hv_g8 dX12_before_11 ?_
        refine lv_sipush (v := 130) hx hb dX12_before_14 (by decide) ?_
        refine lv_iload_n hx hb dX12_before_17 rfl (lv_at hl 3 rfl) ?_
        refine lv_iadd hx hb dX12_before_18 ?_
        obtain ⟨v10, g9, h⟩ := hq_bind h
        refine hq_iald hx hb hE hI g9 dX12_before_19 ?_
        refine lv_aload_n hx hb dX12_before_20 rfl (lv_at hl 0 rfl) ?_
        obtain ⟨b11, g12, h⟩ := hq_bind h
        obtain ⟨fs_g12, hs_g12, hv_g12⟩ := gR_at g12
        refine hq_get hx hb hts hown hE hI hs_g12 inG12 rfl 1 (by decide) kw_948 hv_g12 dX12_before_21 ?_
        refine lv_sipush (v := 130) hx hb dX12_before_24 (by decide) ?_
        refine lv_iload_n hx hb dX12_before_27 rfl (lv_at hl 1 rfl) ?_
        refine lv_iadd hx hb dX12_before_28 ?_
        obtain ⟨v14, g13, h⟩ := hq_bind h
        refine hq_iald hx hb hE hI g13 dX12_before_29 ?_
        refine lv_icmp_ne (tgt := 46) hx hb dX12_before_30 (by decide) (fun c15 => ?_) (fun c15 => ?_)
        · have h := hq_f h c15
          refine lv_iload_n hx hb dX12_before_46 rfl (lv_at hl 2 rfl) ?_
          refine lv_istore_n (lv' := [(2, .int x3), (0, .ref a0), (1, .int a1), (3, .int x4)]) hx hb dX12_before_47 rfl hl (by decide) rfl (fun ls hl => ?_)
          refine lv_iinc (v := (x4 + 1)) (lv' := [(3, .int (x4 + 1)), (2, .int x3), (0, .ref a0), (1, .int a1)]) hx hb dX12_before_48 hl (k := 3) rfl rfl (by decide) rfl (fun ls hl => ?_)
          refine lv_goto (tgt := 5) hx hb dX12_before_51 (by decide) ?_
          exact ih5 x3 (x4 + 1) S5 _ _ _ h hI (lv_sub hl [2, 3, 1, 0] rfl)
        · have h := hq_t h c15
          refine lv_aload_n hx hb dX12_before_33 rfl (lv_at hl 0 rfl) ?_
          obtain ⟨b16, g17, h⟩ := hq_bind h
          obtain ⟨fs_g17, hs_g17, hv_g17⟩ := gR_at g17
          refine hq_get hx hb hts hown hE hI hs_g17 inG12 rfl 1 (by decide) kw_948 hv_g17 dX12_before_34 ?_
          refine lv_sipush (v := 250) hx hb dX12_before_37 (by decide) ?_
          refine lv_iload_n hx hb dX12_before_40 rfl (lv_at hl 3 rfl) ?_
          refine lv_iadd hx hb dX12_before_41 ?_
          obtain ⟨v19, g18, h⟩ := hq_bind h
          refine hq_iald hx hb hE hI g18 dX12_before_42 ?_
          refine lv_goto (tgt := 47) hx hb dX12_before_43 (by decide) ?_
          refine lv_istore_n (lv' := [(2, .int v19), (0, .ref a0), (1, .int a1), (3, .int x4)]) hx hb dX12_before_47 rfl hl (by decide) rfl (fun ls hl => ?_)
          refine lv_iinc (v := (x4 + 1)) (lv' := [(3, .int (x4 + 1)), (2, .int v19), (0, .ref a0), (1, .int a1)]) hx hb dX12_before_48 hl (k := 3) rfl rfl (by decide) rfl (fun ls hl => ?_)
          refine lv_goto (tgt := 5) hx hb dX12_before_51 (by decide) ?_
          exact ih5 v19 (x4 + 1) S5 _ _ _ h hI (lv_sub hl [2, 3, 1, 0] rfl)
  exact hL5 FU 100 0 S _ _ _ h hI (lv_sub hl [2, 3, 1, 0] rfl)
-- RodDipsModel.letter(III)I
theorem dX12_letter_0 : decode cX12_letter 0 = .ok (.iload_n 2, 1) := by decide +kernel
theorem dX12_letter_1 : decode cX12_letter 1 = .ok (.tableswitch 127 0 5 #[39, 50, 61, 72, 101, 116], 39) := by decide +kernel
theorem dX12_letter_40 : decode cX12_letter 40 = .ok (.aload_n 0, 1) := by decide +kernel
theorem dX12_letter_41 : decode cX12_letter 41 = .ok (.getfield 9, 3) := by decide +kernel
theorem dX12_letter_44 : decode cX12_letter 44 = .ok (.sipush 130, 3) := by decide +kernel
theorem dX12_letter_47 : decode cX12_letter 47 = .ok (.iload_n 3, 1) := by decide +kernel
theorem dX12_letter_48 : decode cX12_letter 48 = .ok (.iadd, 1) := by decide +kernel
theorem dX12_letter_49 : decode cX12_letter 49 = .ok (.iaload, 1) := by decide +kernel
theorem dX12_letter_50 : decode cX12_letter 50 = .ok (.ireturn, 1) := by decide +kernel
theorem dX12_letter_51 : decode cX12_letter 51 = .ok (.aload_n 0, 1) := by decide +kernel
theorem dX12_letter_52 : decode cX12_letter 52 = .ok (.getfield 9, 3) := by decide +kernel
theorem dX12_letter_55 : decode cX12_letter 55 = .ok (.sipush 160, 3) := by decide +kernel
theorem dX12_letter_58 : decode cX12_letter 58 = .ok (.iload_n 3, 1) := by decide +kernel
theorem dX12_letter_59 : decode cX12_letter 59 = .ok (.iadd, 1) := by decide +kernel
theorem dX12_letter_60 : decode cX12_letter 60 = .ok (.iaload, 1) := by decide +kernel
theorem dX12_letter_61 : decode cX12_letter 61 = .ok (.ireturn, 1) := by decide +kernel
theorem dX12_letter_62 : decode cX12_letter 62 = .ok (.aload_n 0, 1) := by decide +kernel
theorem dX12_letter_63 : decode cX12_letter 63 = .ok (.getfield 9, 3) := by decide +kernel
theorem dX12_letter_66 : decode cX12_letter 66 = .ok (.sipush 190, 3) := by decide +kernel
theorem dX12_letter_69 : decode cX12_letter 69 = .ok (.iload_n 3, 1) := by decide +kernel
theorem dX12_letter_70 : decode cX12_letter 70 = .ok (.iadd, 1) := by decide +kernel
theorem dX12_letter_71 : decode cX12_letter 71 = .ok (.iaload, 1) := by decide +kernel
theorem dX12_letter_72 : decode cX12_letter 72 = .ok (.ireturn, 1) := by decide +kernel
theorem dX12_letter_73 : decode cX12_letter 73 = .ok (.iload_n 1, 1) := by decide +kernel
theorem dX12_letter_74 : decode cX12_letter 74 = .ok (.iconst 5, 1) := by decide +kernel
theorem dX12_letter_75 : decode cX12_letter 75 = .ok (.if_icmp .ge 16, 3) := by decide +kernel
theorem dX12_letter_78 : decode cX12_letter 78 = .ok (.aload_n 0, 1) := by decide +kernel
theorem dX12_letter_79 : decode cX12_letter 79 = .ok (.getfield 9, 3) := by decide +kernel
theorem dX12_letter_82 : decode cX12_letter 82 = .ok (.sipush 280, 3) := by decide +kernel
theorem dX12_letter_85 : decode cX12_letter 85 = .ok (.iload_n 3, 1) := by decide +kernel
theorem dX12_letter_86 : decode cX12_letter 86 = .ok (.iadd, 1) := by decide +kernel
theorem dX12_letter_87 : decode cX12_letter 87 = .ok (.iaload, 1) := by decide +kernel
theorem dX12_letter_88 : decode cX12_letter 88 = .ok (.goto 13, 3) := by decide +kernel
theorem dX12_letter_91 : decode cX12_letter 91 = .ok (.aload_n 0, 1) := by decide +kernel
theorem dX12_letter_92 : decode cX12_letter 92 = .ok (.getfield 9, 3) := by decide +kernel
theorem dX12_letter_95 : decode cX12_letter 95 = .ok (.sipush 220, 3) := by decide +kernel
theorem dX12_letter_98 : decode cX12_letter 98 = .ok (.iload_n 3, 1) := by decide +kernel
theorem dX12_letter_99 : decode cX12_letter 99 = .ok (.iadd, 1) := by decide +kernel
theorem dX12_letter_100 : decode cX12_letter 100 = .ok (.iaload, 1) := by decide +kernel
theorem dX12_letter_101 : decode cX12_letter 101 = .ok (.ireturn, 1) := by decide +kernel
theorem dX12_letter_102 : decode cX12_letter 102 = .ok (.iload_n 1, 1) := by decide +kernel
theorem dX12_letter_103 : decode cX12_letter 103 = .ok (.iconst 5, 1) := by decide +kernel
theorem dX12_letter_104 : decode cX12_letter 104 = .ok (.if_icmp .ge 7, 3) := by decide +kernel
theorem dX12_letter_107 : decode cX12_letter 107 = .ok (.iload_n 3, 1) := by decide +kernel
theorem dX12_letter_108 : decode cX12_letter 108 = .ok (.goto 8, 3) := by decide +kernel
theorem dX12_letter_111 : decode cX12_letter 111 = .ok (.aload_n 0, 1) := by decide +kernel
theorem dX12_letter_112 : decode cX12_letter 112 = .ok (.iload_n 3, 1) := by decide +kernel
theorem dX12_letter_113 : decode cX12_letter 113 = .ok (.invokevirtual 159, 3) := by decide +kernel
theorem dX12_letter_116 : decode cX12_letter 116 = .ok (.ireturn, 1) := by decide +kernel
theorem dX12_letter_117 : decode cX12_letter 117 = .ok (.aload_n 0, 1) := by decide +kernel
theorem dX12_letter_118 : decode cX12_letter 118 = .ok (.getfield 9, 3) := by decide +kernel
theorem dX12_letter_121 : decode cX12_letter 121 = .ok (.sipush 250, 3) := by decide +kernel
theorem dX12_letter_124 : decode cX12_letter 124 = .ok (.iload_n 3, 1) := by decide +kernel
theorem dX12_letter_125 : decode cX12_letter 125 = .ok (.iadd, 1) := by decide +kernel
theorem dX12_letter_126 : decode cX12_letter 126 = .ok (.iaload, 1) := by decide +kernel
theorem dX12_letter_127 : decode cX12_letter 127 = .ok (.ireturn, 1) := by decide +kernel
theorem dX12_letter_128 : decode cX12_letter 128 = .ok (.aload_n 0, 1) := by decide +kernel
theorem dX12_letter_129 : decode cX12_letter 129 = .ok (.iload_n 3, 1) := by decide +kernel
theorem dX12_letter_130 : decode cX12_letter 130 = .ok (.invokevirtual 57, 3) := by decide +kernel
theorem dX12_letter_133 : decode cX12_letter 133 = .ok (.ireturn, 1) := by decide +kernel
def f_X12_letter (S : HSt) (a0 : Nat) (a1 : Int32) (a2 : Int32) (a3 : Int32) : Option (Int32 × HSt) := if a2 = 0 then ((gR S a0 12 1).bind fun b7 => (aI S b7 0 (130 + a3)).bind fun v10 => some (v10, S)) else (if a2 = 1 then ((gR S a0 12 1).bind fun b11 => (aI S b11 0 (160 + a3)).bind fun v14 => some (v14, S)) else (if a2 = 2 then ((gR S a0 12 1).bind fun b15 => (aI S b15 0 (190 + a3)).bind fun v18 => some (v18, S)) else (if a2 = 3 then (if 5 ≤ a1 then ((gR S a0 12 1).bind fun b20 => (aI S b20 0 (220 + a3)).bind fun v23 => some (v23, S)) else ((gR S a0 12 1).bind fun b24 => (aI S b24 0 (280 + a3)).bind fun v27 => some (v27, S))) else (if a2 = 4 then (if 5 ≤ a1 then (if gC S a0 = some 12 then (b2 (f_X12_before S a0 a3) fun v32 S31 => some (v32, S31)) else none) else (some (a3, S))) else (if a2 = 5 then ((gR S a0 12 1).bind fun b33 => (aI S b33 0 (250 + a3)).bind fun v36 => some (v36, S)) else (if gC S a0 = some 12 then (b2 (f_X12_nearOf S a0 a3) fun v40 S39 => some (v40, S39)) else none))))))
abbrev rm_X12_letter : Room := { frames := 2, cells := 0, slots := 0, locals := 41 }
abbrev w_X12_letter : List Cond := Cond.code yX12_letter cX12_letter 4 (Option.some FieldType.int) :: lwG
theorem yd_X12_letter : yX12_letter.cls ≠ "java/lang/invoke/MethodHandle" ∧ yX12_letter.cls ≠ "java/lang/invoke/VarHandle" ∧ (parseMethodDescriptor yX12_letter.desc).map (fun d => d.parameters.length) = some 3 := by decide +kernel
theorem ye_X12_letter : yX12_letter.cls = RX12 ∧ yX12_letter.cls ≠ "java/lang/invoke/MethodHandle" ∧ yX12_letter.cls ≠ "java/lang/invoke/VarHandle" ∧ (parseMethodDescriptor yX12_letter.desc).map (fun d => d.parameters.length) = some 3 := by decide +kernel
set_option maxHeartbeats 4000000 in
set_option maxRecDepth 100000 in
theorem c_X12_letter (l : Launch) (D : va_G) (kA ρ : Nat → Nat) (HB : Heap) (S : HSt) (a0 : Nat) (a1 : Int32) (a2 : Int32) (a3 : Int32) (res : Int32 × HSt) (h : f_X12_letter S a0 a1 a2 a3 = some res) : Met l yX12_letter w_X12_letter rm_X12_letter (hPc D kA ρ HB S [.ref a0, .int a1, .int a2, .int a3]) (hQi D kA HB S res) 0 0 (hFree HB) := by
  refine Met.ofW (cc := cX12_letter) (maxL := 4) (ret := (Option.some FieldType.int)) (by decide) rfl ?_
  intro p e s m args below meth c s₁ B hml hv
  obtain ⟨rfl, hE, h0⟩ := hv
  have hx := B.exec
  have hb := B.bytes
  have hr := B.returns
  have hts0 := atoms_spec (ws := w_X12_letter) B.pre
  have hts : ∀ w ∈ lwG, w.before _ s = true := fun w hw => hts0 w (List.mem_cons_of_mem _ hw)
  have hown : s.vm.findClass RX12 = some m.cls := findClass_of_methodNamed B.named
  have hlocks := B.notSynchronized
  have hI : hqX D kA HB S.2 S s.heap [] := ⟨h0, Nat.le_refl _, fun _ q => absurd q List.not_mem_nil⟩
  have hl := lv_entry ([.ref a0, .int a1, .int a2, .int a3]) (n := 4) (Nat.le_of_ble_eq_true rfl)
  rw [lg_entry_eq]
  generalize (lg_sl ([.ref a0, .int a1, .int a2, .int a3]) ++ List.replicate (4 - (lg_sl ([.ref a0, .int a1, .int a2, .int a3])).length) Slot.unset).toArray = ls at hl ⊢
  have hl : lv_has ls 4 [(0, .ref a0), (1, .int a1), (2, .int a2), (3, .int a3)] := hl
  unfold f_X12_letter at h
  refine lv_iload_n hx hb dX12_letter_0 rfl (lv_at hl 2 rfl) ?_
  by_cases c1 : a2 = 0
  · have h := hq_t h c1
    refine lv_tableIn (tgt := 40) hx hb dX12_letter_1 (by rw [c1]; decide) (by rw [c1]; decide) (by rw [c1]; rfl) (by decide) ?_
    refine lv_aload_n hx hb dX12_letter_40 rfl (lv_at hl 0 rfl) ?_
    obtain ⟨b7, g8, h⟩ := hq_bind h
    obtain ⟨fs_g8, hs_g8, hv_g8⟩ := gR_at g8
    refine hq_get hx hb hts hown hE hI hs_g8 inG12 rfl 1 (by decide) kw_948 hv_g8 dX12_letter_41 ?_
    refine lv_sipush (v := 130) hx hb dX12_letter_44 (by decide) ?_
    refine lv_iload_n hx hb dX12_letter_47 rfl (lv_at hl 3 rfl) ?_
    refine lv_iadd hx hb dX12_letter_48 ?_
    obtain ⟨v10, g9, h⟩ := hq_bind h
    refine hq_iald hx hb hE hI g9 dX12_letter_49 ?_
    exact hq_iret hx hb hr hlocks h0 hI h dX12_letter_50
  have h := hq_f h c1
  by_cases c2 : a2 = 1
  · have h := hq_t h c2
    refine lv_tableIn (tgt := 51) hx hb dX12_letter_1 (by rw [c2]; decide) (by rw [c2]; decide) (by rw [c2]; rfl) (by decide) ?_
    refine lv_aload_n hx hb dX12_letter_51 rfl (lv_at hl 0 rfl) ?_
    obtain ⟨b11, g12, h⟩ := hq_bind h
    obtain ⟨fs_g12, hs_g12, hv_g12⟩ := gR_at g12
    refine hq_get hx hb hts hown hE hI hs_g12 inG12 rfl 1 (by decide) kw_948 hv_g12 dX12_letter_52 ?_
    refine lv_sipush (v := 160) hx hb dX12_letter_55 (by decide) ?_
    refine lv_iload_n hx hb dX12_letter_58 rfl (lv_at hl 3 rfl) ?_
    refine lv_iadd hx hb dX12_letter_59 ?_
    obtain ⟨v14, g13, h⟩ := hq_bind h
    refine hq_iald hx hb hE hI g13 dX12_letter_60 ?_
    exact hq_iret hx hb hr hlocks h0 hI h dX12_letter_61
  have h := hq_f h c2
  by_cases c3 : a2 = 2
  · have h := hq_t h c3
    refine lv_tableIn (tgt := 62) hx hb dX12_letter_1 (by rw [c3]; decide) (by rw [c3]; decide) (by rw [c3]; rfl) (by decide) ?_
    refine lv_aload_n hx hb dX12_letter_62 rfl (lv_at hl 0 rfl) ?_
    obtain ⟨b15, g16, h⟩ := hq_bind h
    obtain ⟨fs_g16, hs_g16, hv_g16⟩ := gR_at g16
    refine hq_get hx hb hts hown hE hI hs_g16 inG12 rfl 1 (by decide) kw_948 hv_g16 dX12_letter_63 ?_
    refine lv_sipush (v := 190) hx hb dX12_letter_66 (by decide) ?_
    refine lv_iload_n hx hb dX12_letter_69 rfl (lv_at hl 3 rfl) ?_
    refine lv_iadd hx hb dX12_letter_70 ?_
    obtain ⟨v18, g17, h⟩ := hq_bind h
    refine hq_iald hx hb hE hI g17 dX12_letter_71 ?_
    exact hq_iret hx hb hr hlocks h0 hI h dX12_letter_72
  have h := hq_f h c3
  by_cases c4 : a2 = 3
  · have h := hq_t h c4
    refine lv_tableIn (tgt := 73) hx hb dX12_letter_1 (by rw [c4]; decide) (by rw [c4]; decide) (by rw [c4]; rfl) (by decide) ?_
    refine lv_iload_n hx hb dX12_letter_73 rfl (lv_at hl 1 rfl) ?_
    refine lv_iconst (v := 5) hx hb dX12_letter_74 (by decide) ?_
    refine lv_icmp_ge (tgt := 91) hx hb dX12_letter_75 (by decide) (fun c19 => ?_) (fun c19 => ?_)
    · have h := hq_t h c19
      refine lv_aload_n hx hb dX12_letter_91 rfl (lv_at hl 0 rfl) ?_
      obtain ⟨b20, g21, h⟩ := hq_bind h
      obtain ⟨fs_g21, hs_g21, hv_g21⟩ := gR_at g21
      refine hq_get hx hb hts hown hE hI hs_g21 inG12 rfl 1 (by decide) kw_948 hv_g21 dX12_letter_92 ?_
      refine lv_sipush (v := 220) hx hb dX12_letter_95 (by decide) ?_
      refine lv_iload_n hx hb dX12_letter_98 rfl (lv_at hl 3 rfl) ?_
      refine lv_iadd hx hb dX12_letter_99 ?_
      obtain ⟨v23, g22, h⟩ := hq_bind h
      refine hq_iald hx hb hE hI g22 dX12_letter_100 ?_
      exact hq_iret hx hb hr hlocks h0 hI h dX12_letter_101
    · have h := hq_f h c19
      refine lv_aload_n hx hb dX12_letter_78 rfl (lv_at hl 0 rfl) ?_
      obtain ⟨b24, g25, h⟩ := hq_bind h
      obtain ⟨fs_g25, hs_g25, hv_g25⟩ := gR_at g25
      refine hq_get hx hb hts hown hE hI hs_g25 inG12 rfl 1 (by decide) kw_948 hv_g25 dX12_letter_79 ?_
      refine lv_sipush (v := 280) hx hb dX12_letter_82 (by decide) ?_
      refine lv_iload_n hx hb dX12_letter_85 rfl (lv_at hl 3 rfl) ?_
      refine lv_iadd hx hb dX12_letter_86 ?_
      obtain ⟨v27, g26, h⟩ := hq_bind h
      refine hq_iald hx hb hE hI g26 dX12_letter_87 ?_
      refine lv_goto (tgt := 101) hx hb dX12_letter_88 (by decide) ?_
      exact hq_iret hx hb hr hlocks h0 hI h dX12_letter_101
  have h := hq_f h c4
  by_cases c5 : a2 = 4
  · have h := hq_t h c5
    refine lv_tableIn (tgt := 102) hx hb dX12_letter_1 (by rw [c5]; decide) (by rw [c5]; decide) (by rw [c5]; rfl) (by decide) ?_
    refine lv_iload_n hx hb dX12_letter_102 rfl (lv_at hl 1 rfl) ?_
    refine lv_iconst (v := 5) hx hb dX12_letter_103 (by decide) ?_
    refine lv_icmp_ge (tgt := 111) hx hb dX12_letter_104 (by decide) (fun c28 => ?_) (fun c28 => ?_)
    · have h := hq_t h c28
      refine lv_aload_n hx hb dX12_letter_111 rfl (lv_at hl 0 rfl) ?_
      refine lv_iload_n hx hb dX12_letter_112 rfl (lv_at hl 3 rfl) ?_
      obtain ⟨g30, h⟩ := hq_g h
      obtain ⟨v32, S31, g29, h⟩ := hq_b2 h
      refine hq_calli hI (va_runV (As := [.int a3]) (rest := []) ⟨hx, hb, hml, hown, hts⟩ (c_X12_before l D kA ρ HB S a0 a3 _ g29) (cwV 1 hts (gdIn (List.forall_mem_cons.mpr ⟨kw_1156, (List.forall_mem_cons.mpr ⟨kw_1158, (List.forall_mem_cons.mpr ⟨ks_53, (List.forall_mem_cons.mpr ⟨kw_6, (fun _ h => absurd h List.not_mem_nil)⟩)⟩)⟩)⟩) kw_1159) rfl rfl rfl ye_X12_before ⟨Nat.le_of_ble_eq_true rfl, Nat.le_of_ble_eq_true rfl⟩) (hq_preC hE hI g30 rfl _) rfl rfl hl.1 rfl (lv_room (Nat.le_of_ble_eq_true rfl)) dX12_letter_113 ⟨Nat.le_of_ble_eq_true rfl, Nat.le_of_ble_eq_true rfl⟩) (fun H locs hI => ?_)
      exact hq_iret hx hb hr hlocks h0 hI h dX12_letter_116
    · have h := hq_f h c28
      refine lv_iload_n hx hb dX12_letter_107 rfl (lv_at hl 3 rfl) ?_
      refine lv_goto (tgt := 116) hx hb dX12_letter_108 (by decide) ?_
      exact hq_iret hx hb hr hlocks h0 hI h dX12_letter_116
  have h := hq_f h c5
  by_cases c6 : a2 = 5
  · have h := hq_t h c6
    refine lv_tableIn (tgt := 117) hx hb dX12_letter_1 (by rw [c6]; decide) (by rw [c6]; decide) (by rw [c6]; rfl) (by decide) ?_
    refine lv_aload_n hx hb dX12_letter_117 rfl (lv_at hl 0 rfl) ?_
    obtain ⟨b33, g34, h⟩ := hq_bind h
    obtain ⟨fs_g34, hs_g34, hv_g34⟩ := gR_at g34
    refine hq_get hx hb hts hown hE hI hs_g34 inG12 rfl 1 (by decide) kw_948 hv_g34 dX12_letter_118 ?_
    refine lv_sipush (v := 250) hx hb dX12_letter_121 (by decide) ?_
    refine lv_iload_n hx hb dX12_letter_124 rfl (lv_at hl 3 rfl) ?_
    refine lv_iadd hx hb dX12_letter_125 ?_
    obtain ⟨v36, g35, h⟩ := hq_bind h
    refine hq_iald hx hb hE hI g35 dX12_letter_126 ?_
    exact hq_iret hx hb hr hlocks h0 hI h dX12_letter_127
  have h := hq_f h c6
  have t_c1 := lv_neT c1 (a := 0) (by decide)
  have t_c2 := lv_neT c2 (a := 1) (by decide)
  have t_c3 := lv_neT c3 (a := 2) (by decide)
  have t_c4 := lv_neT c4 (a := 3) (by decide)
  have t_c5 := lv_neT c5 (a := 4) (by decide)
  have t_c6 := lv_neT c6 (a := 5) (by decide)
  refine lv_tableOut (tgt := 128) hx hb dX12_letter_1 (by omega) (by decide) ?_
  refine lv_aload_n hx hb dX12_letter_128 rfl (lv_at hl 0 rfl) ?_
  refine lv_iload_n hx hb dX12_letter_129 rfl (lv_at hl 3 rfl) ?_
  obtain ⟨g38, h⟩ := hq_g h
  obtain ⟨v40, S39, g37, h⟩ := hq_b2 h
  refine hq_calli hI (va_runV (As := [.int a3]) (rest := []) ⟨hx, hb, hml, hown, hts⟩ (c_X12_nearOf l D kA ρ HB S a0 a3 _ g37) (cwV 1 hts (gdIn (List.forall_mem_cons.mpr ⟨kw_1039, (List.forall_mem_cons.mpr ⟨kw_1041, (List.forall_mem_cons.mpr ⟨ks_32, (List.forall_mem_cons.mpr ⟨kw_6, (fun _ h => absurd h List.not_mem_nil)⟩)⟩)⟩)⟩) kw_1042) rfl rfl rfl ye_X12_nearOf ⟨Nat.le_of_ble_eq_true rfl, Nat.le_of_ble_eq_true rfl⟩) (hq_preC hE hI g38 rfl _) rfl rfl hl.1 rfl (lv_room (Nat.le_of_ble_eq_true rfl)) dX12_letter_130 ⟨Nat.le_of_ble_eq_true rfl, Nat.le_of_ble_eq_true rfl⟩) (fun H locs hI => ?_)
  exact hq_iret hx hb hr hlocks h0 hI h dX12_letter_133
