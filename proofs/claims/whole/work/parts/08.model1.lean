/-! the reference, first half: printed by wip/whole/gen.py -/
-- RodDipsModel.in(III)Z
theorem dX12_in_0 : decode cX12_in 0 = .ok (.iload_n 0, 1) := by decide +kernel
theorem dX12_in_1 : decode cX12_in 1 = .ok (.iload_n 1, 1) := by decide +kernel
theorem dX12_in_2 : decode cX12_in 2 = .ok (.if_icmp .lt 12, 3) := by decide +kernel
theorem dX12_in_5 : decode cX12_in 5 = .ok (.iload_n 0, 1) := by decide +kernel
theorem dX12_in_6 : decode cX12_in 6 = .ok (.iload_n 2, 1) := by decide +kernel
theorem dX12_in_7 : decode cX12_in 7 = .ok (.if_icmp .gt 7, 3) := by decide +kernel
theorem dX12_in_10 : decode cX12_in 10 = .ok (.iconst 1, 1) := by decide +kernel
theorem dX12_in_11 : decode cX12_in 11 = .ok (.goto 4, 3) := by decide +kernel
theorem dX12_in_14 : decode cX12_in 14 = .ok (.iconst 0, 1) := by decide +kernel
theorem dX12_in_15 : decode cX12_in 15 = .ok (.ireturn, 1) := by decide +kernel
def f_X12_in (S : HSt) (a0 : Int32) (a1 : Int32) (a2 : Int32) : Option (Int32 × HSt) := if a0 < a1 then (some (0, S)) else (if a2 < a0 then (some (0, S)) else (some (1, S)))
abbrev rm_X12_in : Room := { frames := 0, cells := 0, slots := 0, locals := 0 }
abbrev w_X12_in : List Cond := Cond.code yX12_in cX12_in 3 (Option.some FieldType.boolean) :: lwG
theorem yd_X12_in : yX12_in.cls ≠ "java/lang/invoke/MethodHandle" ∧ yX12_in.cls ≠ "java/lang/invoke/VarHandle" ∧ (parseMethodDescriptor yX12_in.desc).map (fun d => d.parameters.length) = some 3 := by decide +kernel
set_option maxHeartbeats 4000000 in
set_option maxRecDepth 100000 in
theorem c_X12_in (l : Launch) (D : va_G) (kA ρ : Nat → Nat) (HB : Heap) (S : HSt) (a0 : Int32) (a1 : Int32) (a2 : Int32) (res : Int32 × HSt) (h : f_X12_in S a0 a1 a2 = some res) : Met l yX12_in w_X12_in rm_X12_in (hPc D kA ρ HB S [.int a0, .int a1, .int a2]) (hQi D kA HB S res) 0 0 (hFree HB) := by
  refine Met.ofW (cc := cX12_in) (maxL := 3) (ret := (Option.some FieldType.boolean)) (by decide) rfl ?_
  intro p e s m args below meth c s₁ B hml hv
  obtain ⟨rfl, hE, h0⟩ := hv
  have hx := B.exec
  have hb := B.bytes
  have hr := B.returns
  have hts0 := atoms_spec (ws := w_X12_in) B.pre
  have hts : ∀ w ∈ lwG, w.before _ s = true := fun w hw => hts0 w (List.mem_cons_of_mem _ hw)
  have hown : s.vm.findClass RX12 = some m.cls := findClass_of_methodNamed B.named
  have hlocks := B.notSynchronized
  have hI : hqX D kA HB S.2 S s.heap [] := ⟨h0, Nat.le_refl _, fun _ q => absurd q List.not_mem_nil⟩
  have hl := lv_entry ([.int a0, .int a1, .int a2]) (n := 3) (Nat.le_of_ble_eq_true rfl)
  rw [lg_entry_eq]
  generalize (lg_sl ([.int a0, .int a1, .int a2]) ++ List.replicate (3 - (lg_sl ([.int a0, .int a1, .int a2])).length) Slot.unset).toArray = ls at hl ⊢
  have hl : lv_has ls 3 [(0, .int a0), (1, .int a1), (2, .int a2)] := hl
  unfold f_X12_in at h
  refine lv_iload_n hx hb dX12_in_0 rfl (lv_at hl 0 rfl) ?_
  refine lv_iload_n hx hb dX12_in_1 rfl (lv_at hl 1 rfl) ?_
  refine lv_icmp_lt (tgt := 14) hx hb dX12_in_2 (by decide) (fun c1 => ?_) (fun c1 => ?_)
  · have h := hq_t h c1
    refine lv_iconst (v := 0) hx hb dX12_in_14 (by decide) ?_
    exact hq_zret hx hb hr hlocks h0 hI (by decide) h dX12_in_15
  · have h := hq_f h c1
    refine lv_iload_n hx hb dX12_in_5 rfl (lv_at hl 0 rfl) ?_
    refine lv_iload_n hx hb dX12_in_6 rfl (lv_at hl 2 rfl) ?_
    refine lv_icmp_gt (tgt := 14) hx hb dX12_in_7 (by decide) (fun c2 => ?_) (fun c2 => ?_)
    · have h := hq_t h c2
      refine lv_iconst (v := 0) hx hb dX12_in_14 (by decide) ?_
      exact hq_zret hx hb hr hlocks h0 hI (by decide) h dX12_in_15
    · have h := hq_f h c2
      refine lv_iconst (v := 1) hx hb dX12_in_10 (by decide) ?_
      refine lv_goto (tgt := 15) hx hb dX12_in_11 (by decide) ?_
      exact hq_zret hx hb hr hlocks h0 hI (by decide) h dX12_in_15
-- RodDipsModel.size(I)I
theorem dX12_size_0 : decode cX12_size 0 = .ok (.iload_n 0, 1) := by decide +kernel
theorem dX12_size_1 : decode cX12_size 1 = .ok (.ifCond .ge 8, 3) := by decide +kernel
theorem dX12_size_4 : decode cX12_size 4 = .ok (.iload_n 0, 1) := by decide +kernel
theorem dX12_size_5 : decode cX12_size 5 = .ok (.ineg, 1) := by decide +kernel
theorem dX12_size_6 : decode cX12_size 6 = .ok (.goto 4, 3) := by decide +kernel
theorem dX12_size_9 : decode cX12_size 9 = .ok (.iload_n 0, 1) := by decide +kernel
theorem dX12_size_10 : decode cX12_size 10 = .ok (.ireturn, 1) := by decide +kernel
def f_X12_size (S : HSt) (a0 : Int32) : Option (Int32 × HSt) := if 0 ≤ a0 then (some (a0, S)) else (some (-a0, S))
abbrev rm_X12_size : Room := { frames := 0, cells := 0, slots := 0, locals := 0 }
abbrev w_X12_size : List Cond := Cond.code yX12_size cX12_size 1 (Option.some FieldType.int) :: lwG
theorem yd_X12_size : yX12_size.cls ≠ "java/lang/invoke/MethodHandle" ∧ yX12_size.cls ≠ "java/lang/invoke/VarHandle" ∧ (parseMethodDescriptor yX12_size.desc).map (fun d => d.parameters.length) = some 1 := by decide +kernel
set_option maxHeartbeats 4000000 in
set_option maxRecDepth 100000 in
theorem c_X12_size (l : Launch) (D : va_G) (kA ρ : Nat → Nat) (HB : Heap) (S : HSt) (a0 : Int32) (res : Int32 × HSt) (h : f_X12_size S a0 = some res) : Met l yX12_size w_X12_size rm_X12_size (hPc D kA ρ HB S [.int a0]) (hQi D kA HB S res) 0 0 (hFree HB) := by
  refine Met.ofW (cc := cX12_size) (maxL := 1) (ret := (Option.some FieldType.int)) (by decide) rfl ?_
  intro p e s m args below meth c s₁ B hml hv
  obtain ⟨rfl, hE, h0⟩ := hv
  have hx := B.exec
  have hb := B.bytes
  have hr := B.returns
  have hts0 := atoms_spec (ws := w_X12_size) B.pre
  have hts : ∀ w ∈ lwG, w.before _ s = true := fun w hw => hts0 w (List.mem_cons_of_mem _ hw)
  have hown : s.vm.findClass RX12 = some m.cls := findClass_of_methodNamed B.named
  have hlocks := B.notSynchronized
  have hI : hqX D kA HB S.2 S s.heap [] := ⟨h0, Nat.le_refl _, fun _ q => absurd q List.not_mem_nil⟩
  have hl := lv_entry ([.int a0]) (n := 1) (Nat.le_of_ble_eq_true rfl)
  rw [lg_entry_eq]
  generalize (lg_sl ([.int a0]) ++ List.replicate (1 - (lg_sl ([.int a0])).length) Slot.unset).toArray = ls at hl ⊢
  have hl : lv_has ls 1 [(0, .int a0)] := hl
  unfold f_X12_size at h
  refine lv_iload_n hx hb dX12_size_0 rfl (lv_at hl 0 rfl) ?_
  refine lv_if_ge (tgt := 9) hx hb dX12_size_1 (by decide) (fun c1 => ?_) (fun c1 => ?_)
  · have h := hq_t h c1
    refine lv_iload_n hx hb dX12_size_9 rfl (lv_at hl 0 rfl) ?_
    exact hq_iret hx hb hr hlocks h0 hI h dX12_size_10
  · have h := hq_f h c1
    refine lv_iload_n hx hb dX12_size_4 rfl (lv_at hl 0 rfl) ?_
    refine lv_ineg hx hb dX12_size_5 ?_
    refine lv_goto (tgt := 10) hx hb dX12_size_6 (by decide) ?_
    exact hq_iret hx hb hr hlocks h0 hI h dX12_size_10
-- RodDipsModel.count1(I)I
theorem dX12_count1_0 : decode cX12_count1 0 = .ok (.iconst 0, 1) := by decide +kernel
theorem dX12_count1_1 : decode cX12_count1 1 = .ok (.istore_n 1, 1) := by decide +kernel
theorem dX12_count1_2 : decode cX12_count1 2 = .ok (.iconst 0, 1) := by decide +kernel
theorem dX12_count1_3 : decode cX12_count1 3 = .ok (.istore_n 2, 1) := by decide +kernel
theorem dX12_count1_4 : decode cX12_count1 4 = .ok (.iload_n 2, 1) := by decide +kernel
theorem dX12_count1_5 : decode cX12_count1 5 = .ok (.bipush 30, 2) := by decide +kernel
theorem dX12_count1_7 : decode cX12_count1 7 = .ok (.if_icmp .ge 17, 3) := by decide +kernel
theorem dX12_count1_10 : decode cX12_count1 10 = .ok (.iload_n 1, 1) := by decide +kernel
theorem dX12_count1_11 : decode cX12_count1 11 = .ok (.iload_n 0, 1) := by decide +kernel
theorem dX12_count1_12 : decode cX12_count1 12 = .ok (.iload_n 2, 1) := by decide +kernel
theorem dX12_count1_13 : decode cX12_count1 13 = .ok (.ishr, 1) := by decide +kernel
theorem dX12_count1_14 : decode cX12_count1 14 = .ok (.iconst 1, 1) := by decide +kernel
theorem dX12_count1_15 : decode cX12_count1 15 = .ok (.iand, 1) := by decide +kernel
theorem dX12_count1_16 : decode cX12_count1 16 = .ok (.iadd, 1) := by decide +kernel
theorem dX12_count1_17 : decode cX12_count1 17 = .ok (.istore_n 1, 1) := by decide +kernel
theorem dX12_count1_18 : decode cX12_count1 18 = .ok (.iinc 2 1, 3) := by decide +kernel
theorem dX12_count1_21 : decode cX12_count1 21 = .ok (.goto (-17), 3) := by decide +kernel
theorem dX12_count1_24 : decode cX12_count1 24 = .ok (.iload_n 1, 1) := by decide +kernel
theorem dX12_count1_25 : decode cX12_count1 25 = .ok (.ireturn, 1) := by decide +kernel
def f_X12_count1_K24 (x1 : Int32) (S2 : HSt) : Option (Int32 × HSt) := some (x1, S2)
def f_X12_count1_B4 (a0 : Int32) (kx24 : (Int32 → HSt → Option (Int32 × HSt))) (kb4 : (Int32 → Int32 → HSt → Option (Int32 × HSt))) (x3 : Int32) (x4 : Int32) (S5 : HSt) : Option (Int32 × HSt) := if 30 ≤ x4 then (kx24 x3 S5) else (kb4 (x3 + ((a0 >>> (x4 &&& 31)) &&& 1)) (x4 + 1) S5)
def f_X12_count1_L4 (a0 : Int32) (kx24 : (Int32 → HSt → Option (Int32 × HSt))) : Nat → Int32 → Int32 → HSt → Option (Int32 × HSt)
  | 0, _, _, _ => none
  | n + 1, x3, x4, S => f_X12_count1_B4 a0 kx24 (f_X12_count1_L4 a0 kx24 n) x3 x4 S
def f_X12_count1 (S : HSt) (a0 : Int32) : Option (Int32 × HSt) := (f_X12_count1_L4 a0 f_X12_count1_K24 FU) 0 0 S
abbrev rm_X12_count1 : Room := { frames := 0, cells := 0, slots := 0, locals := 0 }
abbrev w_X12_count1 : List Cond := Cond.code yX12_count1 cX12_count1 3 (Option.some FieldType.int) :: lwG
theorem yd_X12_count1 : yX12_count1.cls ≠ "java/lang/invoke/MethodHandle" ∧ yX12_count1.cls ≠ "java/lang/invoke/VarHandle" ∧ (parseMethodDescriptor yX12_count1.desc).map (fun d => d.parameters.length) = some 1 := by decide +kernel
set_option maxHeartbeats 4000000 in
set_option maxRecDepth 100000 in
theorem c_X12_count1 (l : Launch) (D : va_G) (kA ρ : Nat → Nat) (HB : Heap) (S : HSt) (a0 : Int32) (res : Int32 × HSt) (h : f_X12_count1 S a0 = some res) : Met l yX12_count1 w_X12_count1 rm_X12_count1 (hPc D kA ρ HB S [.int a0]) (hQi D kA HB S res) 0 0 (hFree HB) := by
  refine Met.ofW (cc := cX12_count1) (maxL := 3) (ret := (Option.some FieldType.int)) (by decide) rfl ?_
  intro p e s m args below meth c s₁ B hml hv
  obtain ⟨rfl, hE, h0⟩ := hv
  have hx := B.exec
  have hb := B.bytes
  have hr := B.returns
  have hts0 := atoms_spec (ws := w_X12_count1) B.pre
  have hts : ∀ w ∈ lwG, w.before _ s = true := fun w hw => hts0 w (List.mem_cons_of_mem _ hw)
  have hown : s.vm.findClass RX12 = some m.cls := findClass_of_methodNamed B.named
  have hlocks := B.notSynchronized
  have hI : hqX D kA HB S.2 S s.heap [] := ⟨h0, Nat.le_refl _, fun _ q => absurd q List.not_mem_nil⟩
  have hl := lv_entry ([.int a0]) (n := 3) (Nat.le_of_ble_eq_true rfl)
  rw [lg_entry_eq]
  generalize (lg_sl ([.int a0]) ++ List.replicate (3 - (lg_sl ([.int a0])).length) Slot.unset).toArray = ls at hl ⊢
  have hl : lv_has ls 3 [(0, .int a0)] := hl
  unfold f_X12_count1 at h
  refine lv_iconst (v := 0) hx hb dX12_count1_0 (by decide) ?_
  refine lv_istore_n (lv' := [(1, .int 0), (0, .int a0)]) hx hb dX12_count1_1 rfl hl (by decide) rfl (fun ls hl => ?_)
  refine lv_iconst (v := 0) hx hb dX12_count1_2 (by decide) ?_
  refine lv_istore_n (lv' := [(2, .int 0), (1, .int 0), (0, .int a0)]) hx hb dX12_count1_3 rfl hl (by decide) rfl (fun ls hl => ?_)
  have hK24 : ∀ (x1 : Int32) (S2 : HSt) (H : Heap) (locs : List Loc) (ls : Array Slot), f_X12_count1_K24 x1 S2 = some res → hqX D kA HB S.2 S2 H locs → lv_has ls 3 [(1, .int x1)] → W p l e rm_X12_count1 s m ([.int a0] : List Value).toArray below meth c H locs 0 0 (MQ below (hQi D kA HB S res) ([.int a0] : List Value).toArray s 0 0 (hFree HB)) (F0 m 24 ls []) := by
    intro x1 S2 H locs ls h hI hl
    unfold f_X12_count1_K24 at h
    refine lv_iload_n hx hb dX12_count1_24 rfl (lv_at hl 0 rfl) ?_
    exact hq_iret hx hb hr hlocks h0 hI h dX12_count1_25
  have hL4 : ∀ (n4 : Nat) (x3 : Int32) (x4 : Int32) (S5 : HSt) (H : Heap) (locs : List Loc) (ls : Array Slot), (f_X12_count1_L4 a0 f_X12_count1_K24 n4) x3 x4 S5 = some res → hqX D kA HB S.2 S5 H locs → lv_has ls 3 [(0, .int a0), (1, .int x3), (2, .int x4)] → W p l e rm_X12_count1 s m ([.int a0] : List Value).toArray below meth c H locs 0 0 (MQ below (hQi D kA HB S res) ([.int a0] : List Value).toArray s 0 0 (hFree HB)) (F0 m 4 ls []) := by
    intro n4
    induction n4 with
    | zero =>
      intro x3 x4 S5 H locs ls h
      have h : (none : Option (Int32 × HSt)) = some res := h
      cases h
    | succ n4 ih4 =>
      intro x3 x4 S5 H locs ls h hI hl
      have h : f_X12_count1_B4 a0 f_X12_count1_K24 (f_X12_count1_L4 a0 f_X12_count1_K24 n4) x3 x4 S5 = some res := h
      unfold f_X12_count1_B4 at h
      refine lv_iload_n hx hb dX12_count1_4 rfl (lv_at hl 2 rfl) ?_
      refine lv_bipush (v := 30) hx hb dX12_count1_5 (by decide) ?_
      refine lv_icmp_ge (tgt := 24) hx hb dX12_count1_7 (by decide) (fun c6 => ?_) (fun c6 => ?_)
      · have h := hq_t h c6
        exact hK24 x3 S5 _ _ _ h hI (lv_sub hl [1] rfl)
      · have h := hq_f h c6
        refine lv_iload_n hx hb dX12_count1_10 rfl (lv_at hl 1 rfl) ?_
        refine lv_iload_n hx hb dX12_count1_11 rfl (lv_at hl 0 rfl) ?_
        refine lv_iload_n hx hb dX12_count1_12 rfl (lv_at hl 2 rfl) ?_
        refine lv_ishr hx hb dX12_count1_13 ?_
        refine lv_iconst (v := 1) hx hb dX12_count1_14 (by decide) ?_
        refine lv_iand hx hb dX12_count1_15 ?_
        refine lv_iadd hx hb dX12_count1_16 ?_
        refine lv_istore_n (lv' := [(1, .int (x3 + ((a0 >>> (x4 &&& 31)) &&& 1))), (0, .int a0), (2, .int x4)]) hx hb dX12_count1_17 rfl hl (by decide) rfl (fun ls hl => ?_)
        refine lv_iinc (v := (x4 + 1)) (lv' := [(2, .int (x4 + 1)), (1, .int (x3 + ((a0 >>> (x4 &&& 31)) &&& 1))), (0, .int a0)]) hx hb dX12_count1_18 hl (k := 2) rfl rfl (by decide) rfl (fun ls hl => ?_)
        refine lv_goto (tgt := 4) hx hb dX12_count1_21 (by decide) ?_
        exact ih4 (x3 + ((a0 >>> (x4 &&& 31)) &&& 1)) (x4 + 1) S5 _ _ _ h hI (lv_sub hl [2, 1, 0] rfl)
  exact hL4 FU 0 0 S _ _ _ h hI (lv_sub hl [2, 1, 0] rfl)
-- RodDipsModel.isTry(I)Z
theorem dX12_isTry_0 : decode cX12_isTry 0 = .ok (.iload_n 1, 1) := by decide +kernel
theorem dX12_isTry_1 : decode cX12_isTry 1 = .ok (.iconst 0, 1) := by decide +kernel
theorem dX12_isTry_2 : decode cX12_isTry 2 = .ok (.aload_n 0, 1) := by decide +kernel
theorem dX12_isTry_3 : decode cX12_isTry 3 = .ok (.getfield 9, 3) := by decide +kernel
theorem dX12_isTry_6 : decode cX12_isTry 6 = .ok (.iconst 1, 1) := by decide +kernel
theorem dX12_isTry_7 : decode cX12_isTry 7 = .ok (.iaload, 1) := by decide +kernel
theorem dX12_isTry_8 : decode cX12_isTry 8 = .ok (.iconst 1, 1) := by decide +kernel
theorem dX12_isTry_9 : decode cX12_isTry 9 = .ok (.isub, 1) := by decide +kernel
theorem dX12_isTry_10 : decode cX12_isTry 10 = .ok (.invokestatic 39, 3) := by decide +kernel
theorem dX12_isTry_13 : decode cX12_isTry 13 = .ok (.ireturn, 1) := by decide +kernel
def f_X12_isTry (S : HSt) (a0 : Nat) (a1 : Int32) : Option (Int32 × HSt) := (gR S a0 12 1).bind fun b1 => (aI S b1 0 1).bind fun v4 => bd2 (f_X12_in S a1 0 (v4 - 1)) fun v7 S6 => if v7 = 0 ∨ v7 = 1 then (some (v7, S6)) else none
abbrev rm_X12_isTry : Room := { frames := 1, cells := 0, slots := 0, locals := 22 }
abbrev w_X12_isTry : List Cond := Cond.code yX12_isTry cX12_isTry 2 (Option.some FieldType.boolean) :: lwG
theorem yd_X12_isTry : yX12_isTry.cls ≠ "java/lang/invoke/MethodHandle" ∧ yX12_isTry.cls ≠ "java/lang/invoke/VarHandle" ∧ (parseMethodDescriptor yX12_isTry.desc).map (fun d => d.parameters.length) = some 1 := by decide +kernel
theorem ye_X12_isTry : yX12_isTry.cls = RX12 ∧ yX12_isTry.cls ≠ "java/lang/invoke/MethodHandle" ∧ yX12_isTry.cls ≠ "java/lang/invoke/VarHandle" ∧ (parseMethodDescriptor yX12_isTry.desc).map (fun d => d.parameters.length) = some 1 := by decide +kernel
set_option maxHeartbeats 4000000 in
set_option maxRecDepth 100000 in
theorem c_X12_isTry (l : Launch) (D : va_G) (kA ρ : Nat → Nat) (HB : Heap) (S : HSt) (a0 : Nat) (a1 : Int32) (res : Int32 × HSt) (h : f_X12_isTry S a0 a1 = some res) : Met l yX12_isTry w_X12_isTry rm_X12_isTry (hPc D kA ρ HB S [.ref a0, .int a1]) (hQi D kA HB S res) 0 0 (hFree HB) := by
  refine Met.ofW (cc := cX12_isTry) (maxL := 2) (ret := (Option.some FieldType.boolean)) (by decide) rfl ?_
  intro p e s m args below meth c s₁ B hml hv
  obtain ⟨rfl, hE, h0⟩ := hv
  have hx := B.exec
  have hb := B.bytes
  have hr := B.returns
  have hts0 := atoms_spec (ws := w_X12_isTry) B.pre
  have hts : ∀ w ∈ lwG, w.before _ s = true := fun w hw => hts0 w (List.mem_cons_of_mem _ hw)
  have hown : s.vm.findClass RX12 = some m.cls := findClass_of_methodNamed B.named
  have hlocks := B.notSynchronized
  have hI : hqX D kA HB S.2 S s.heap [] := ⟨h0, Nat.le_refl _, fun _ q => absurd q List.not_mem_nil⟩
  have hl := lv_entry ([.ref a0, .int a1]) (n := 2) (Nat.le_of_ble_eq_true rfl)
  rw [lg_entry_eq]
  generalize (lg_sl ([.ref a0, .int a1]) ++ List.replicate (2 - (lg_sl ([.ref a0, .int a1])).length) Slot.unset).toArray = ls at hl ⊢
  have hl : lv_has ls 2 [(0, .ref a0), (1, .int a1)] := hl
  unfold f_X12_isTry at h
  refine lv_iload_n hx hb dX12_isTry_0 rfl (lv_at hl 1 rfl) ?_
  refine lv_iconst (v := 0) hx hb dX12_isTry_1 (by decide) ?_
  refine lv_aload_n hx hb dX12_isTry_2 rfl (lv_at hl 0 rfl) ?_
  obtain ⟨b1, g2, h⟩ := hq_bind h
  obtain ⟨fs_g2, hs_g2, hv_g2⟩ := gR_at g2
  refine hq_get hx hb hts hown hE hI hs_g2 inG12 rfl 1 (by decide) kw_945 hv_g2 dX12_isTry_3 ?_
  refine lv_iconst (v := 1) hx hb dX12_isTry_6 (by decide) ?_
  obtain ⟨v4, g3, h⟩ := hq_bind h
  refine hq_iald hx hb hE hI g3 dX12_isTry_7 ?_
  refine lv_iconst (v := 1) hx hb dX12_isTry_8 (by decide) ?_
  refine lv_isub hx hb dX12_isTry_9 ?_
  obtain ⟨v7, S6, g5, h⟩ := hq_bd2 h
  refine hq_calli hI (va_runS (As := [.int a1, .int 0, .int (v4 - 1)]) (rest := []) ⟨hx, hb, hml, hown, hts⟩ (c_X12_in l D kA ρ HB S a1 0 (v4 - 1) _ g5) (va_cwS 3 hts (gdIn (List.forall_mem_cons.mpr ⟨kw_1010, (List.forall_mem_cons.mpr ⟨kw_1011, (List.forall_mem_cons.mpr ⟨kw_6, (fun _ h => absurd h List.not_mem_nil)⟩)⟩)⟩) kw_1012) rfl rfl rfl yd_X12_in ⟨Nat.le_of_ble_eq_true rfl, Nat.le_of_ble_eq_true rfl⟩) (hq_preS hE hI _) rfl rfl hl.1 rfl (lv_room (Nat.le_of_ble_eq_true rfl)) dX12_isTry_10 ⟨Nat.le_of_ble_eq_true rfl, Nat.le_of_ble_eq_true rfl⟩) (fun H locs hI => ?_)
  obtain ⟨c8, h⟩ := hq_g h
  exact hq_zret hx hb hr hlocks h0 hI c8 h dX12_isTry_13
-- RodDipsModel.areTries(I)Z
theorem dX12_areTries_0 : decode cX12_areTries 0 = .ok (.iload_n 1, 1) := by decide +kernel
theorem dX12_areTries_1 : decode cX12_areTries 1 = .ok (.iconst 0, 1) := by decide +kernel
theorem dX12_areTries_2 : decode cX12_areTries 2 = .ok (.iconst 1, 1) := by decide +kernel
theorem dX12_areTries_3 : decode cX12_areTries 3 = .ok (.aload_n 0, 1) := by decide +kernel
theorem dX12_areTries_4 : decode cX12_areTries 4 = .ok (.getfield 9, 3) := by decide +kernel
theorem dX12_areTries_7 : decode cX12_areTries 7 = .ok (.iconst 1, 1) := by decide +kernel
theorem dX12_areTries_8 : decode cX12_areTries 8 = .ok (.iaload, 1) := by decide +kernel
theorem dX12_areTries_9 : decode cX12_areTries 9 = .ok (.ishl, 1) := by decide +kernel
theorem dX12_areTries_10 : decode cX12_areTries 10 = .ok (.iconst 1, 1) := by decide +kernel
theorem dX12_areTries_11 : decode cX12_areTries 11 = .ok (.isub, 1) := by decide +kernel
theorem dX12_areTries_12 : decode cX12_areTries 12 = .ok (.invokestatic 39, 3) := by decide +kernel
theorem dX12_areTries_15 : decode cX12_areTries 15 = .ok (.ireturn, 1) := by decide +kernel
def f_X12_areTries (S : HSt) (a0 : Nat) (a1 : Int32) : Option (Int32 × HSt) := (gR S a0 12 1).bind fun b1 => (aI S b1 0 1).bind fun v4 => bd2 (f_X12_in S a1 0 ((1 <<< (v4 &&& 31)) - 1)) fun v7 S6 => if v7 = 0 ∨ v7 = 1 then (some (v7, S6)) else none
abbrev rm_X12_areTries : Room := { frames := 1, cells := 0, slots := 0, locals := 22 }
abbrev w_X12_areTries : List Cond := Cond.code yX12_areTries cX12_areTries 2 (Option.some FieldType.boolean) :: lwG
theorem yd_X12_areTries : yX12_areTries.cls ≠ "java/lang/invoke/MethodHandle" ∧ yX12_areTries.cls ≠ "java/lang/invoke/VarHandle" ∧ (parseMethodDescriptor yX12_areTries.desc).map (fun d => d.parameters.length) = some 1 := by decide +kernel
theorem ye_X12_areTries : yX12_areTries.cls = RX12 ∧ yX12_areTries.cls ≠ "java/lang/invoke/MethodHandle" ∧ yX12_areTries.cls ≠ "java/lang/invoke/VarHandle" ∧ (parseMethodDescriptor yX12_areTries.desc).map (fun d => d.parameters.length) = some 1 := by decide +kernel
set_option maxHeartbeats 4000000 in
set_option maxRecDepth 100000 in
theorem c_X12_areTries (l : Launch) (D : va_G) (kA ρ : Nat → Nat) (HB : Heap) (S : HSt) (a0 : Nat) (a1 : Int32) (res : Int32 × HSt) (h : f_X12_areTries S a0 a1 = some res) : Met l yX12_areTries w_X12_areTries rm_X12_areTries (hPc D kA ρ HB S [.ref a0, .int a1]) (hQi D kA HB S res) 0 0 (hFree HB) := by
  refine Met.ofW (cc := cX12_areTries) (maxL := 2) (ret := (Option.some FieldType.boolean)) (by decide) rfl ?_
  intro p e s m args below meth c s₁ B hml hv
  obtain ⟨rfl, hE, h0⟩ := hv
  have hx := B.exec
  have hb := B.bytes
  have hr := B.returns
  have hts0 := atoms_spec (ws := w_X12_areTries) B.pre
  have hts : ∀ w ∈ lwG, w.before _ s = true := fun w hw => hts0 w (List.mem_cons_of_mem _ hw)
  have hown : s.vm.findClass RX12 = some m.cls := findClass_of_methodNamed B.named
  have hlocks := B.notSynchronized
  have hI : hqX D kA HB S.2 S s.heap [] := ⟨h0, Nat.le_refl _, fun _ q => absurd q List.not_mem_nil⟩
  have hl := lv_entry ([.ref a0, .int a1]) (n := 2) (Nat.le_of_ble_eq_true rfl)
  rw [lg_entry_eq]
  generalize (lg_sl ([.ref a0, .int a1]) ++ List.replicate (2 - (lg_sl ([.ref a0, .int a1])).length) Slot.unset).toArray = ls at hl ⊢
  have hl : lv_has ls 2 [(0, .ref a0), (1, .int a1)] := hl
  unfold f_X12_areTries at h
  refine lv_iload_n hx hb dX12_areTries_0 rfl (lv_at hl 1 rfl) ?_
  refine lv_iconst (v := 0) hx hb dX12_areTries_1 (by decide) ?_
  refine lv_iconst (v := 1) hx hb dX12_areTries_2 (by decide) ?_
  refine lv_aload_n hx hb dX12_areTries_3 rfl (lv_at hl 0 rfl) ?_
  obtain ⟨b1, g2, h⟩ := hq_bind h
  obtain ⟨fs_g2, hs_g2, hv_g2⟩ := gR_at g2
  refine hq_get hx hb hts hown hE hI hs_g2 inG12 rfl 1 (by decide) kw_945 hv_g2 dX12_areTries_4 ?_
  refine lv_iconst (v := 1) hx hb dX12_areTries_7 (by decide) ?_
  obtain ⟨v4, g3, h⟩ := hq_bind h
  refine hq_iald hx hb hE hI g3 dX12_areTries_8 ?_
  refine lv_ishl hx hb dX12_areTries_9 ?_
  refine lv_iconst (v := 1) hx hb dX12_areTries_10 (by decide) ?_
  refine lv_isub hx hb dX12_areTries_11 ?_
  obtain ⟨v7, S6, g5, h⟩ := hq_bd2 h
  refine hq_calli hI (va_runS (As := [.int a1, .int 0, .int ((1 <<< (v4 &&& 31)) - 1)]) (rest := []) ⟨hx, hb, hml, hown, hts⟩ (c_X12_in l D kA ρ HB S a1 0 ((1 <<< (v4 &&& 31)) - 1) _ g5) (va_cwS 3 hts (gdIn (List.forall_mem_cons.mpr ⟨kw_1010, (List.forall_mem_cons.mpr ⟨kw_1011, (List.forall_mem_cons.mpr ⟨kw_6, (fun _ h => absurd h List.not_mem_nil)⟩)⟩)⟩) kw_1012) rfl rfl rfl yd_X12_in ⟨Nat.le_of_ble_eq_true rfl, Nat.le_of_ble_eq_true rfl⟩) (hq_preS hE hI _) rfl rfl hl.1 rfl (lv_room (Nat.le_of_ble_eq_true rfl)) dX12_areTries_12 ⟨Nat.le_of_ble_eq_true rfl, Nat.le_of_ble_eq_true rfl⟩) (fun H locs hI => ?_)
  obtain ⟨c8, h⟩ := hq_g h
  exact hq_zret hx hb hr hlocks h0 hI c8 h dX12_areTries_15
-- RodDipsModel.isPlan(I)Z
theorem dX12_isPlan_0 : decode cX12_isPlan 0 = .ok (.iload_n 1, 1) := by decide +kernel
theorem dX12_isPlan_1 : decode cX12_isPlan 1 = .ok (.iconst 0, 1) := by decide +kernel
theorem dX12_isPlan_2 : decode cX12_isPlan 2 = .ok (.aload_n 0, 1) := by decide +kernel
theorem dX12_isPlan_3 : decode cX12_isPlan 3 = .ok (.getfield 9, 3) := by decide +kernel
theorem dX12_isPlan_6 : decode cX12_isPlan 6 = .ok (.iconst 2, 1) := by decide +kernel
theorem dX12_isPlan_7 : decode cX12_isPlan 7 = .ok (.iaload, 1) := by decide +kernel
theorem dX12_isPlan_8 : decode cX12_isPlan 8 = .ok (.iconst 1, 1) := by decide +kernel
theorem dX12_isPlan_9 : decode cX12_isPlan 9 = .ok (.isub, 1) := by decide +kernel
theorem dX12_isPlan_10 : decode cX12_isPlan 10 = .ok (.invokestatic 39, 3) := by decide +kernel
theorem dX12_isPlan_13 : decode cX12_isPlan 13 = .ok (.ireturn, 1) := by decide +kernel
def f_X12_isPlan (S : HSt) (a0 : Nat) (a1 : Int32) : Option (Int32 × HSt) := (gR S a0 12 1).bind fun b1 => (aI S b1 0 2).bind fun v4 => bd2 (f_X12_in S a1 0 (v4 - 1)) fun v7 S6 => if v7 = 0 ∨ v7 = 1 then (some (v7, S6)) else none
abbrev rm_X12_isPlan : Room := { frames := 1, cells := 0, slots := 0, locals := 22 }
abbrev w_X12_isPlan : List Cond := Cond.code yX12_isPlan cX12_isPlan 2 (Option.some FieldType.boolean) :: lwG
theorem yd_X12_isPlan : yX12_isPlan.cls ≠ "java/lang/invoke/MethodHandle" ∧ yX12_isPlan.cls ≠ "java/lang/invoke/VarHandle" ∧ (parseMethodDescriptor yX12_isPlan.desc).map (fun d => d.parameters.length) = some 1 := by decide +kernel
theorem ye_X12_isPlan : yX12_isPlan.cls = RX12 ∧ yX12_isPlan.cls ≠ "java/lang/invoke/MethodHandle" ∧ yX12_isPlan.cls ≠ "java/lang/invoke/VarHandle" ∧ (parseMethodDescriptor yX12_isPlan.desc).map (fun d => d.parameters.length) = some 1 := by decide +kernel
set_option maxHeartbeats 4000000 in
set_option maxRecDepth 100000 in
theorem c_X12_isPlan (l : Launch) (D : va_G) (kA ρ : Nat → Nat) (HB : Heap) (S : HSt) (a0 : Nat) (a1 : Int32) (res : Int32 × HSt) (h : f_X12_isPlan S a0 a1 = some res) : Met l yX12_isPlan w_X12_isPlan rm_X12_isPlan (hPc D kA ρ HB S [.ref a0, .int a1]) (hQi D kA HB S res) 0 0 (hFree HB) := by
  refine Met.ofW (cc := cX12_isPlan) (maxL := 2) (ret := (Option.some FieldType.boolean)) (by decide) rfl ?_
  intro p e s m args below meth c s₁ B hml hv
  obtain ⟨rfl, hE, h0⟩ := hv
  have hx := B.exec
  have hb := B.bytes
  have hr := B.returns
  have hts0 := atoms_spec (ws := w_X12_isPlan) B.pre
  have hts : ∀ w ∈ lwG, w.before _ s = true := fun w hw => hts0 w (List.mem_cons_of_mem _ hw)
  have hown : s.vm.findClass RX12 = some m.cls := findClass_of_methodNamed B.named
  have hlocks := B.notSynchronized
  have hI : hqX D kA HB S.2 S s.heap [] := ⟨h0, Nat.le_refl _, fun _ q => absurd q List.not_mem_nil⟩
  have hl := lv_entry ([.ref a0, .int a1]) (n := 2) (Nat.le_of_ble_eq_true rfl)
  rw [lg_entry_eq]
  generalize (lg_sl ([.ref a0, .int a1]) ++ List.replicate (2 - (lg_sl ([.ref a0, .int a1])).length) Slot.unset).toArray = ls at hl ⊢
  have hl : lv_has ls 2 [(0, .ref a0), (1, .int a1)] := hl
  unfold f_X12_isPlan at h
  refine lv_iload_n hx hb dX12_isPlan_0 rfl (lv_at hl 1 rfl) ?_
  refine lv_iconst (v := 0) hx hb dX12_isPlan_1 (by decide) ?_
  refine lv_aload_n hx hb dX12_isPlan_2 rfl (lv_at hl 0 rfl) ?_
  obtain ⟨b1, g2, h⟩ := hq_bind h
  obtain ⟨fs_g2, hs_g2, hv_g2⟩ := gR_at g2
  refine hq_get hx hb hts hown hE hI hs_g2 inG12 rfl 1 (by decide) kw_945 hv_g2 dX12_isPlan_3 ?_
  refine lv_iconst (v := 2) hx hb dX12_isPlan_6 (by decide) ?_
  obtain ⟨v4, g3, h⟩ := hq_bind h
  refine hq_iald hx hb hE hI g3 dX12_isPlan_7 ?_
  refine lv_iconst (v := 1) hx hb dX12_isPlan_8 (by decide) ?_
  refine lv_isub hx hb dX12_isPlan_9 ?_
  obtain ⟨v7, S6, g5, h⟩ := hq_bd2 h
  refine hq_calli hI (va_runS (As := [.int a1, .int 0, .int (v4 - 1)]) (rest := []) ⟨hx, hb, hml, hown, hts⟩ (c_X12_in l D kA ρ HB S a1 0 (v4 - 1) _ g5) (va_cwS 3 hts (gdIn (List.forall_mem_cons.mpr ⟨kw_1010, (List.forall_mem_cons.mpr ⟨kw_1011, (List.forall_mem_cons.mpr ⟨kw_6, (fun _ h => absurd h List.not_mem_nil)⟩)⟩)⟩) kw_1012) rfl rfl rfl yd_X12_in ⟨Nat.le_of_ble_eq_true rfl, Nat.le_of_ble_eq_true rfl⟩) (hq_preS hE hI _) rfl rfl hl.1 rfl (lv_room (Nat.le_of_ble_eq_true rfl)) dX12_isPlan_10 ⟨Nat.le_of_ble_eq_true rfl, Nat.le_of_ble_eq_true rfl⟩) (fun H locs hI => ?_)
  obtain ⟨c8, h⟩ := hq_g h
  exact hq_zret hx hb hr hlocks h0 hI c8 h dX12_isPlan_13
-- RodDipsModel.isLaw(I)Z
theorem dX12_isLaw_0 : decode cX12_isLaw 0 = .ok (.iload_n 1, 1) := by decide +kernel
theorem dX12_isLaw_1 : decode cX12_isLaw 1 = .ok (.iconst 0, 1) := by decide +kernel
theorem dX12_isLaw_2 : decode cX12_isLaw 2 = .ok (.aload_n 0, 1) := by decide +kernel
theorem dX12_isLaw_3 : decode cX12_isLaw 3 = .ok (.getfield 9, 3) := by decide +kernel
theorem dX12_isLaw_6 : decode cX12_isLaw 6 = .ok (.iconst 3, 1) := by decide +kernel
theorem dX12_isLaw_7 : decode cX12_isLaw 7 = .ok (.iaload, 1) := by decide +kernel
theorem dX12_isLaw_8 : decode cX12_isLaw 8 = .ok (.iconst 1, 1) := by decide +kernel
theorem dX12_isLaw_9 : decode cX12_isLaw 9 = .ok (.isub, 1) := by decide +kernel
theorem dX12_isLaw_10 : decode cX12_isLaw 10 = .ok (.invokestatic 39, 3) := by decide +kernel
theorem dX12_isLaw_13 : decode cX12_isLaw 13 = .ok (.ireturn, 1) := by decide +kernel
def f_X12_isLaw (S : HSt) (a0 : Nat) (a1 : Int32) : Option (Int32 × HSt) := (gR S a0 12 1).bind fun b1 => (aI S b1 0 3).bind fun v4 => bd2 (f_X12_in S a1 0 (v4 - 1)) fun v7 S6 => if v7 = 0 ∨ v7 = 1 then (some (v7, S6)) else none
abbrev rm_X12_isLaw : Room := { frames := 1, cells := 0, slots := 0, locals := 22 }
abbrev w_X12_isLaw : List Cond := Cond.code yX12_isLaw cX12_isLaw 2 (Option.some FieldType.boolean) :: lwG
theorem yd_X12_isLaw : yX12_isLaw.cls ≠ "java/lang/invoke/MethodHandle" ∧ yX12_isLaw.cls ≠ "java/lang/invoke/VarHandle" ∧ (parseMethodDescriptor yX12_isLaw.desc).map (fun d => d.parameters.length) = some 1 := by decide +kernel
theorem ye_X12_isLaw : yX12_isLaw.cls = RX12 ∧ yX12_isLaw.cls ≠ "java/lang/invoke/MethodHandle" ∧ yX12_isLaw.cls ≠ "java/lang/invoke/VarHandle" ∧ (parseMethodDescriptor yX12_isLaw.desc).map (fun d => d.parameters.length) = some 1 := by decide +kernel
set_option maxHeartbeats 4000000 in
set_option maxRecDepth 100000 in
theorem c_X12_isLaw (l : Launch) (D : va_G) (kA ρ : Nat → Nat) (HB : Heap) (S : HSt) (a0 : Nat) (a1 : Int32) (res : Int32 × HSt) (h : f_X12_isLaw S a0 a1 = some res) : Met l yX12_isLaw w_X12_isLaw rm_X12_isLaw (hPc D kA ρ HB S [.ref a0, .int a1]) (hQi D kA HB S res) 0 0 (hFree HB) := by
  refine Met.ofW (cc := cX12_isLaw) (maxL := 2) (ret := (Option.some FieldType.boolean)) (by decide) rfl ?_
  intro p e s m args below meth c s₁ B hml hv
  obtain ⟨rfl, hE, h0⟩ := hv
  have hx := B.exec
  have hb := B.bytes
  have hr := B.returns
  have hts0 := atoms_spec (ws := w_X12_isLaw) B.pre
  have hts : ∀ w ∈ lwG, w.before _ s = true := fun w hw => hts0 w (List.mem_cons_of_mem _ hw)
  have hown : s.vm.findClass RX12 = some m.cls := findClass_of_methodNamed B.named
  have hlocks := B.notSynchronized
  have hI : hqX D kA HB S.2 S s.heap [] := ⟨h0, Nat.le_refl _, fun _ q => absurd q List.not_mem_nil⟩
  have hl := lv_entry ([.ref a0, .int a1]) (n := 2) (Nat.le_of_ble_eq_true rfl)
  rw [lg_entry_eq]
  generalize (lg_sl ([.ref a0, .int a1]) ++ List.replicate (2 - (lg_sl ([.ref a0, .int a1])).length) Slot.unset).toArray = ls at hl ⊢
  have hl : lv_has ls 2 [(0, .ref a0), (1, .int a1)] := hl
  unfold f_X12_isLaw at h
  refine lv_iload_n hx hb dX12_isLaw_0 rfl (lv_at hl 1 rfl) ?_
  refine lv_iconst (v := 0) hx hb dX12_isLaw_1 (by decide) ?_
  refine lv_aload_n hx hb dX12_isLaw_2 rfl (lv_at hl 0 rfl) ?_
  obtain ⟨b1, g2, h⟩ := hq_bind h
  obtain ⟨fs_g2, hs_g2, hv_g2⟩ := gR_at g2
  refine hq_get hx hb hts hown hE hI hs_g2 inG12 rfl 1 (by decide) kw_945 hv_g2 dX12_isLaw_3 ?_
  refine lv_iconst (v := 3) hx hb dX12_isLaw_6 (by decide) ?_
  obtain ⟨v4, g3, h⟩ := hq_bind h
  refine hq_iald hx hb hE hI g3 dX12_isLaw_7 ?_
  refine lv_iconst (v := 1) hx hb dX12_isLaw_8 (by decide) ?_
  refine lv_isub hx hb dX12_isLaw_9 ?_
  obtain ⟨v7, S6, g5, h⟩ := hq_bd2 h
  refine hq_calli hI (va_runS (As := [.int a1, .int 0, .int (v4 - 1)]) (rest := []) ⟨hx, hb, hml, hown, hts⟩ (c_X12_in l D kA ρ HB S a1 0 (v4 - 1) _ g5) (va_cwS 3 hts (gdIn (List.forall_mem_cons.mpr ⟨kw_1010, (List.forall_mem_cons.mpr ⟨kw_1011, (List.forall_mem_cons.mpr ⟨kw_6, (fun _ h => absurd h List.not_mem_nil)⟩)⟩)⟩) kw_1012) rfl rfl rfl yd_X12_in ⟨Nat.le_of_ble_eq_true rfl, Nat.le_of_ble_eq_true rfl⟩) (hq_preS hE hI _) rfl rfl hl.1 rfl (lv_room (Nat.le_of_ble_eq_true rfl)) dX12_isLaw_10 ⟨Nat.le_of_ble_eq_true rfl, Nat.le_of_ble_eq_true rfl⟩) (fun H locs hI => ?_)
  obtain ⟨c8, h⟩ := hq_g h
  exact hq_zret hx hb hr hlocks h0 hI c8 h dX12_isLaw_13
-- RodDipsModel.isMan(I)Z
theorem dX12_isMan_0 : decode cX12_isMan 0 = .ok (.iload_n 0, 1) := by decide +kernel
theorem dX12_isMan_1 : decode cX12_isMan 1 = .ok (.iconst 0, 1) := by decide +kernel
theorem dX12_isMan_2 : decode cX12_isMan 2 = .ok (.iconst 5, 1) := by decide +kernel
theorem dX12_isMan_3 : decode cX12_isMan 3 = .ok (.invokestatic 39, 3) := by decide +kernel
theorem dX12_isMan_6 : decode cX12_isMan 6 = .ok (.ireturn, 1) := by decide +kernel
def f_X12_isMan (S : HSt) (a0 : Int32) : Option (Int32 × HSt) := bd2 (f_X12_in S a0 0 5) fun v3 S2 => if v3 = 0 ∨ v3 = 1 then (some (v3, S2)) else none
abbrev rm_X12_isMan : Room := { frames := 1, cells := 0, slots := 0, locals := 22 }
abbrev w_X12_isMan : List Cond := Cond.code yX12_isMan cX12_isMan 1 (Option.some FieldType.boolean) :: lwG
theorem yd_X12_isMan : yX12_isMan.cls ≠ "java/lang/invoke/MethodHandle" ∧ yX12_isMan.cls ≠ "java/lang/invoke/VarHandle" ∧ (parseMethodDescriptor yX12_isMan.desc).map (fun d => d.parameters.length) = some 1 := by decide +kernel
set_option maxHeartbeats 4000000 in
set_option maxRecDepth 100000 in
theorem c_X12_isMan (l : Launch) (D : va_G) (kA ρ : Nat → Nat) (HB : Heap) (S : HSt) (a0 : Int32) (res : Int32 × HSt) (h : f_X12_isMan S a0 = some res) : Met l yX12_isMan w_X12_isMan rm_X12_isMan (hPc D kA ρ HB S [.int a0]) (hQi D kA HB S res) 0 0 (hFree HB) := by
  refine Met.ofW (cc := cX12_isMan) (maxL := 1) (ret := (Option.some FieldType.boolean)) (by decide) rfl ?_
  intro p e s m args below meth c s₁ B hml hv
  obtain ⟨rfl, hE, h0⟩ := hv
  have hx := B.exec
  have hb := B.bytes
  have hr := B.returns
  have hts0 := atoms_spec (ws := w_X12_isMan) B.pre
  have hts : ∀ w ∈ lwG, w.before _ s = true := fun w hw => hts0 w (List.mem_cons_of_mem _ hw)
  have hown : s.vm.findClass RX12 = some m.cls := findClass_of_methodNamed B.named
  have hlocks := B.notSynchronized
  have hI : hqX D kA HB S.2 S s.heap [] := ⟨h0, Nat.le_refl _, fun _ q => absurd q List.not_mem_nil⟩
  have hl := lv_entry ([.int a0]) (n := 1) (Nat.le_of_ble_eq_true rfl)
  rw [lg_entry_eq]
  generalize (lg_sl ([.int a0]) ++ List.replicate (1 - (lg_sl ([.int a0])).length) Slot.unset).toArray = ls at hl ⊢
  have hl : lv_has ls 1 [(0, .int a0)] := hl
  unfold f_X12_isMan at h
  refine lv_iload_n hx hb dX12_isMan_0 rfl (lv_at hl 0 rfl) ?_
  refine lv_iconst (v := 0) hx hb dX12_isMan_1 (by decide) ?_
  refine lv_iconst (v := 5) hx hb dX12_isMan_2 (by decide) ?_
  obtain ⟨v3, S2, g1, h⟩ := hq_bd2 h
  refine hq_calli hI (va_runS (As := [.int a0, .int 0, .int 5]) (rest := []) ⟨hx, hb, hml, hown, hts⟩ (c_X12_in l D kA ρ HB S a0 0 5 _ g1) (va_cwS 3 hts (gdIn (List.forall_mem_cons.mpr ⟨kw_1010, (List.forall_mem_cons.mpr ⟨kw_1011, (List.forall_mem_cons.mpr ⟨kw_6, (fun _ h => absurd h List.not_mem_nil)⟩)⟩)⟩) kw_1012) rfl rfl rfl yd_X12_in ⟨Nat.le_of_ble_eq_true rfl, Nat.le_of_ble_eq_true rfl⟩) (hq_preS hE hI _) rfl rfl hl.1 rfl (lv_room (Nat.le_of_ble_eq_true rfl)) dX12_isMan_3 ⟨Nat.le_of_ble_eq_true rfl, Nat.le_of_ble_eq_true rfl⟩) (fun H locs hI => ?_)
  obtain ⟨c4, h⟩ := hq_g h
  exact hq_zret hx hb hr hlocks h0 hI c4 h dX12_isMan_6
-- RodDipsModel.isPlace(I)Z
theorem dX12_isPlace_0 : decode cX12_isPlace 0 = .ok (.iload_n 1, 1) := by decide +kernel
theorem dX12_isPlace_1 : decode cX12_isPlace 1 = .ok (.iconst 0, 1) := by decide +kernel
theorem dX12_isPlace_2 : decode cX12_isPlace 2 = .ok (.aload_n 0, 1) := by decide +kernel
theorem dX12_isPlace_3 : decode cX12_isPlace 3 = .ok (.getfield 9, 3) := by decide +kernel
theorem dX12_isPlace_6 : decode cX12_isPlace 6 = .ok (.iconst 0, 1) := by decide +kernel
theorem dX12_isPlace_7 : decode cX12_isPlace 7 = .ok (.iaload, 1) := by decide +kernel
theorem dX12_isPlace_8 : decode cX12_isPlace 8 = .ok (.iconst 1, 1) := by decide +kernel
theorem dX12_isPlace_9 : decode cX12_isPlace 9 = .ok (.isub, 1) := by decide +kernel
theorem dX12_isPlace_10 : decode cX12_isPlace 10 = .ok (.invokestatic 39, 3) := by decide +kernel
theorem dX12_isPlace_13 : decode cX12_isPlace 13 = .ok (.ireturn, 1) := by decide +kernel
def f_X12_isPlace (S : HSt) (a0 : Nat) (a1 : Int32) : Option (Int32 × HSt) := (gR S a0 12 1).bind fun b1 => (aI S b1 0 0).bind fun v4 => bd2 (f_X12_in S a1 0 (v4 - 1)) fun v7 S6 => if v7 = 0 ∨ v7 = 1 then (some (v7, S6)) else none
abbrev rm_X12_isPlace : Room := { frames := 1, cells := 0, slots := 0, locals := 22 }
abbrev w_X12_isPlace : List Cond := Cond.code yX12_isPlace cX12_isPlace 2 (Option.some FieldType.boolean) :: lwG
theorem yd_X12_isPlace : yX12_isPlace.cls ≠ "java/lang/invoke/MethodHandle" ∧ yX12_isPlace.cls ≠ "java/lang/invoke/VarHandle" ∧ (parseMethodDescriptor yX12_isPlace.desc).map (fun d => d.parameters.length) = some 1 := by decide +kernel
theorem ye_X12_isPlace : yX12_isPlace.cls = RX12 ∧ yX12_isPlace.cls ≠ "java/lang/invoke/MethodHandle" ∧ yX12_isPlace.cls ≠ "java/lang/invoke/VarHandle" ∧ (parseMethodDescriptor yX12_isPlace.desc).map (fun d => d.parameters.length) = some 1 := by decide +kernel
set_option maxHeartbeats 4000000 in
set_option maxRecDepth 100000 in
theorem c_X12_isPlace (l : Launch) (D : va_G) (kA ρ : Nat → Nat) (HB : Heap) (S : HSt) (a0 : Nat) (a1 : Int32) (res : Int32 × HSt) (h : f_X12_isPlace S a0 a1 = some res) : Met l yX12_isPlace w_X12_isPlace rm_X12_isPlace (hPc D kA ρ HB S [.ref a0, .int a1]) (hQi D kA HB S res) 0 0 (hFree HB) := by
  refine Met.ofW (cc := cX12_isPlace) (maxL := 2) (ret := (Option.some FieldType.boolean)) (by decide) rfl ?_
  intro p e s m args below meth c s₁ B hml hv
  obtain ⟨rfl, hE, h0⟩ := hv
  have hx := B.exec
  have hb := B.bytes
  have hr := B.returns
  have hts0 := atoms_spec (ws := w_X12_isPlace) B.pre
  have hts : ∀ w ∈ lwG, w.before _ s = true := fun w hw => hts0 w (List.mem_cons_of_mem _ hw)
  have hown : s.vm.findClass RX12 = some m.cls := findClass_of_methodNamed B.named
  have hlocks := B.notSynchronized
  have hI : hqX D kA HB S.2 S s.heap [] := ⟨h0, Nat.le_refl _, fun _ q => absurd q List.not_mem_nil⟩
  have hl := lv_entry ([.ref a0, .int a1]) (n := 2) (Nat.le_of_ble_eq_true rfl)
  rw [lg_entry_eq]
  generalize (lg_sl ([.ref a0, .int a1]) ++ List.replicate (2 - (lg_sl ([.ref a0, .int a1])).length) Slot.unset).toArray = ls at hl ⊢
  have hl : lv_has ls 2 [(0, .ref a0), (1, .int a1)] := hl
  unfold f_X12_isPlace at h
  refine lv_iload_n hx hb dX12_isPlace_0 rfl (lv_at hl 1 rfl) ?_
  refine lv_iconst (v := 0) hx hb dX12_isPlace_1 (by decide) ?_
  refine lv_aload_n hx hb dX12_isPlace_2 rfl (lv_at hl 0 rfl) ?_
  obtain ⟨b1, g2, h⟩ := hq_bind h
  obtain ⟨fs_g2, hs_g2, hv_g2⟩ := gR_at g2
  refine hq_get hx hb hts hown hE hI hs_g2 inG12 rfl 1 (by decide) kw_945 hv_g2 dX12_isPlace_3 ?_
  refine lv_iconst (v := 0) hx hb dX12_isPlace_6 (by decide) ?_
  obtain ⟨v4, g3, h⟩ := hq_bind h
  refine hq_iald hx hb hE hI g3 dX12_isPlace_7 ?_
  refine lv_iconst (v := 1) hx hb dX12_isPlace_8 (by decide) ?_
  refine lv_isub hx hb dX12_isPlace_9 ?_
  obtain ⟨v7, S6, g5, h⟩ := hq_bd2 h
  refine hq_calli hI (va_runS (As := [.int a1, .int 0, .int (v4 - 1)]) (rest := []) ⟨hx, hb, hml, hown, hts⟩ (c_X12_in l D kA ρ HB S a1 0 (v4 - 1) _ g5) (va_cwS 3 hts (gdIn (List.forall_mem_cons.mpr ⟨kw_1010, (List.forall_mem_cons.mpr ⟨kw_1011, (List.forall_mem_cons.mpr ⟨kw_6, (fun _ h => absurd h List.not_mem_nil)⟩)⟩)⟩) kw_1012) rfl rfl rfl yd_X12_in ⟨Nat.le_of_ble_eq_true rfl, Nat.le_of_ble_eq_true rfl⟩) (hq_preS hE hI _) rfl rfl hl.1 rfl (lv_room (Nat.le_of_ble_eq_true rfl)) dX12_isPlace_10 ⟨Nat.le_of_ble_eq_true rfl, Nat.le_of_ble_eq_true rfl⟩) (fun H locs hI => ?_)
  obtain ⟨c8, h⟩ := hq_g h
  exact hq_zret hx hb hr hlocks h0 hI c8 h dX12_isPlace_13
-- RodDipsModel.barn(I)I
theorem dX12_barn_0 : decode cX12_barn 0 = .ok (.iload_n 1, 1) := by decide +kernel
theorem dX12_barn_1 : decode cX12_barn 1 = .ok (.iconst 2, 1) := by decide +kernel
theorem dX12_barn_2 : decode cX12_barn 2 = .ok (.bipush 100, 2) := by decide +kernel
theorem dX12_barn_4 : decode cX12_barn 4 = .ok (.invokestatic 39, 3) := by decide +kernel
theorem dX12_barn_7 : decode cX12_barn 7 = .ok (.ifCond .ne 6, 3) := by decide +kernel
theorem dX12_barn_10 : decode cX12_barn 10 = .ok (.bipush (-2), 2) := by decide +kernel
theorem dX12_barn_12 : decode cX12_barn 12 = .ok (.ireturn, 1) := by decide +kernel
theorem dX12_barn_13 : decode cX12_barn 13 = .ok (.aload_n 0, 1) := by decide +kernel
theorem dX12_barn_14 : decode cX12_barn 14 = .ok (.getfield 9, 3) := by decide +kernel
theorem dX12_barn_17 : decode cX12_barn 17 = .ok (.iconst 1, 1) := by decide +kernel
theorem dX12_barn_18 : decode cX12_barn 18 = .ok (.iaload, 1) := by decide +kernel
theorem dX12_barn_19 : decode cX12_barn 19 = .ok (.ifCond .le 6, 3) := by decide +kernel
theorem dX12_barn_22 : decode cX12_barn 22 = .ok (.bipush (-3), 2) := by decide +kernel
theorem dX12_barn_24 : decode cX12_barn 24 = .ok (.ireturn, 1) := by decide +kernel
theorem dX12_barn_25 : decode cX12_barn 25 = .ok (.aload_n 0, 1) := by decide +kernel
theorem dX12_barn_26 : decode cX12_barn 26 = .ok (.getfield 9, 3) := by decide +kernel
theorem dX12_barn_29 : decode cX12_barn 29 = .ok (.iconst 0, 1) := by decide +kernel
theorem dX12_barn_30 : decode cX12_barn 30 = .ok (.iaload, 1) := by decide +kernel
theorem dX12_barn_31 : decode cX12_barn 31 = .ok (.istore_n 2, 1) := by decide +kernel
theorem dX12_barn_32 : decode cX12_barn 32 = .ok (.aload_n 0, 1) := by decide +kernel
theorem dX12_barn_33 : decode cX12_barn 33 = .ok (.getfield 9, 3) := by decide +kernel
theorem dX12_barn_36 : decode cX12_barn 36 = .ok (.iconst 0, 1) := by decide +kernel
theorem dX12_barn_37 : decode cX12_barn 37 = .ok (.iload_n 1, 1) := by decide +kernel
theorem dX12_barn_38 : decode cX12_barn 38 = .ok (.iastore, 1) := by decide +kernel
theorem dX12_barn_39 : decode cX12_barn 39 = .ok (.iload_n 2, 1) := by decide +kernel
theorem dX12_barn_40 : decode cX12_barn 40 = .ok (.ireturn, 1) := by decide +kernel
def f_X12_barn (S : HSt) (a0 : Nat) (a1 : Int32) : Option (Int32 × HSt) := bd2 (f_X12_in S a1 2 100) fun v3 S2 => if v3 = 0 then (some ((-2), S2)) else ((gR S2 a0 12 1).bind fun b5 => (aI S2 b5 0 1).bind fun v8 => if v8 ≤ 0 then ((gR S2 a0 12 1).bind fun b10 => (aI S2 b10 0 0).bind fun v13 => (gR S2 a0 12 1).bind fun b14 => (sI S2 b14 0 0 a1).bind fun S17 => some (v13, S17)) else (some ((-3), S2)))
abbrev rm_X12_barn : Room := { frames := 1, cells := 0, slots := 0, locals := 22 }
abbrev w_X12_barn : List Cond := Cond.code yX12_barn cX12_barn 3 (Option.some FieldType.int) :: lwG
theorem yd_X12_barn : yX12_barn.cls ≠ "java/lang/invoke/MethodHandle" ∧ yX12_barn.cls ≠ "java/lang/invoke/VarHandle" ∧ (parseMethodDescriptor yX12_barn.desc).map (fun d => d.parameters.length) = some 1 := by decide +kernel
theorem ye_X12_barn : yX12_barn.cls = RX12 ∧ yX12_barn.cls ≠ "java/lang/invoke/MethodHandle" ∧ yX12_barn.cls ≠ "java/lang/invoke/VarHandle" ∧ (parseMethodDescriptor yX12_barn.desc).map (fun d => d.parameters.length) = some 1 := by decide +kernel
set_option maxHeartbeats 4000000 in
set_option maxRecDepth 100000 in
theorem c_X12_barn (l : Launch) (D : va_G) (kA ρ : Nat → Nat) (HB : Heap) (S : HSt) (a0 : Nat) (a1 : Int32) (res : Int32 × HSt) (h : f_X12_barn S a0 a1 = some res) : Met l yX12_barn w_X12_barn rm_X12_barn (hPc D kA ρ HB S [.ref a0, .int a1]) (hQi D kA HB S res) 0 0 (hFree HB) := by
  refine Met.ofW (cc := cX12_barn) (maxL := 3) (ret := (Option.some FieldType.int)) (by decide) rfl ?_
  intro p e s m args below meth c s₁ B hml hv
  obtain ⟨rfl, hE, h0⟩ := hv
  have hx := B.exec
  have hb := B.bytes
  have hr := B.returns
  have hts0 := atoms_spec (ws := w_X12_barn) B.pre
  have hts : ∀ w ∈ lwG, w.before _ s = true := fun w hw => hts0 w (List.mem_cons_of_mem _ hw)
  have hown : s.vm.findClass RX12 = some m.cls := findClass_of_methodNamed B.named
  have hlocks := B.notSynchronized
  have hI : hqX D kA HB S.2 S s.heap [] := ⟨h0, Nat.le_refl _, fun _ q => absurd q List.not_mem_nil⟩
  have hl := lv_entry ([.ref a0, .int a1]) (n := 3) (Nat.le_of_ble_eq_true rfl)
  rw [lg_entry_eq]
  generalize (lg_sl ([.ref a0, .int a1]) ++ List.replicate (3 - (lg_sl ([.ref a0, .int a1])).length) Slot.unset).toArray = ls at hl ⊢
  have hl : lv_has ls 3 [(0, .ref a0), (1, .int a1)] := hl
  unfold f_X12_barn at h
  refine lv_iload_n hx hb dX12_barn_0 rfl (lv_at hl 1 rfl) ?_
  refine lv_iconst (v := 2) hx hb dX12_barn_1 (by decide) ?_
  refine lv_bipush (v := 100) hx hb dX12_barn_2 (by decide) ?_
  obtain ⟨v3, S2, g1, h⟩ := hq_bd2 h
  refine hq_calli hI (va_runS (As := [.int a1, .int 2, .int 100]) (rest := []) ⟨hx, hb, hml, hown, hts⟩ (c_X12_in l D kA ρ HB S a1 2 100 _ g1) (va_cwS 3 hts (gdIn (List.forall_mem_cons.mpr ⟨kw_1010, (List.forall_mem_cons.mpr ⟨kw_1011, (List.forall_mem_cons.mpr ⟨kw_6, (fun _ h => absurd h List.not_mem_nil)⟩)⟩)⟩) kw_1012) rfl rfl rfl yd_X12_in ⟨Nat.le_of_ble_eq_true rfl, Nat.le_of_ble_eq_true rfl⟩) (hq_preS hE hI _) rfl rfl hl.1 rfl (lv_room (Nat.le_of_ble_eq_true rfl)) dX12_barn_4 ⟨Nat.le_of_ble_eq_true rfl, Nat.le_of_ble_eq_true rfl⟩) (fun H locs hI => ?_)
  refine lv_if_ne (tgt := 13) hx hb dX12_barn_7 (by decide) (fun c4 => ?_) (fun c4 => ?_)
  · have h := hq_f h c4
    refine lv_aload_n hx hb dX12_barn_13 rfl (lv_at hl 0 rfl) ?_
    obtain ⟨b5, g6, h⟩ := hq_bind h
    obtain ⟨fs_g6, hs_g6, hv_g6⟩ := gR_at g6
    refine hq_get hx hb hts hown hE hI hs_g6 inG12 rfl 1 (by decide) kw_945 hv_g6 dX12_barn_14 ?_
    refine lv_iconst (v := 1) hx hb dX12_barn_17 (by decide) ?_
    obtain ⟨v8, g7, h⟩ := hq_bind h
    refine hq_iald hx hb hE hI g7 dX12_barn_18 ?_
    refine lv_if_le (tgt := 25) hx hb dX12_barn_19 (by decide) (fun c9 => ?_) (fun c9 => ?_)
    · have h := hq_t h c9
      refine lv_aload_n hx hb dX12_barn_25 rfl (lv_at hl 0 rfl) ?_
      obtain ⟨b10, g11, h⟩ := hq_bind h
      obtain ⟨fs_g11, hs_g11, hv_g11⟩ := gR_at g11
      refine hq_get hx hb hts hown hE hI hs_g11 inG12 rfl 1 (by decide) kw_945 hv_g11 dX12_barn_26 ?_
      refine lv_iconst (v := 0) hx hb dX12_barn_29 (by decide) ?_
      obtain ⟨v13, g12, h⟩ := hq_bind h
      refine hq_iald hx hb hE hI g12 dX12_barn_30 ?_
      refine lv_istore_n (lv' := [(2, .int v13), (0, .ref a0), (1, .int a1)]) hx hb dX12_barn_31 rfl hl (by decide) rfl (fun ls hl => ?_)
      refine lv_aload_n hx hb dX12_barn_32 rfl (lv_at hl 1 rfl) ?_
      obtain ⟨b14, g15, h⟩ := hq_bind h
      obtain ⟨fs_g15, hs_g15, hv_g15⟩ := gR_at g15
      refine hq_get hx hb hts hown hE hI hs_g15 inG12 rfl 1 (by decide) kw_945 hv_g15 dX12_barn_33 ?_
      refine lv_iconst (v := 0) hx hb dX12_barn_36 (by decide) ?_
      refine lv_iload_n hx hb dX12_barn_37 rfl (lv_at hl 2 rfl) ?_
      obtain ⟨S17, g16, h⟩ := hq_bind h
      refine hq_iast hx hb hE hI g16 dX12_barn_38 (fun H locs hI => ?_)
      refine lv_iload_n hx hb dX12_barn_39 rfl (lv_at hl 0 rfl) ?_
      exact hq_iret hx hb hr hlocks h0 hI h dX12_barn_40
    · have h := hq_f h c9
      refine lv_bipush (v := (-3)) hx hb dX12_barn_22 (by decide) ?_
      exact hq_iret hx hb hr hlocks h0 hI h dX12_barn_24
  · have h := hq_t h c4
    refine lv_bipush (v := (-2)) hx hb dX12_barn_10 (by decide) ?_
    exact hq_iret hx hb hr hlocks h0 hI h dX12_barn_12
-- RodDipsModel.tryout(IIIII)I
theorem dX12_tryout_0 : decode cX12_tryout 0 = .ok (.iload_n 1, 1) := by decide +kernel
theorem dX12_tryout_1 : decode cX12_tryout 1 = .ok (.invokestatic 43, 3) := by decide +kernel
theorem dX12_tryout_4 : decode cX12_tryout 4 = .ok (.ifCond .eq 31, 3) := by decide +kernel
theorem dX12_tryout_7 : decode cX12_tryout 7 = .ok (.iload_n 3, 1) := by decide +kernel
theorem dX12_tryout_8 : decode cX12_tryout 8 = .ok (.iconst 0, 1) := by decide +kernel
theorem dX12_tryout_9 : decode cX12_tryout 9 = .ok (.bipush 6, 2) := by decide +kernel
theorem dX12_tryout_11 : decode cX12_tryout 11 = .ok (.invokestatic 39, 3) := by decide +kernel
theorem dX12_tryout_14 : decode cX12_tryout 14 = .ok (.ifCond .eq 21, 3) := by decide +kernel
theorem dX12_tryout_17 : decode cX12_tryout 17 = .ok (.aload_n 0, 1) := by decide +kernel
theorem dX12_tryout_18 : decode cX12_tryout 18 = .ok (.iload 4, 2) := by decide +kernel
theorem dX12_tryout_20 : decode cX12_tryout 20 = .ok (.invokevirtual 47, 3) := by decide +kernel
theorem dX12_tryout_23 : decode cX12_tryout 23 = .ok (.ifCond .eq 12, 3) := by decide +kernel
theorem dX12_tryout_26 : decode cX12_tryout 26 = .ok (.aload_n 0, 1) := by decide +kernel
theorem dX12_tryout_27 : decode cX12_tryout 27 = .ok (.iload 5, 2) := by decide +kernel
theorem dX12_tryout_29 : decode cX12_tryout 29 = .ok (.invokevirtual 47, 3) := by decide +kernel
theorem dX12_tryout_32 : decode cX12_tryout 32 = .ok (.ifCond .ne 5, 3) := by decide +kernel
theorem dX12_tryout_35 : decode cX12_tryout 35 = .ok (.iconst (-1), 1) := by decide +kernel
theorem dX12_tryout_36 : decode cX12_tryout 36 = .ok (.ireturn, 1) := by decide +kernel
theorem dX12_tryout_37 : decode cX12_tryout 37 = .ok (.iload_n 2, 1) := by decide +kernel
theorem dX12_tryout_38 : decode cX12_tryout 38 = .ok (.iconst 0, 1) := by decide +kernel
theorem dX12_tryout_39 : decode cX12_tryout 39 = .ok (.bipush 99, 2) := by decide +kernel
theorem dX12_tryout_41 : decode cX12_tryout 41 = .ok (.invokestatic 39, 3) := by decide +kernel
theorem dX12_tryout_44 : decode cX12_tryout 44 = .ok (.ifCond .ne 6, 3) := by decide +kernel
theorem dX12_tryout_47 : decode cX12_tryout 47 = .ok (.bipush (-2), 2) := by decide +kernel
theorem dX12_tryout_49 : decode cX12_tryout 49 = .ok (.ireturn, 1) := by decide +kernel
theorem dX12_tryout_50 : decode cX12_tryout 50 = .ok (.aload_n 0, 1) := by decide +kernel
theorem dX12_tryout_51 : decode cX12_tryout 51 = .ok (.getfield 9, 3) := by decide +kernel
theorem dX12_tryout_54 : decode cX12_tryout 54 = .ok (.iconst 1, 1) := by decide +kernel
theorem dX12_tryout_55 : decode cX12_tryout 55 = .ok (.iaload, 1) := by decide +kernel
theorem dX12_tryout_56 : decode cX12_tryout 56 = .ok (.bipush 30, 2) := by decide +kernel
theorem dX12_tryout_58 : decode cX12_tryout 58 = .ok (.if_icmp .ne 6, 3) := by decide +kernel
theorem dX12_tryout_61 : decode cX12_tryout 61 = .ok (.bipush (-4), 2) := by decide +kernel
theorem dX12_tryout_63 : decode cX12_tryout 63 = .ok (.ireturn, 1) := by decide +kernel
theorem dX12_tryout_64 : decode cX12_tryout 64 = .ok (.aload_n 0, 1) := by decide +kernel
theorem dX12_tryout_65 : decode cX12_tryout 65 = .ok (.getfield 9, 3) := by decide +kernel
theorem dX12_tryout_68 : decode cX12_tryout 68 = .ok (.iconst 1, 1) := by decide +kernel
theorem dX12_tryout_69 : decode cX12_tryout 69 = .ok (.iaload, 1) := by decide +kernel
theorem dX12_tryout_70 : decode cX12_tryout 70 = .ok (.istore 6, 2) := by decide +kernel
theorem dX12_tryout_72 : decode cX12_tryout 72 = .ok (.aload_n 0, 1) := by decide +kernel
theorem dX12_tryout_73 : decode cX12_tryout 73 = .ok (.getfield 9, 3) := by decide +kernel
theorem dX12_tryout_76 : decode cX12_tryout 76 = .ok (.sipush 130, 3) := by decide +kernel
theorem dX12_tryout_79 : decode cX12_tryout 79 = .ok (.iload 6, 2) := by decide +kernel
theorem dX12_tryout_81 : decode cX12_tryout 81 = .ok (.iadd, 1) := by decide +kernel
theorem dX12_tryout_82 : decode cX12_tryout 82 = .ok (.iload_n 1, 1) := by decide +kernel
theorem dX12_tryout_83 : decode cX12_tryout 83 = .ok (.iastore, 1) := by decide +kernel
theorem dX12_tryout_84 : decode cX12_tryout 84 = .ok (.aload_n 0, 1) := by decide +kernel
theorem dX12_tryout_85 : decode cX12_tryout 85 = .ok (.getfield 9, 3) := by decide +kernel
theorem dX12_tryout_88 : decode cX12_tryout 88 = .ok (.sipush 160, 3) := by decide +kernel
theorem dX12_tryout_91 : decode cX12_tryout 91 = .ok (.iload 6, 2) := by decide +kernel
theorem dX12_tryout_93 : decode cX12_tryout 93 = .ok (.iadd, 1) := by decide +kernel
theorem dX12_tryout_94 : decode cX12_tryout 94 = .ok (.iload_n 2, 1) := by decide +kernel
theorem dX12_tryout_95 : decode cX12_tryout 95 = .ok (.iastore, 1) := by decide +kernel
theorem dX12_tryout_96 : decode cX12_tryout 96 = .ok (.aload_n 0, 1) := by decide +kernel
theorem dX12_tryout_97 : decode cX12_tryout 97 = .ok (.getfield 9, 3) := by decide +kernel
theorem dX12_tryout_100 : decode cX12_tryout 100 = .ok (.sipush 190, 3) := by decide +kernel
theorem dX12_tryout_103 : decode cX12_tryout 103 = .ok (.iload 6, 2) := by decide +kernel
theorem dX12_tryout_105 : decode cX12_tryout 105 = .ok (.iadd, 1) := by decide +kernel
theorem dX12_tryout_106 : decode cX12_tryout 106 = .ok (.iload_n 3, 1) := by decide +kernel
theorem dX12_tryout_107 : decode cX12_tryout 107 = .ok (.iastore, 1) := by decide +kernel
theorem dX12_tryout_108 : decode cX12_tryout 108 = .ok (.aload_n 0, 1) := by decide +kernel
theorem dX12_tryout_109 : decode cX12_tryout 109 = .ok (.getfield 9, 3) := by decide +kernel
theorem dX12_tryout_112 : decode cX12_tryout 112 = .ok (.sipush 220, 3) := by decide +kernel
theorem dX12_tryout_115 : decode cX12_tryout 115 = .ok (.iload 6, 2) := by decide +kernel
theorem dX12_tryout_117 : decode cX12_tryout 117 = .ok (.iadd, 1) := by decide +kernel
theorem dX12_tryout_118 : decode cX12_tryout 118 = .ok (.iload 4, 2) := by decide +kernel
theorem dX12_tryout_120 : decode cX12_tryout 120 = .ok (.iastore, 1) := by decide +kernel
theorem dX12_tryout_121 : decode cX12_tryout 121 = .ok (.aload_n 0, 1) := by decide +kernel
theorem dX12_tryout_122 : decode cX12_tryout 122 = .ok (.getfield 9, 3) := by decide +kernel
theorem dX12_tryout_125 : decode cX12_tryout 125 = .ok (.sipush 250, 3) := by decide +kernel
theorem dX12_tryout_128 : decode cX12_tryout 128 = .ok (.iload 6, 2) := by decide +kernel
theorem dX12_tryout_130 : decode cX12_tryout 130 = .ok (.iadd, 1) := by decide +kernel
theorem dX12_tryout_131 : decode cX12_tryout 131 = .ok (.iload 5, 2) := by decide +kernel
theorem dX12_tryout_133 : decode cX12_tryout 133 = .ok (.iastore, 1) := by decide +kernel
theorem dX12_tryout_134 : decode cX12_tryout 134 = .ok (.aload_n 0, 1) := by decide +kernel
theorem dX12_tryout_135 : decode cX12_tryout 135 = .ok (.getfield 9, 3) := by decide +kernel
theorem dX12_tryout_138 : decode cX12_tryout 138 = .ok (.sipush 280, 3) := by decide +kernel
theorem dX12_tryout_141 : decode cX12_tryout 141 = .ok (.iload 6, 2) := by decide +kernel
theorem dX12_tryout_143 : decode cX12_tryout 143 = .ok (.iadd, 1) := by decide +kernel
theorem dX12_tryout_144 : decode cX12_tryout 144 = .ok (.iconst 0, 1) := by decide +kernel
theorem dX12_tryout_145 : decode cX12_tryout 145 = .ok (.iastore, 1) := by decide +kernel
theorem dX12_tryout_146 : decode cX12_tryout 146 = .ok (.aload_n 0, 1) := by decide +kernel
theorem dX12_tryout_147 : decode cX12_tryout 147 = .ok (.getfield 9, 3) := by decide +kernel
theorem dX12_tryout_150 : decode cX12_tryout 150 = .ok (.iconst 1, 1) := by decide +kernel
theorem dX12_tryout_151 : decode cX12_tryout 151 = .ok (.dup2, 1) := by decide +kernel
theorem dX12_tryout_152 : decode cX12_tryout 152 = .ok (.iaload, 1) := by decide +kernel
theorem dX12_tryout_153 : decode cX12_tryout 153 = .ok (.iconst 1, 1) := by decide +kernel
theorem dX12_tryout_154 : decode cX12_tryout 154 = .ok (.iadd, 1) := by decide +kernel
theorem dX12_tryout_155 : decode cX12_tryout 155 = .ok (.iastore, 1) := by decide +kernel
theorem dX12_tryout_156 : decode cX12_tryout 156 = .ok (.iload 6, 2) := by decide +kernel
theorem dX12_tryout_158 : decode cX12_tryout 158 = .ok (.ireturn, 1) := by decide +kernel
def f_X12_tryout (S : HSt) (a0 : Nat) (a1 : Int32) (a2 : Int32) (a3 : Int32) (a4 : Int32) (a5 : Int32) : Option (Int32 × HSt) := bd2 (f_X12_isMan S a1) fun v3 S2 => if v3 = 0 then (some ((-1), S2)) else (bd2 (f_X12_in S2 a3 0 6) fun v7 S6 => if v7 = 0 then (some ((-1), S6)) else (if gC S6 a0 = some 12 then (bd2 (f_X12_isPlace S6 a0 a4) fun v12 S11 => if v12 = 0 then (some ((-1), S11)) else (if gC S11 a0 = some 12 then (bd2 (f_X12_isPlace S11 a0 a5) fun v17 S16 => if v17 = 0 then (some ((-1), S16)) else (bd2 (f_X12_in S16 a2 0 99) fun v21 S20 => if v21 = 0 then (some ((-2), S20)) else ((gR S20 a0 12 1).bind fun b23 => (aI S20 b23 0 1).bind fun v26 => if v26 = 30 then (some ((-4), S20)) else ((gR S20 a0 12 1).bind fun b28 => (aI S20 b28 0 1).bind fun v31 => (gR S20 a0 12 1).bind fun b32 => (sI S20 b32 0 (130 + v31) a1).bind fun S35 => (gR S35 a0 12 1).bind fun b36 => (sI S35 b36 0 (160 + v31) a2).bind fun S39 => (gR S39 a0 12 1).bind fun b40 => (sI S39 b40 0 (190 + v31) a3).bind fun S43 => (gR S43 a0 12 1).bind fun b44 => (sI S43 b44 0 (220 + v31) a4).bind fun S47 => (gR S47 a0 12 1).bind fun b48 => (sI S47 b48 0 (250 + v31) a5).bind fun S51 => (gR S51 a0 12 1).bind fun b52 => (sI S51 b52 0 (280 + v31) 0).bind fun S55 => (gR S55 a0 12 1).bind fun b56 => (aI S55 b56 0 1).bind fun v59 => (sI S55 b56 0 1 (v59 + 1)).bind fun S61 => some (v31, S61))))) else none)) else none))
abbrev rm_X12_tryout : Room := { frames := 2, cells := 0, slots := 0, locals := 43 }
abbrev w_X12_tryout : List Cond := Cond.code yX12_tryout cX12_tryout 7 (Option.some FieldType.int) :: lwG
theorem yd_X12_tryout : yX12_tryout.cls ≠ "java/lang/invoke/MethodHandle" ∧ yX12_tryout.cls ≠ "java/lang/invoke/VarHandle" ∧ (parseMethodDescriptor yX12_tryout.desc).map (fun d => d.parameters.length) = some 5 := by decide +kernel
theorem ye_X12_tryout : yX12_tryout.cls = RX12 ∧ yX12_tryout.cls ≠ "java/lang/invoke/MethodHandle" ∧ yX12_tryout.cls ≠ "java/lang/invoke/VarHandle" ∧ (parseMethodDescriptor yX12_tryout.desc).map (fun d => d.parameters.length) = some 5 := by decide +kernel
set_option maxHeartbeats 4000000 in
set_option maxRecDepth 100000 in
theorem c_X12_tryout (l : Launch) (D : va_G) (kA ρ : Nat → Nat) (HB : Heap) (S : HSt) (a0 : Nat) (a1 : Int32) (a2 : Int32) (a3 : Int32) (a4 : Int32) (a5 : Int32) (res : Int32 × HSt) (h : f_X12_tryout S a0 a1 a2 a3 a4 a5 = some res) : Met l yX12_tryout w_X12_tryout rm_X12_tryout (hPc D kA ρ HB S [.ref a0, .int a1, .int a2, .int a3, .int a4, .int a5]) (hQi D kA HB S res) 0 0 (hFree HB) := by
  refine Met.ofW (cc := cX12_tryout) (maxL := 7) (ret := (Option.some FieldType.int)) (by decide) rfl ?_
  intro p e s m args below meth c s₁ B hml hv
  obtain ⟨rfl, hE, h0⟩ := hv
  have hx := B.exec
  have hb := B.bytes
  have hr := B.returns
  have hts0 := atoms_spec (ws := w_X12_tryout) B.pre
  have hts : ∀ w ∈ lwG, w.before _ s = true := fun w hw => hts0 w (List.mem_cons_of_mem _ hw)
  have hown : s.vm.findClass RX12 = some m.cls := findClass_of_methodNamed B.named
  have hlocks := B.notSynchronized
  have hI : hqX D kA HB S.2 S s.heap [] := ⟨h0, Nat.le_refl _, fun _ q => absurd q List.not_mem_nil⟩
  have hl := lv_entry ([.ref a0, .int a1, .int a2, .int a3, .int a4, .int a5]) (n := 7) (Nat.le_of_ble_eq_true rfl)
  rw [lg_entry_eq]
  generalize (lg_sl ([.ref a0, .int a1, .int a2, .int a3, .int a4, .int a5]) ++ List.replicate (7 - (lg_sl ([.ref a0, .int a1, .int a2, .int a3, .int a4, .int a5])).length) Slot.unset).toArray = ls at hl ⊢
  have hl : lv_has ls 7 [(0, .ref a0), (1, .int a1), (2, .int a2), (3, .int a3), (4, .int a4), (5, .int a5)] := hl
  unfold f_X12_tryout at h
  refine lv_iload_n hx hb dX12_tryout_0 rfl (lv_at hl 1 rfl) ?_
  obtain ⟨v3, S2, g1, h⟩ := hq_bd2 h
  refine hq_calli hI (va_runS (As := [.int a1]) (rest := []) ⟨hx, hb, hml, hown, hts⟩ (c_X12_isMan l D kA ρ HB S a1 _ g1) (va_cwS 1 hts (gdIn (List.forall_mem_cons.mpr ⟨kw_1017, (List.forall_mem_cons.mpr ⟨kw_1018, (List.forall_mem_cons.mpr ⟨kw_6, (fun _ h => absurd h List.not_mem_nil)⟩)⟩)⟩) kw_1019) rfl rfl rfl yd_X12_isMan ⟨Nat.le_of_ble_eq_true rfl, Nat.le_of_ble_eq_true rfl⟩) (hq_preS hE hI _) rfl rfl hl.1 rfl (lv_room (Nat.le_of_ble_eq_true rfl)) dX12_tryout_1 ⟨Nat.le_of_ble_eq_true rfl, Nat.le_of_ble_eq_true rfl⟩) (fun H locs hI => ?_)
  refine lv_if_eq (tgt := 35) hx hb dX12_tryout_4 (by decide) (fun c4 => ?_) (fun c4 => ?_)
  · have h := hq_t h c4
    refine lv_iconst (v := (-1)) hx hb dX12_tryout_35 (by decide) ?_
    exact hq_iret hx hb hr hlocks h0 hI h dX12_tryout_36
  · have h := hq_f h c4
    refine lv_iload_n hx hb dX12_tryout_7 rfl (lv_at hl 3 rfl) ?_
    refine lv_iconst (v := 0) hx hb dX12_tryout_8 (by decide) ?_
    refine lv_bipush (v := 6) hx hb dX12_tryout_9 (by decide) ?_
    obtain ⟨v7, S6, g5, h⟩ := hq_bd2 h
    refine hq_calli hI (va_runS (As := [.int a3, .int 0, .int 6]) (rest := []) ⟨hx, hb, hml, hown, hts⟩ (c_X12_in l D kA ρ HB S2 a3 0 6 _ g5) (va_cwS 3 hts (gdIn (List.forall_mem_cons.mpr ⟨kw_1010, (List.forall_mem_cons.mpr ⟨kw_1011, (List.forall_mem_cons.mpr ⟨kw_6, (fun _ h => absurd h List.not_mem_nil)⟩)⟩)⟩) kw_1012) rfl rfl rfl yd_X12_in ⟨Nat.le_of_ble_eq_true rfl, Nat.le_of_ble_eq_true rfl⟩) (hq_preS hE hI _) rfl rfl hl.1 rfl (lv_room (Nat.le_of_ble_eq_true rfl)) dX12_tryout_11 ⟨Nat.le_of_ble_eq_true rfl, Nat.le_of_ble_eq_true rfl⟩) (fun H locs hI => ?_)
    refine lv_if_eq (tgt := 35) hx hb dX12_tryout_14 (by decide) (fun c8 => ?_) (fun c8 => ?_)
    · have h := hq_t h c8
      refine lv_iconst (v := (-1)) hx hb dX12_tryout_35 (by decide) ?_
      exact hq_iret hx hb hr hlocks h0 hI h dX12_tryout_36
    · have h := hq_f h c8
      refine lv_aload_n hx hb dX12_tryout_17 rfl (lv_at hl 0 rfl) ?_
      refine lv_iload hx hb dX12_tryout_18 (lv_at hl 4 rfl) ?_
      obtain ⟨g10, h⟩ := hq_g h
      obtain ⟨v12, S11, g9, h⟩ := hq_bd2 h
      refine hq_calli hI (va_runV (As := [.int a4]) (rest := []) ⟨hx, hb, hml, hown, hts⟩ (c_X12_isPlace l D kA ρ HB S6 a0 a4 _ g9) (cwV 1 hts (gdIn (List.forall_mem_cons.mpr ⟨kw_1020, (List.forall_mem_cons.mpr ⟨kw_1022, (List.forall_mem_cons.mpr ⟨ks_30, (List.forall_mem_cons.mpr ⟨kw_6, (fun _ h => absurd h List.not_mem_nil)⟩)⟩)⟩)⟩) kw_1023) rfl rfl rfl ye_X12_isPlace ⟨Nat.le_of_ble_eq_true rfl, Nat.le_of_ble_eq_true rfl⟩) (hq_preC hE hI g10 rfl _) rfl rfl hl.1 rfl (lv_room (Nat.le_of_ble_eq_true rfl)) dX12_tryout_20 ⟨Nat.le_of_ble_eq_true rfl, Nat.le_of_ble_eq_true rfl⟩) (fun H locs hI => ?_)
      refine lv_if_eq (tgt := 35) hx hb dX12_tryout_23 (by decide) (fun c13 => ?_) (fun c13 => ?_)
      · have h := hq_t h c13
        refine lv_iconst (v := (-1)) hx hb dX12_tryout_35 (by decide) ?_
        exact hq_iret hx hb hr hlocks h0 hI h dX12_tryout_36
      · have h := hq_f h c13
        refine lv_aload_n hx hb dX12_tryout_26 rfl (lv_at hl 0 rfl) ?_
        refine lv_iload hx hb dX12_tryout_27 (lv_at hl 5 rfl) ?_
        obtain ⟨g15, h⟩ := hq_g h
        obtain ⟨v17, S16, g14, h⟩ := hq_bd2 h
        refine hq_calli hI (va_runV (As := [.int a5]) (rest := []) ⟨hx, hb, hml, hown, hts⟩ (c_X12_isPlace l D kA ρ HB S11 a0 a5 _ g14) (cwV 1 hts (gdIn (List.forall_mem_cons.mpr ⟨kw_1020, (List.forall_mem_cons.mpr ⟨kw_1022, (List.forall_mem_cons.mpr ⟨ks_30, (List.forall_mem_cons.mpr ⟨kw_6, (fun _ h => absurd h List.not_mem_nil)⟩)⟩)⟩)⟩) kw_1023) rfl rfl rfl ye_X12_isPlace ⟨Nat.le_of_ble_eq_true rfl, Nat.le_of_ble_eq_true rfl⟩) (hq_preC hE hI g15 rfl _) rfl rfl hl.1 rfl (lv_room (Nat.le_of_ble_eq_true rfl)) dX12_tryout_29 ⟨Nat.le_of_ble_eq_true rfl, Nat.le_of_ble_eq_true rfl⟩) (fun H locs hI => ?_)
        refine lv_if_ne (tgt := 37) hx hb dX12_tryout_32 (by decide) (fun c18 => ?_) (fun c18 => ?_)
        · have h := hq_f h c18
          refine lv_iload_n hx hb dX12_tryout_37 rfl (lv_at hl 2 rfl) ?_
          refine lv_iconst (v := 0) hx hb dX12_tryout_38 (by decide) ?_
          refine lv_bipush (v := 99) hx hb dX12_tryout_39 (by decide) ?_
          obtain ⟨v21, S20, g19, h⟩ := hq_bd2 h
          refine hq_calli hI (va_runS (As := [.int a2, .int 0, .int 99]) (rest := []) ⟨hx, hb, hml, hown, hts⟩ (c_X12_in l D kA ρ HB S16 a2 0 99 _ g19) (va_cwS 3 hts (gdIn (List.forall_mem_cons.mpr ⟨kw_1010, (List.forall_mem_cons.mpr ⟨kw_1011, (List.forall_mem_cons.mpr ⟨kw_6, (fun _ h => absurd h List.not_mem_nil)⟩)⟩)⟩) kw_1012) rfl rfl rfl yd_X12_in ⟨Nat.le_of_ble_eq_true rfl, Nat.le_of_ble_eq_true rfl⟩) (hq_preS hE hI _) rfl rfl hl.1 rfl (lv_room (Nat.le_of_ble_eq_true rfl)) dX12_tryout_41 ⟨Nat.le_of_ble_eq_true rfl, Nat.le_of_ble_eq_true rfl⟩) (fun H locs hI => ?_)
          refine lv_if_ne (tgt := 50) hx hb dX12_tryout_44 (by decide) (fun c22 => ?_) (fun c22 => ?_)
          · have h := hq_f h c22
            refine lv_aload_n hx hb dX12_tryout_50 rfl (lv_at hl 0 rfl) ?_
            obtain ⟨b23, g24, h⟩ := hq_bind h
            obtain ⟨fs_g24, hs_g24, hv_g24⟩ := gR_at g24
            refine hq_get hx hb hts hown hE hI hs_g24 inG12 rfl 1 (by decide) kw_945 hv_g24 dX12_tryout_51 ?_
            refine lv_iconst (v := 1) hx hb dX12_tryout_54 (by decide) ?_
            obtain ⟨v26, g25, h⟩ := hq_bind h
            refine hq_iald hx hb hE hI g25 dX12_tryout_55 ?_
            refine lv_bipush (v := 30) hx hb dX12_tryout_56 (by decide) ?_
            refine lv_icmp_ne (tgt := 64) hx hb dX12_tryout_58 (by decide) (fun c27 => ?_) (fun c27 => ?_)
            · have h := hq_f h c27
              refine lv_aload_n hx hb dX12_tryout_64 rfl (lv_at hl 0 rfl) ?_
              obtain ⟨b28, g29, h⟩ := hq_bind h
              obtain ⟨fs_g29, hs_g29, hv_g29⟩ := gR_at g29
              refine hq_get hx hb hts hown hE hI hs_g29 inG12 rfl 1 (by decide) kw_945 hv_g29 dX12_tryout_65 ?_
              refine lv_iconst (v := 1) hx hb dX12_tryout_68 (by decide) ?_
              obtain ⟨v31, g30, h⟩ := hq_bind h
              refine hq_iald hx hb hE hI g30 dX12_tryout_69 ?_
              refine lv_istore (lv' := [(6, .int v31), (0, .ref a0), (1, .int a1), (2, .int a2), (3, .int a3), (4, .int a4), (5, .int a5)]) hx hb dX12_tryout_70 hl (by decide) rfl (fun ls hl => ?_)
              refine lv_aload_n hx hb dX12_tryout_72 rfl (lv_at hl 1 rfl) ?_
              obtain ⟨b32, g33, h⟩ := hq_bind h
              obtain ⟨fs_g33, hs_g33, hv_g33⟩ := gR_at g33
              refine hq_get hx hb hts hown hE hI hs_g33 inG12 rfl 1 (by decide) kw_945 hv_g33 dX12_tryout_73 ?_
              refine lv_sipush (v := 130) hx hb dX12_tryout_76 (by decide) ?_
              refine lv_iload hx hb dX12_tryout_79 (lv_at hl 0 rfl) ?_
              refine lv_iadd hx hb dX12_tryout_81 ?_
              refine lv_iload_n hx hb dX12_tryout_82 rfl (lv_at hl 2 rfl) ?_
              obtain ⟨S35, g34, h⟩ := hq_bind h
              refine hq_iast hx hb hE hI g34 dX12_tryout_83 (fun H locs hI => ?_)
              refine lv_aload_n hx hb dX12_tryout_84 rfl (lv_at hl 1 rfl) ?_
              obtain ⟨b36, g37, h⟩ := hq_bind h
              obtain ⟨fs_g37, hs_g37, hv_g37⟩ := gR_at g37
              refine hq_get hx hb hts hown hE hI hs_g37 inG12 rfl 1 (by decide) kw_945 hv_g37 dX12_tryout_85 ?_
              refine lv_sipush (v := 160) hx hb dX12_tryout_88 (by decide) ?_
              refine lv_iload hx hb dX12_tryout_91 (lv_at hl 0 rfl) ?_
              refine lv_iadd hx hb dX12_tryout_93 ?_
              refine lv_iload_n hx hb dX12_tryout_94 rfl (lv_at hl 3 rfl) ?_
              obtain ⟨S39, g38, h⟩ := hq_bind h
              refine hq_iast hx hb hE hI g38 dX12_tryout_95 (fun H locs hI => ?_)
              refine lv_aload_n hx hb dX12_tryout_96 rfl (lv_at hl 1 rfl) ?_
              obtain ⟨b40, g41, h⟩ := hq_bind h
              obtain ⟨fs_g41, hs_g41, hv_g41⟩ := gR_at g41
              refine hq_get hx hb hts hown hE hI hs_g41 inG12 rfl 1 (by decide) kw_945 hv_g41 dX12_tryout_97 ?_
              refine lv_sipush (v := 190) hx hb dX12_tryout_100 (by decide) ?_
              refine lv_iload hx hb dX12_tryout_103 (lv_at hl 0 rfl) ?_
              refine lv_iadd hx hb dX12_tryout_105 ?_
              refine lv_iload_n hx hb dX12_tryout_106 rfl (lv_at hl 4 rfl) ?_
              obtain ⟨S43, g42, h⟩ := hq_bind h
              refine hq_iast hx hb hE hI g42 dX12_tryout_107 (fun H locs hI => ?_)
              refine lv_aload_n hx hb dX12_tryout_108 rfl (lv_at hl 1 rfl) ?_
              obtain ⟨b44, g45, h⟩ := hq_bind h
              obtain ⟨fs_g45, hs_g45, hv_g45⟩ := gR_at g45
              refine hq_get hx hb hts hown hE hI hs_g45 inG12 rfl 1 (by decide) kw_945 hv_g45 dX12_tryout_109 ?_
              refine lv_sipush (v := 220) hx hb dX12_tryout_112 (by decide) ?_
              refine lv_iload hx hb dX12_tryout_115 (lv_at hl 0 rfl) ?_
              refine lv_iadd hx hb dX12_tryout_117 ?_
              refine lv_iload hx hb dX12_tryout_118 (lv_at hl 5 rfl) ?_
              obtain ⟨S47, g46, h⟩ := hq_bind h
              refine hq_iast hx hb hE hI g46 dX12_tryout_120 (fun H locs hI => ?_)
              refine lv_aload_n hx hb dX12_tryout_121 rfl (lv_at hl 1 rfl) ?_
              obtain ⟨b48, g49, h⟩ := hq_bind h
              obtain ⟨fs_g49, hs_g49, hv_g49⟩ := gR_at g49
              refine hq_get hx hb hts hown hE hI hs_g49 inG12 rfl 1 (by decide) kw_945 hv_g49 dX12_tryout_122 ?_
              refine lv_sipush (v := 250) hx hb dX12_tryout_125 (by decide) ?_
              refine lv_iload hx hb dX12_tryout_128 (lv_at hl 0 rfl) ?_
              refine lv_iadd hx hb dX12_tryout_130 ?_
              refine lv_iload hx hb dX12_tryout_131 (lv_at hl 6 rfl) ?_
              obtain ⟨S51, g50, h⟩ := hq_bind h
              refine hq_iast hx hb hE hI g50 dX12_tryout_133 (fun H locs hI => ?_)
              refine lv_aload_n hx hb dX12_tryout_134 rfl (lv_at hl 1 rfl) ?_
              obtain ⟨b52, g53, h⟩ := hq_bind h
              obtain ⟨fs_g53, hs_g53, hv_g53⟩ := gR_at g53
              refine hq_get hx hb hts hown hE hI hs_g53 inG12 rfl 1 (by decide) kw_945 hv_g53 dX12_tryout_135 ?_
              refine lv_sipush (v := 280) hx hb dX12_tryout_138 (by decide) ?_
              refine lv_iload hx hb dX12_tryout_141 (lv_at hl 0 rfl) ?_
              refine lv_iadd hx hb dX12_tryout_143 ?_
              refine lv_iconst (v := 0) hx hb dX12_tryout_144 (by decide) ?_
              obtain ⟨S55, g54, h⟩ := hq_bind h
              refine hq_iast hx hb hE hI g54 dX12_tryout_145 (fun H locs hI => ?_)
              refine lv_aload_n hx hb dX12_tryout_146 rfl (lv_at hl 1 rfl) ?_
              obtain ⟨b56, g57, h⟩ := hq_bind h
              obtain ⟨fs_g57, hs_g57, hv_g57⟩ := gR_at g57
              refine hq_get hx hb hts hown hE hI hs_g57 inG12 rfl 1 (by decide) kw_945 hv_g57 dX12_tryout_147 ?_
              refine lv_iconst (v := 1) hx hb dX12_tryout_150 (by decide) ?_
              refine lv_dup2_11 hx hb dX12_tryout_151 rfl rfl ?_
              obtain ⟨v59, g58, h⟩ := hq_bind h
              refine hq_iald hx hb hE hI g58 dX12_tryout_152 ?_
              refine lv_iconst (v := 1) hx hb dX12_tryout_153 (by decide) ?_
              refine lv_iadd hx hb dX12_tryout_154 ?_
              obtain ⟨S61, g60, h⟩ := hq_bind h
              refine hq_iast hx hb hE hI g60 dX12_tryout_155 (fun H locs hI => ?_)
              refine lv_iload hx hb dX12_tryout_156 (lv_at hl 0 rfl) ?_
              exact hq_iret hx hb hr hlocks h0 hI h dX12_tryout_158
            · have h := hq_t h c27
              refine lv_bipush (v := (-4)) hx hb dX12_tryout_61 (by decide) ?_
              exact hq_iret hx hb hr hlocks h0 hI h dX12_tryout_63
          · have h := hq_t h c22
            refine lv_bipush (v := (-2)) hx hb dX12_tryout_47 (by decide) ?_
            exact hq_iret hx hb hr hlocks h0 hI h dX12_tryout_49
        · have h := hq_t h c18
          refine lv_iconst (v := (-1)) hx hb dX12_tryout_35 (by decide) ?_
          exact hq_iret hx hb hr hlocks h0 hI h dX12_tryout_36
-- RodDipsModel.excuse(II)I
theorem dX12_excuse_0 : decode cX12_excuse 0 = .ok (.aload_n 0, 1) := by decide +kernel
theorem dX12_excuse_1 : decode cX12_excuse 1 = .ok (.iload_n 1, 1) := by decide +kernel
theorem dX12_excuse_2 : decode cX12_excuse 2 = .ok (.invokevirtual 50, 3) := by decide +kernel
theorem dX12_excuse_5 : decode cX12_excuse 5 = .ok (.ifCond .ne 5, 3) := by decide +kernel
theorem dX12_excuse_8 : decode cX12_excuse 8 = .ok (.iconst (-1), 1) := by decide +kernel
theorem dX12_excuse_9 : decode cX12_excuse 9 = .ok (.ireturn, 1) := by decide +kernel
theorem dX12_excuse_10 : decode cX12_excuse 10 = .ok (.iload_n 2, 1) := by decide +kernel
theorem dX12_excuse_11 : decode cX12_excuse 11 = .ok (.iconst 0, 1) := by decide +kernel
theorem dX12_excuse_12 : decode cX12_excuse 12 = .ok (.iconst 2, 1) := by decide +kernel
theorem dX12_excuse_13 : decode cX12_excuse 13 = .ok (.invokestatic 39, 3) := by decide +kernel
theorem dX12_excuse_16 : decode cX12_excuse 16 = .ok (.ifCond .ne 6, 3) := by decide +kernel
theorem dX12_excuse_19 : decode cX12_excuse 19 = .ok (.bipush (-2), 2) := by decide +kernel
theorem dX12_excuse_21 : decode cX12_excuse 21 = .ok (.ireturn, 1) := by decide +kernel
theorem dX12_excuse_22 : decode cX12_excuse 22 = .ok (.aload_n 0, 1) := by decide +kernel
theorem dX12_excuse_23 : decode cX12_excuse 23 = .ok (.getfield 9, 3) := by decide +kernel
theorem dX12_excuse_26 : decode cX12_excuse 26 = .ok (.sipush 280, 3) := by decide +kernel
theorem dX12_excuse_29 : decode cX12_excuse 29 = .ok (.iload_n 1, 1) := by decide +kernel
theorem dX12_excuse_30 : decode cX12_excuse 30 = .ok (.iadd, 1) := by decide +kernel
theorem dX12_excuse_31 : decode cX12_excuse 31 = .ok (.iaload, 1) := by decide +kernel
theorem dX12_excuse_32 : decode cX12_excuse 32 = .ok (.istore_n 3, 1) := by decide +kernel
theorem dX12_excuse_33 : decode cX12_excuse 33 = .ok (.aload_n 0, 1) := by decide +kernel
theorem dX12_excuse_34 : decode cX12_excuse 34 = .ok (.getfield 9, 3) := by decide +kernel
theorem dX12_excuse_37 : decode cX12_excuse 37 = .ok (.sipush 280, 3) := by decide +kernel
theorem dX12_excuse_40 : decode cX12_excuse 40 = .ok (.iload_n 1, 1) := by decide +kernel
theorem dX12_excuse_41 : decode cX12_excuse 41 = .ok (.iadd, 1) := by decide +kernel
theorem dX12_excuse_42 : decode cX12_excuse 42 = .ok (.iload_n 2, 1) := by decide +kernel
theorem dX12_excuse_43 : decode cX12_excuse 43 = .ok (.iastore, 1) := by decide +kernel
theorem dX12_excuse_44 : decode cX12_excuse 44 = .ok (.iload_n 3, 1) := by decide +kernel
theorem dX12_excuse_45 : decode cX12_excuse 45 = .ok (.ireturn, 1) := by decide +kernel
def f_X12_excuse (S : HSt) (a0 : Nat) (a1 : Int32) (a2 : Int32) : Option (Int32 × HSt) := if gC S a0 = some 12 then (bd2 (f_X12_isTry S a0 a1) fun v4 S3 => if v4 = 0 then (some ((-1), S3)) else (bd2 (f_X12_in S3 a2 0 2) fun v8 S7 => if v8 = 0 then (some ((-2), S7)) else ((gR S7 a0 12 1).bind fun b10 => (aI S7 b10 0 (280 + a1)).bind fun v13 => (gR S7 a0 12 1).bind fun b14 => (sI S7 b14 0 (280 + a1) a2).bind fun S17 => some (v13, S17)))) else none
abbrev rm_X12_excuse : Room := { frames := 2, cells := 0, slots := 0, locals := 43 }
abbrev w_X12_excuse : List Cond := Cond.code yX12_excuse cX12_excuse 4 (Option.some FieldType.int) :: lwG
theorem yd_X12_excuse : yX12_excuse.cls ≠ "java/lang/invoke/MethodHandle" ∧ yX12_excuse.cls ≠ "java/lang/invoke/VarHandle" ∧ (parseMethodDescriptor yX12_excuse.desc).map (fun d => d.parameters.length) = some 2 := by decide +kernel
theorem ye_X12_excuse : yX12_excuse.cls = RX12 ∧ yX12_excuse.cls ≠ "java/lang/invoke/MethodHandle" ∧ yX12_excuse.cls ≠ "java/lang/invoke/VarHandle" ∧ (parseMethodDescriptor yX12_excuse.desc).map (fun d => d.parameters.length) = some 2 := by decide +kernel
set_option maxHeartbeats 4000000 in
set_option maxRecDepth 100000 in
theorem c_X12_excuse (l : Launch) (D : va_G) (kA ρ : Nat → Nat) (HB : Heap) (S : HSt) (a0 : Nat) (a1 : Int32) (a2 : Int32) (res : Int32 × HSt) (h : f_X12_excuse S a0 a1 a2 = some res) : Met l yX12_excuse w_X12_excuse rm_X12_excuse (hPc D kA ρ HB S [.ref a0, .int a1, .int a2]) (hQi D kA HB S res) 0 0 (hFree HB) := by
  refine Met.ofW (cc := cX12_excuse) (maxL := 4) (ret := (Option.some FieldType.int)) (by decide) rfl ?_
  intro p e s m args below meth c s₁ B hml hv
  obtain ⟨rfl, hE, h0⟩ := hv
  have hx := B.exec
  have hb := B.bytes
  have hr := B.returns
  have hts0 := atoms_spec (ws := w_X12_excuse) B.pre
  have hts : ∀ w ∈ lwG, w.before _ s = true := fun w hw => hts0 w (List.mem_cons_of_mem _ hw)
  have hown : s.vm.findClass RX12 = some m.cls := findClass_of_methodNamed B.named
  have hlocks := B.notSynchronized
  have hI : hqX D kA HB S.2 S s.heap [] := ⟨h0, Nat.le_refl _, fun _ q => absurd q List.not_mem_nil⟩
  have hl := lv_entry ([.ref a0, .int a1, .int a2]) (n := 4) (Nat.le_of_ble_eq_true rfl)
  rw [lg_entry_eq]
  generalize (lg_sl ([.ref a0, .int a1, .int a2]) ++ List.replicate (4 - (lg_sl ([.ref a0, .int a1, .int a2])).length) Slot.unset).toArray = ls at hl ⊢
  have hl : lv_has ls 4 [(0, .ref a0), (1, .int a1), (2, .int a2)] := hl
  unfold f_X12_excuse at h
  refine lv_aload_n hx hb dX12_excuse_0 rfl (lv_at hl 0 rfl) ?_
  refine lv_iload_n hx hb dX12_excuse_1 rfl (lv_at hl 1 rfl) ?_
  obtain ⟨g2, h⟩ := hq_g h
  obtain ⟨v4, S3, g1, h⟩ := hq_bd2 h
  refine hq_calli hI (va_runV (As := [.int a1]) (rest := []) ⟨hx, hb, hml, hown, hts⟩ (c_X12_isTry l D kA ρ HB S a0 a1 _ g1) (cwV 1 hts (gdIn (List.forall_mem_cons.mpr ⟨kw_1028, (List.forall_mem_cons.mpr ⟨kw_1030, (List.forall_mem_cons.mpr ⟨ks_31, (List.forall_mem_cons.mpr ⟨kw_6, (fun _ h => absurd h List.not_mem_nil)⟩)⟩)⟩)⟩) kw_1031) rfl rfl rfl ye_X12_isTry ⟨Nat.le_of_ble_eq_true rfl, Nat.le_of_ble_eq_true rfl⟩) (hq_preC hE hI g2 rfl _) rfl rfl hl.1 rfl (lv_room (Nat.le_of_ble_eq_true rfl)) dX12_excuse_2 ⟨Nat.le_of_ble_eq_true rfl, Nat.le_of_ble_eq_true rfl⟩) (fun H locs hI => ?_)
  refine lv_if_ne (tgt := 10) hx hb dX12_excuse_5 (by decide) (fun c5 => ?_) (fun c5 => ?_)
  · have h := hq_f h c5
    refine lv_iload_n hx hb dX12_excuse_10 rfl (lv_at hl 2 rfl) ?_
    refine lv_iconst (v := 0) hx hb dX12_excuse_11 (by decide) ?_
    refine lv_iconst (v := 2) hx hb dX12_excuse_12 (by decide) ?_
    obtain ⟨v8, S7, g6, h⟩ := hq_bd2 h
    refine hq_calli hI (va_runS (As := [.int a2, .int 0, .int 2]) (rest := []) ⟨hx, hb, hml, hown, hts⟩ (c_X12_in l D kA ρ HB S3 a2 0 2 _ g6) (va_cwS 3 hts (gdIn (List.forall_mem_cons.mpr ⟨kw_1010, (List.forall_mem_cons.mpr ⟨kw_1011, (List.forall_mem_cons.mpr ⟨kw_6, (fun _ h => absurd h List.not_mem_nil)⟩)⟩)⟩) kw_1012) rfl rfl rfl yd_X12_in ⟨Nat.le_of_ble_eq_true rfl, Nat.le_of_ble_eq_true rfl⟩) (hq_preS hE hI _) rfl rfl hl.1 rfl (lv_room (Nat.le_of_ble_eq_true rfl)) dX12_excuse_13 ⟨Nat.le_of_ble_eq_true rfl, Nat.le_of_ble_eq_true rfl⟩) (fun H locs hI => ?_)
    refine lv_if_ne (tgt := 22) hx hb dX12_excuse_16 (by decide) (fun c9 => ?_) (fun c9 => ?_)
    · have h := hq_f h c9
      refine lv_aload_n hx hb dX12_excuse_22 rfl (lv_at hl 0 rfl) ?_
      obtain ⟨b10, g11, h⟩ := hq_bind h
      obtain ⟨fs_g11, hs_g11, hv_g11⟩ := gR_at g11
      refine hq_get hx hb hts hown hE hI hs_g11 inG12 rfl 1 (by decide) kw_945 hv_g11 dX12_excuse_23 ?_
      refine lv_sipush (v := 280) hx hb dX12_excuse_26 (by decide) ?_
      refine lv_iload_n hx hb dX12_excuse_29 rfl (lv_at hl 1 rfl) ?_
      refine lv_iadd hx hb dX12_excuse_30 ?_
      obtain ⟨v13, g12, h⟩ := hq_bind h
      refine hq_iald hx hb hE hI g12 dX12_excuse_31 ?_
      refine lv_istore_n (lv' := [(3, .int v13), (0, .ref a0), (1, .int a1), (2, .int a2)]) hx hb dX12_excuse_32 rfl hl (by decide) rfl (fun ls hl => ?_)
      refine lv_aload_n hx hb dX12_excuse_33 rfl (lv_at hl 1 rfl) ?_
      obtain ⟨b14, g15, h⟩ := hq_bind h
      obtain ⟨fs_g15, hs_g15, hv_g15⟩ := gR_at g15
      refine hq_get hx hb hts hown hE hI hs_g15 inG12 rfl 1 (by decide) kw_945 hv_g15 dX12_excuse_34 ?_
      refine lv_sipush (v := 280) hx hb dX12_excuse_37 (by decide) ?_
      refine lv_iload_n hx hb dX12_excuse_40 rfl (lv_at hl 2 rfl) ?_
      refine lv_iadd hx hb dX12_excuse_41 ?_
      refine lv_iload_n hx hb dX12_excuse_42 rfl (lv_at hl 3 rfl) ?_
      obtain ⟨S17, g16, h⟩ := hq_bind h
      refine hq_iast hx hb hE hI g16 dX12_excuse_43 (fun H locs hI => ?_)
      refine lv_iload_n hx hb dX12_excuse_44 rfl (lv_at hl 0 rfl) ?_
      exact hq_iret hx hb hr hlocks h0 hI h dX12_excuse_45
    · have h := hq_t h c9
      refine lv_bipush (v := (-2)) hx hb dX12_excuse_19 (by decide) ?_
      exact hq_iret hx hb hr hlocks h0 hI h dX12_excuse_21
  · have h := hq_t h c5
    refine lv_iconst (v := (-1)) hx hb dX12_excuse_8 (by decide) ?_
    exact hq_iret hx hb hr hlocks h0 hI h dX12_excuse_9
-- RodDipsModel.nearOf(I)I
theorem dX12_nearOf_0 : decode cX12_nearOf 0 = .ok (.aload_n 0, 1) := by decide +kernel
theorem dX12_nearOf_1 : decode cX12_nearOf 1 = .ok (.getfield 9, 3) := by decide +kernel
theorem dX12_nearOf_4 : decode cX12_nearOf 4 = .ok (.sipush 220, 3) := by decide +kernel
theorem dX12_nearOf_7 : decode cX12_nearOf 7 = .ok (.iload_n 1, 1) := by decide +kernel
theorem dX12_nearOf_8 : decode cX12_nearOf 8 = .ok (.iadd, 1) := by decide +kernel
theorem dX12_nearOf_9 : decode cX12_nearOf 9 = .ok (.iaload, 1) := by decide +kernel
theorem dX12_nearOf_10 : decode cX12_nearOf 10 = .ok (.aload_n 0, 1) := by decide +kernel
theorem dX12_nearOf_11 : decode cX12_nearOf 11 = .ok (.getfield 9, 3) := by decide +kernel
theorem dX12_nearOf_14 : decode cX12_nearOf 14 = .ok (.sipush 250, 3) := by decide +kernel
theorem dX12_nearOf_17 : decode cX12_nearOf 17 = .ok (.iload_n 1, 1) := by decide +kernel
theorem dX12_nearOf_18 : decode cX12_nearOf 18 = .ok (.iadd, 1) := by decide +kernel
theorem dX12_nearOf_19 : decode cX12_nearOf 19 = .ok (.iaload, 1) := by decide +kernel
theorem dX12_nearOf_20 : decode cX12_nearOf 20 = .ok (.isub, 1) := by decide +kernel
theorem dX12_nearOf_21 : decode cX12_nearOf 21 = .ok (.invokestatic 53, 3) := by decide +kernel
theorem dX12_nearOf_24 : decode cX12_nearOf 24 = .ok (.ireturn, 1) := by decide +kernel
def f_X12_nearOf (S : HSt) (a0 : Nat) (a1 : Int32) : Option (Int32 × HSt) := (gR S a0 12 1).bind fun b1 => (aI S b1 0 (220 + a1)).bind fun v4 => (gR S a0 12 1).bind fun b5 => (aI S b5 0 (250 + a1)).bind fun v8 => bd2 (f_X12_size S (v4 - v8)) fun v11 S10 => some (v11, S10)
abbrev rm_X12_nearOf : Room := { frames := 1, cells := 0, slots := 0, locals := 20 }
abbrev w_X12_nearOf : List Cond := Cond.code yX12_nearOf cX12_nearOf 2 (Option.some FieldType.int) :: lwG
theorem yd_X12_nearOf : yX12_nearOf.cls ≠ "java/lang/invoke/MethodHandle" ∧ yX12_nearOf.cls ≠ "java/lang/invoke/VarHandle" ∧ (parseMethodDescriptor yX12_nearOf.desc).map (fun d => d.parameters.length) = some 1 := by decide +kernel
theorem ye_X12_nearOf : yX12_nearOf.cls = RX12 ∧ yX12_nearOf.cls ≠ "java/lang/invoke/MethodHandle" ∧ yX12_nearOf.cls ≠ "java/lang/invoke/VarHandle" ∧ (parseMethodDescriptor yX12_nearOf.desc).map (fun d => d.parameters.length) = some 1 := by decide +kernel
set_option maxHeartbeats 4000000 in
set_option maxRecDepth 100000 in
theorem c_X12_nearOf (l : Launch) (D : va_G) (kA ρ : Nat → Nat) (HB : Heap) (S : HSt) (a0 : Nat) (a1 : Int32) (res : Int32 × HSt) (h : f_X12_nearOf S a0 a1 = some res) : Met l yX12_nearOf w_X12_nearOf rm_X12_nearOf (hPc D kA ρ HB S [.ref a0, .int a1]) (hQi D kA HB S res) 0 0 (hFree HB) := by
  refine Met.ofW (cc := cX12_nearOf) (maxL := 2) (ret := (Option.some FieldType.int)) (by decide) rfl ?_
  intro p e s m args below meth c s₁ B hml hv
  obtain ⟨rfl, hE, h0⟩ := hv
  have hx := B.exec
  have hb := B.bytes
  have hr := B.returns
  have hts0 := atoms_spec (ws := w_X12_nearOf) B.pre
  have hts : ∀ w ∈ lwG, w.before _ s = true := fun w hw => hts0 w (List.mem_cons_of_mem _ hw)
  have hown : s.vm.findClass RX12 = some m.cls := findClass_of_methodNamed B.named
  have hlocks := B.notSynchronized
  have hI : hqX D kA HB S.2 S s.heap [] := ⟨h0, Nat.le_refl _, fun _ q => absurd q List.not_mem_nil⟩
  have hl := lv_entry ([.ref a0, .int a1]) (n := 2) (Nat.le_of_ble_eq_true rfl)
  rw [lg_entry_eq]
  generalize (lg_sl ([.ref a0, .int a1]) ++ List.replicate (2 - (lg_sl ([.ref a0, .int a1])).length) Slot.unset).toArray = ls at hl ⊢
  have hl : lv_has ls 2 [(0, .ref a0), (1, .int a1)] := hl
  unfold f_X12_nearOf at h
  refine lv_aload_n hx hb dX12_nearOf_0 rfl (lv_at hl 0 rfl) ?_
  obtain ⟨b1, g2, h⟩ := hq_bind h
  obtain ⟨fs_g2, hs_g2, hv_g2⟩ := gR_at g2
  refine hq_get hx hb hts hown hE hI hs_g2 inG12 rfl 1 (by decide) kw_945 hv_g2 dX12_nearOf_1 ?_
  refine lv_sipush (v := 220) hx hb dX12_nearOf_4 (by decide) ?_
  refine lv_iload_n hx hb dX12_nearOf_7 rfl (lv_at hl 1 rfl) ?_
  refine lv_iadd hx hb dX12_nearOf_8 ?_
  obtain ⟨v4, g3, h⟩ := hq_bind h
  refine hq_iald hx hb hE hI g3 dX12_nearOf_9 ?_
  refine lv_aload_n hx hb dX12_nearOf_10 rfl (lv_at hl 0 rfl) ?_
  obtain ⟨b5, g6, h⟩ := hq_bind h
  obtain ⟨fs_g6, hs_g6, hv_g6⟩ := gR_at g6
  refine hq_get hx hb hts hown hE hI hs_g6 inG12 rfl 1 (by decide) kw_945 hv_g6 dX12_nearOf_11 ?_
  refine lv_sipush (v := 250) hx hb dX12_nearOf_14 (by decide) ?_
  refine lv_iload_n hx hb dX12_nearOf_17 rfl (lv_at hl 1 rfl) ?_
  refine lv_iadd hx hb dX12_nearOf_18 ?_
  obtain ⟨v8, g7, h⟩ := hq_bind h
  refine hq_iald hx hb hE hI g7 dX12_nearOf_19 ?_
  refine lv_isub hx hb dX12_nearOf_20 ?_
  obtain ⟨v11, S10, g9, h⟩ := hq_bd2 h
  refine hq_calli hI (va_runS (As := [.int (v4 - v8)]) (rest := []) ⟨hx, hb, hml, hown, hts⟩ (c_X12_size l D kA ρ HB S (v4 - v8) _ g9) (va_cwS 1 hts (gdIn (List.forall_mem_cons.mpr ⟨kw_1040, (List.forall_mem_cons.mpr ⟨kw_1041, (List.forall_mem_cons.mpr ⟨kw_6, (fun _ h => absurd h List.not_mem_nil)⟩)⟩)⟩) kw_1042) rfl rfl rfl yd_X12_size ⟨Nat.le_of_ble_eq_true rfl, Nat.le_of_ble_eq_true rfl⟩) (hq_preS hE hI _) rfl rfl hl.1 rfl (lv_room (Nat.le_of_ble_eq_true rfl)) dX12_nearOf_21 ⟨Nat.le_of_ble_eq_true rfl, Nat.le_of_ble_eq_true rfl⟩) (fun H locs hI => ?_)
  exact hq_iret hx hb hr hlocks h0 hI h dX12_nearOf_24
-- RodDipsModel.of(II)I
theorem dX12_of_0 : decode cX12_of 0 = .ok (.aload_n 0, 1) := by decide +kernel
theorem dX12_of_1 : decode cX12_of 1 = .ok (.iload_n 1, 1) := by decide +kernel
theorem dX12_of_2 : decode cX12_of 2 = .ok (.invokevirtual 50, 3) := by decide +kernel
theorem dX12_of_5 : decode cX12_of 5 = .ok (.ifCond .eq 13, 3) := by decide +kernel
theorem dX12_of_8 : decode cX12_of 8 = .ok (.iload_n 2, 1) := by decide +kernel
theorem dX12_of_9 : decode cX12_of 9 = .ok (.iconst 0, 1) := by decide +kernel
theorem dX12_of_10 : decode cX12_of 10 = .ok (.bipush 6, 2) := by decide +kernel
theorem dX12_of_12 : decode cX12_of 12 = .ok (.invokestatic 39, 3) := by decide +kernel
theorem dX12_of_15 : decode cX12_of 15 = .ok (.ifCond .ne 5, 3) := by decide +kernel
theorem dX12_of_18 : decode cX12_of 18 = .ok (.iconst (-1), 1) := by decide +kernel
theorem dX12_of_19 : decode cX12_of 19 = .ok (.ireturn, 1) := by decide +kernel
theorem dX12_of_20 : decode cX12_of 20 = .ok (.iload_n 2, 1) := by decide +kernel
theorem dX12_of_21 : decode cX12_of 21 = .ok (.bipush 6, 2) := by decide +kernel
theorem dX12_of_23 : decode cX12_of 23 = .ok (.if_icmp .ne 11, 3) := by decide +kernel
theorem dX12_of_26 : decode cX12_of 26 = .ok (.aload_n 0, 1) := by decide +kernel
theorem dX12_of_27 : decode cX12_of 27 = .ok (.iload_n 1, 1) := by decide +kernel
theorem dX12_of_28 : decode cX12_of 28 = .ok (.invokevirtual 57, 3) := by decide +kernel
theorem dX12_of_31 : decode cX12_of 31 = .ok (.goto 18, 3) := by decide +kernel
theorem dX12_of_34 : decode cX12_of 34 = .ok (.aload_n 0, 1) := by decide +kernel
theorem dX12_of_35 : decode cX12_of 35 = .ok (.getfield 9, 3) := by decide +kernel
theorem dX12_of_38 : decode cX12_of 38 = .ok (.sipush 130, 3) := by decide +kernel
theorem dX12_of_41 : decode cX12_of 41 = .ok (.bipush 30, 2) := by decide +kernel
theorem dX12_of_43 : decode cX12_of 43 = .ok (.iload_n 2, 1) := by decide +kernel
theorem dX12_of_44 : decode cX12_of 44 = .ok (.imul, 1) := by decide +kernel
theorem dX12_of_45 : decode cX12_of 45 = .ok (.iadd, 1) := by decide +kernel
theorem dX12_of_46 : decode cX12_of 46 = .ok (.iload_n 1, 1) := by decide +kernel
theorem dX12_of_47 : decode cX12_of 47 = .ok (.iadd, 1) := by decide +kernel
theorem dX12_of_48 : decode cX12_of 48 = .ok (.iaload, 1) := by decide +kernel
theorem dX12_of_49 : decode cX12_of 49 = .ok (.ireturn, 1) := by decide +kernel
def f_X12_of (S : HSt) (a0 : Nat) (a1 : Int32) (a2 : Int32) : Option (Int32 × HSt) := if gC S a0 = some 12 then (bd2 (f_X12_isTry S a0 a1) fun v4 S3 => if v4 = 0 then (some ((-1), S3)) else (bd2 (f_X12_in S3 a2 0 6) fun v8 S7 => if v8 = 0 then (some ((-1), S7)) else (if a2 = 6 then (if gC S7 a0 = some 12 then (bd2 (f_X12_nearOf S7 a0 a1) fun v18 S17 => some (v18, S17)) else none) else ((gR S7 a0 12 1).bind fun b11 => (aI S7 b11 0 ((130 + (30 * a2)) + a1)).bind fun v14 => some (v14, S7))))) else none
abbrev rm_X12_of : Room := { frames := 2, cells := 0, slots := 0, locals := 43 }
abbrev w_X12_of : List Cond := Cond.code yX12_of cX12_of 3 (Option.some FieldType.int) :: lwG
theorem yd_X12_of : yX12_of.cls ≠ "java/lang/invoke/MethodHandle" ∧ yX12_of.cls ≠ "java/lang/invoke/VarHandle" ∧ (parseMethodDescriptor yX12_of.desc).map (fun d => d.parameters.length) = some 2 := by decide +kernel
theorem ye_X12_of : yX12_of.cls = RX12 ∧ yX12_of.cls ≠ "java/lang/invoke/MethodHandle" ∧ yX12_of.cls ≠ "java/lang/invoke/VarHandle" ∧ (parseMethodDescriptor yX12_of.desc).map (fun d => d.parameters.length) = some 2 := by decide +kernel
set_option maxHeartbeats 4000000 in
set_option maxRecDepth 100000 in
theorem c_X12_of (l : Launch) (D : va_G) (kA ρ : Nat → Nat) (HB : Heap) (S : HSt) (a0 : Nat) (a1 : Int32) (a2 : Int32) (res : Int32 × HSt) (h : f_X12_of S a0 a1 a2 = some res) : Met l yX12_of w_X12_of rm_X12_of (hPc D kA ρ HB S [.ref a0, .int a1, .int a2]) (hQi D kA HB S res) 0 0 (hFree HB) := by
  refine Met.ofW (cc := cX12_of) (maxL := 3) (ret := (Option.some FieldType.int)) (by decide) rfl ?_
  intro p e s m args below meth c s₁ B hml hv
  obtain ⟨rfl, hE, h0⟩ := hv
  have hx := B.exec
  have hb := B.bytes
  have hr := B.returns
  have hts0 := atoms_spec (ws := w_X12_of) B.pre
  have hts : ∀ w ∈ lwG, w.before _ s = true := fun w hw => hts0 w (List.mem_cons_of_mem _ hw)
  have hown : s.vm.findClass RX12 = some m.cls := findClass_of_methodNamed B.named
  have hlocks := B.notSynchronized
  have hI : hqX D kA HB S.2 S s.heap [] := ⟨h0, Nat.le_refl _, fun _ q => absurd q List.not_mem_nil⟩
  have hl := lv_entry ([.ref a0, .int a1, .int a2]) (n := 3) (Nat.le_of_ble_eq_true rfl)
  rw [lg_entry_eq]
  generalize (lg_sl ([.ref a0, .int a1, .int a2]) ++ List.replicate (3 - (lg_sl ([.ref a0, .int a1, .int a2])).length) Slot.unset).toArray = ls at hl ⊢
  have hl : lv_has ls 3 [(0, .ref a0), (1, .int a1), (2, .int a2)] := hl
  unfold f_X12_of at h
  refine lv_aload_n hx hb dX12_of_0 rfl (lv_at hl 0 rfl) ?_
  refine lv_iload_n hx hb dX12_of_1 rfl (lv_at hl 1 rfl) ?_
  obtain ⟨g2, h⟩ := hq_g h
  obtain ⟨v4, S3, g1, h⟩ := hq_bd2 h
  refine hq_calli hI (va_runV (As := [.int a1]) (rest := []) ⟨hx, hb, hml, hown, hts⟩ (c_X12_isTry l D kA ρ HB S a0 a1 _ g1) (cwV 1 hts (gdIn (List.forall_mem_cons.mpr ⟨kw_1028, (List.forall_mem_cons.mpr ⟨kw_1030, (List.forall_mem_cons.mpr ⟨ks_31, (List.forall_mem_cons.mpr ⟨kw_6, (fun _ h => absurd h List.not_mem_nil)⟩)⟩)⟩)⟩) kw_1031) rfl rfl rfl ye_X12_isTry ⟨Nat.le_of_ble_eq_true rfl, Nat.le_of_ble_eq_true rfl⟩) (hq_preC hE hI g2 rfl _) rfl rfl hl.1 rfl (lv_room (Nat.le_of_ble_eq_true rfl)) dX12_of_2 ⟨Nat.le_of_ble_eq_true rfl, Nat.le_of_ble_eq_true rfl⟩) (fun H locs hI => ?_)
  refine lv_if_eq (tgt := 18) hx hb dX12_of_5 (by decide) (fun c5 => ?_) (fun c5 => ?_)
  · have h := hq_t h c5
    refine lv_iconst (v := (-1)) hx hb dX12_of_18 (by decide) ?_
    exact hq_iret hx hb hr hlocks h0 hI h dX12_of_19
  · have h := hq_f h c5
    refine lv_iload_n hx hb dX12_of_8 rfl (lv_at hl 2 rfl) ?_
    refine lv_iconst (v := 0) hx hb dX12_of_9 (by decide) ?_
    refine lv_bipush (v := 6) hx hb dX12_of_10 (by decide) ?_
    obtain ⟨v8, S7, g6, h⟩ := hq_bd2 h
    refine hq_calli hI (va_runS (As := [.int a2, .int 0, .int 6]) (rest := []) ⟨hx, hb, hml, hown, hts⟩ (c_X12_in l D kA ρ HB S3 a2 0 6 _ g6) (va_cwS 3 hts (gdIn (List.forall_mem_cons.mpr ⟨kw_1010, (List.forall_mem_cons.mpr ⟨kw_1011, (List.forall_mem_cons.mpr ⟨kw_6, (fun _ h => absurd h List.not_mem_nil)⟩)⟩)⟩) kw_1012) rfl rfl rfl yd_X12_in ⟨Nat.le_of_ble_eq_true rfl, Nat.le_of_ble_eq_true rfl⟩) (hq_preS hE hI _) rfl rfl hl.1 rfl (lv_room (Nat.le_of_ble_eq_true rfl)) dX12_of_12 ⟨Nat.le_of_ble_eq_true rfl, Nat.le_of_ble_eq_true rfl⟩) (fun H locs hI => ?_)
    refine lv_if_ne (tgt := 20) hx hb dX12_of_15 (by decide) (fun c9 => ?_) (fun c9 => ?_)
    · have h := hq_f h c9
      refine lv_iload_n hx hb dX12_of_20 rfl (lv_at hl 2 rfl) ?_
      refine lv_bipush (v := 6) hx hb dX12_of_21 (by decide) ?_
      refine lv_icmp_ne (tgt := 34) hx hb dX12_of_23 (by decide) (fun c10 => ?_) (fun c10 => ?_)
      · have h := hq_f h c10
        refine lv_aload_n hx hb dX12_of_34 rfl (lv_at hl 0 rfl) ?_
        obtain ⟨b11, g12, h⟩ := hq_bind h
        obtain ⟨fs_g12, hs_g12, hv_g12⟩ := gR_at g12
        refine hq_get hx hb hts hown hE hI hs_g12 inG12 rfl 1 (by decide) kw_945 hv_g12 dX12_of_35 ?_
        refine lv_sipush (v := 130) hx hb dX12_of_38 (by decide) ?_
        refine lv_bipush (v := 30) hx hb dX12_of_41 (by decide) ?_
        refine lv_iload_n hx hb dX12_of_43 rfl (lv_at hl 2 rfl) ?_
        refine lv_imul hx hb dX12_of_44 ?_
        refine lv_iadd hx hb dX12_of_45 ?_
        refine lv_iload_n hx hb dX12_of_46 rfl (lv_at hl 1 rfl) ?_
        refine lv_iadd hx hb dX12_of_47 ?_
        obtain ⟨v14, g13, h⟩ := hq_bind h
        refine hq_iald hx hb hE hI g13 dX12_of_48 ?_
        exact hq_iret hx hb hr hlocks h0 hI h dX12_of_49
      · have h := hq_t h c10
        refine lv_aload_n hx hb dX12_of_26 rfl (lv_at hl 0 rfl) ?_
        refine lv_iload_n hx hb dX12_of_27 rfl (lv_at hl 1 rfl) ?_
        obtain ⟨g16, h⟩ := hq_g h
        obtain ⟨v18, S17, g15, h⟩ := hq_bd2 h
        refine hq_calli hI (va_runV (As := [.int a1]) (rest := []) ⟨hx, hb, hml, hown, hts⟩ (c_X12_nearOf l D kA ρ HB S7 a0 a1 _ g15) (cwV 1 hts (gdIn (List.forall_mem_cons.mpr ⟨kw_1036, (List.forall_mem_cons.mpr ⟨kw_1038, (List.forall_mem_cons.mpr ⟨ks_32, (List.forall_mem_cons.mpr ⟨kw_6, (fun _ h => absurd h List.not_mem_nil)⟩)⟩)⟩)⟩) kw_1039) rfl rfl rfl ye_X12_nearOf ⟨Nat.le_of_ble_eq_true rfl, Nat.le_of_ble_eq_true rfl⟩) (hq_preC hE hI g16 rfl _) rfl rfl hl.1 rfl (lv_room (Nat.le_of_ble_eq_true rfl)) dX12_of_28 ⟨Nat.le_of_ble_eq_true rfl, Nat.le_of_ble_eq_true rfl⟩) (fun H locs hI => ?_)
        refine lv_goto (tgt := 49) hx hb dX12_of_31 (by decide) ?_
        exact hq_iret hx hb hr hlocks h0 hI h dX12_of_49
    · have h := hq_t h c9
      refine lv_iconst (v := (-1)) hx hb dX12_of_18 (by decide) ?_
      exact hq_iret hx hb hr hlocks h0 hI h dX12_of_19
-- RodDipsModel.feed(JI)I
theorem dX12_feed_0 : decode cX12_feed 0 = .ok (.iload_n 3, 1) := by decide +kernel
theorem dX12_feed_1 : decode cX12_feed 1 = .ok (.iconst 1, 1) := by decide +kernel
theorem dX12_feed_2 : decode cX12_feed 2 = .ok (.bipush 8, 2) := by decide +kernel
theorem dX12_feed_4 : decode cX12_feed 4 = .ok (.invokestatic 39, 3) := by decide +kernel
theorem dX12_feed_7 : decode cX12_feed 7 = .ok (.ifCond .ne 6, 3) := by decide +kernel
theorem dX12_feed_10 : decode cX12_feed 10 = .ok (.bipush (-2), 2) := by decide +kernel
theorem dX12_feed_12 : decode cX12_feed 12 = .ok (.ireturn, 1) := by decide +kernel
theorem dX12_feed_13 : decode cX12_feed 13 = .ok (.aload_n 0, 1) := by decide +kernel
theorem dX12_feed_14 : decode cX12_feed 14 = .ok (.getfield 9, 3) := by decide +kernel
theorem dX12_feed_17 : decode cX12_feed 17 = .ok (.iconst 4, 1) := by decide +kernel
theorem dX12_feed_18 : decode cX12_feed 18 = .ok (.iaload, 1) := by decide +kernel
theorem dX12_feed_19 : decode cX12_feed 19 = .ok (.iload_n 3, 1) := by decide +kernel
theorem dX12_feed_20 : decode cX12_feed 20 = .ok (.iadd, 1) := by decide +kernel
theorem dX12_feed_21 : decode cX12_feed 21 = .ok (.bipush 120, 2) := by decide +kernel
theorem dX12_feed_23 : decode cX12_feed 23 = .ok (.if_icmp .le 6, 3) := by decide +kernel
theorem dX12_feed_26 : decode cX12_feed 26 = .ok (.bipush (-4), 2) := by decide +kernel
theorem dX12_feed_28 : decode cX12_feed 28 = .ok (.ireturn, 1) := by decide +kernel
theorem dX12_feed_29 : decode cX12_feed 29 = .ok (.iload_n 3, 1) := by decide +kernel
theorem dX12_feed_30 : decode cX12_feed 30 = .ok (.iconst 1, 1) := by decide +kernel
theorem dX12_feed_31 : decode cX12_feed 31 = .ok (.isub, 1) := by decide +kernel
theorem dX12_feed_32 : decode cX12_feed 32 = .ok (.istore 4, 2) := by decide +kernel
theorem dX12_feed_34 : decode cX12_feed 34 = .ok (.iload 4, 2) := by decide +kernel
theorem dX12_feed_36 : decode cX12_feed 36 = .ok (.ifCond .lt 45, 3) := by decide +kernel
theorem dX12_feed_39 : decode cX12_feed 39 = .ok (.aload_n 0, 1) := by decide +kernel
theorem dX12_feed_40 : decode cX12_feed 40 = .ok (.getfield 9, 3) := by decide +kernel
theorem dX12_feed_43 : decode cX12_feed 43 = .ok (.bipush 10, 2) := by decide +kernel
theorem dX12_feed_45 : decode cX12_feed 45 = .ok (.aload_n 0, 1) := by decide +kernel
theorem dX12_feed_46 : decode cX12_feed 46 = .ok (.getfield 9, 3) := by decide +kernel
theorem dX12_feed_49 : decode cX12_feed 49 = .ok (.iconst 4, 1) := by decide +kernel
theorem dX12_feed_50 : decode cX12_feed 50 = .ok (.iaload, 1) := by decide +kernel
theorem dX12_feed_51 : decode cX12_feed 51 = .ok (.iadd, 1) := by decide +kernel
theorem dX12_feed_52 : decode cX12_feed 52 = .ok (.lload_n 1, 1) := by decide +kernel
theorem dX12_feed_53 : decode cX12_feed 53 = .ok (.bipush 8, 2) := by decide +kernel
theorem dX12_feed_55 : decode cX12_feed 55 = .ok (.iload 4, 2) := by decide +kernel
theorem dX12_feed_57 : decode cX12_feed 57 = .ok (.imul, 1) := by decide +kernel
theorem dX12_feed_58 : decode cX12_feed 58 = .ok (.lshr, 1) := by decide +kernel
theorem dX12_feed_59 : decode cX12_feed 59 = .ok (.ldc2_w 60, 3) := by decide +kernel
theorem dX12_feed_62 : decode cX12_feed 62 = .ok (.land, 1) := by decide +kernel
theorem dX12_feed_63 : decode cX12_feed 63 = .ok (.l2i, 1) := by decide +kernel
theorem dX12_feed_64 : decode cX12_feed 64 = .ok (.iastore, 1) := by decide +kernel
theorem dX12_feed_65 : decode cX12_feed 65 = .ok (.aload_n 0, 1) := by decide +kernel
theorem dX12_feed_66 : decode cX12_feed 66 = .ok (.getfield 9, 3) := by decide +kernel
theorem dX12_feed_69 : decode cX12_feed 69 = .ok (.iconst 4, 1) := by decide +kernel
theorem dX12_feed_70 : decode cX12_feed 70 = .ok (.dup2, 1) := by decide +kernel
theorem dX12_feed_71 : decode cX12_feed 71 = .ok (.iaload, 1) := by decide +kernel
theorem dX12_feed_72 : decode cX12_feed 72 = .ok (.iconst 1, 1) := by decide +kernel
theorem dX12_feed_73 : decode cX12_feed 73 = .ok (.iadd, 1) := by decide +kernel
theorem dX12_feed_74 : decode cX12_feed 74 = .ok (.iastore, 1) := by decide +kernel
theorem dX12_feed_75 : decode cX12_feed 75 = .ok (.iinc 4 (-1), 3) := by decide +kernel
theorem dX12_feed_78 : decode cX12_feed 78 = .ok (.goto (-44), 3) := by decide +kernel
theorem dX12_feed_81 : decode cX12_feed 81 = .ok (.aload_n 0, 1) := by decide +kernel
theorem dX12_feed_82 : decode cX12_feed 82 = .ok (.getfield 9, 3) := by decide +kernel
theorem dX12_feed_85 : decode cX12_feed 85 = .ok (.iconst 4, 1) := by decide +kernel
theorem dX12_feed_86 : decode cX12_feed 86 = .ok (.iaload, 1) := by decide +kernel
theorem dX12_feed_87 : decode cX12_feed 87 = .ok (.ireturn, 1) := by decide +kernel
def f_X12_feed_K81 (a0 : Nat) (S10 : HSt) : Option (Int32 × HSt) := (gR S10 a0 12 1).bind fun b11 => (aI S10 b11 0 4).bind fun v14 => some (v14, S10)
def f_X12_feed_B34 (a0 : Nat) (a1 : Int64) (kx81 : (HSt → Option (Int32 × HSt))) (kb34 : (Int32 → HSt → Option (Int32 × HSt))) (x15 : Int32) (S16 : HSt) : Option (Int32 × HSt) := if x15 < 0 then (kx81 S16) else ((gR S16 a0 12 1).bind fun b18 => (gR S16 a0 12 1).bind fun b20 => (aI S16 b20 0 4).bind fun v23 => (sI S16 b18 0 (10 + v23) (Int64.toInt32 ((a1 >>> (Int32.toInt64 (8 * x15) &&& 63)) &&& 255))).bind fun S25 => (gR S25 a0 12 1).bind fun b26 => (aI S25 b26 0 4).bind fun v29 => (sI S25 b26 0 4 (v29 + 1)).bind fun S31 => kb34 (x15 + (-1)) S31)
def f_X12_feed_L34 (a0 : Nat) (a1 : Int64) (kx81 : (HSt → Option (Int32 × HSt))) : Nat → Int32 → HSt → Option (Int32 × HSt)
  | 0, _, _ => none
  | n + 1, x15, S => f_X12_feed_B34 a0 a1 kx81 (f_X12_feed_L34 a0 a1 kx81 n) x15 S
def f_X12_feed (S : HSt) (a0 : Nat) (a1 : Int64) (a2 : Int32) : Option (Int32 × HSt) := bd2 (f_X12_in S a2 1 8) fun v3 S2 => if v3 = 0 then (some ((-2), S2)) else ((gR S2 a0 12 1).bind fun b5 => (aI S2 b5 0 4).bind fun v8 => if (v8 + a2) ≤ 120 then ((f_X12_feed_L34 a0 a1 (f_X12_feed_K81 a0) FU) (a2 - 1) S2) else (some ((-4), S2)))
abbrev rm_X12_feed : Room := { frames := 1, cells := 0, slots := 0, locals := 22 }
abbrev w_X12_feed : List Cond := Cond.code yX12_feed cX12_feed 5 (Option.some FieldType.int) :: lwG
theorem yd_X12_feed : yX12_feed.cls ≠ "java/lang/invoke/MethodHandle" ∧ yX12_feed.cls ≠ "java/lang/invoke/VarHandle" ∧ (parseMethodDescriptor yX12_feed.desc).map (fun d => d.parameters.length) = some 2 := by decide +kernel
theorem ye_X12_feed : yX12_feed.cls = RX12 ∧ yX12_feed.cls ≠ "java/lang/invoke/MethodHandle" ∧ yX12_feed.cls ≠ "java/lang/invoke/VarHandle" ∧ (parseMethodDescriptor yX12_feed.desc).map (fun d => d.parameters.length) = some 2 := by decide +kernel
set_option maxHeartbeats 4000000 in
set_option maxRecDepth 100000 in
theorem c_X12_feed (l : Launch) (D : va_G) (kA ρ : Nat → Nat) (HB : Heap) (S : HSt) (a0 : Nat) (a1 : Int64) (a2 : Int32) (res : Int32 × HSt) (h : f_X12_feed S a0 a1 a2 = some res) : Met l yX12_feed w_X12_feed rm_X12_feed (hPc D kA ρ HB S [.ref a0, .long a1, .int a2]) (hQi D kA HB S res) 0 0 (hFree HB) := by
  refine Met.ofW (cc := cX12_feed) (maxL := 5) (ret := (Option.some FieldType.int)) (by decide) rfl ?_
  intro p e s m args below meth c s₁ B hml hv
  obtain ⟨rfl, hE, h0⟩ := hv
  have hx := B.exec
  have hb := B.bytes
  have hr := B.returns
  have hts0 := atoms_spec (ws := w_X12_feed) B.pre
  have hts : ∀ w ∈ lwG, w.before _ s = true := fun w hw => hts0 w (List.mem_cons_of_mem _ hw)
  have hown : s.vm.findClass RX12 = some m.cls := findClass_of_methodNamed B.named
  have hlocks := B.notSynchronized
  have hI : hqX D kA HB S.2 S s.heap [] := ⟨h0, Nat.le_refl _, fun _ q => absurd q List.not_mem_nil⟩
  have hl := lv_entry ([.ref a0, .long a1, .int a2]) (n := 5) (Nat.le_of_ble_eq_true rfl)
  rw [lg_entry_eq]
  generalize (lg_sl ([.ref a0, .long a1, .int a2]) ++ List.replicate (5 - (lg_sl ([.ref a0, .long a1, .int a2])).length) Slot.unset).toArray = ls at hl ⊢
  have hl : lv_has ls 5 [(0, .ref a0), (1, .long a1), (3, .int a2)] := hl
  unfold f_X12_feed at h
  refine lv_iload_n hx hb dX12_feed_0 rfl (lv_at hl 2 rfl) ?_
  refine lv_iconst (v := 1) hx hb dX12_feed_1 (by decide) ?_
  refine lv_bipush (v := 8) hx hb dX12_feed_2 (by decide) ?_
  obtain ⟨v3, S2, g1, h⟩ := hq_bd2 h
  refine hq_calli hI (va_runS (As := [.int a2, .int 1, .int 8]) (rest := []) ⟨hx, hb, hml, hown, hts⟩ (c_X12_in l D kA ρ HB S a2 1 8 _ g1) (va_cwS 3 hts (gdIn (List.forall_mem_cons.mpr ⟨kw_1010, (List.forall_mem_cons.mpr ⟨kw_1011, (List.forall_mem_cons.mpr ⟨kw_6, (fun _ h => absurd h List.not_mem_nil)⟩)⟩)⟩) kw_1012) rfl rfl rfl yd_X12_in ⟨Nat.le_of_ble_eq_true rfl, Nat.le_of_ble_eq_true rfl⟩) (hq_preS hE hI _) rfl rfl hl.1 rfl (lv_room (Nat.le_of_ble_eq_true rfl)) dX12_feed_4 ⟨Nat.le_of_ble_eq_true rfl, Nat.le_of_ble_eq_true rfl⟩) (fun H locs hI => ?_)
  refine lv_if_ne (tgt := 13) hx hb dX12_feed_7 (by decide) (fun c4 => ?_) (fun c4 => ?_)
  · have h := hq_f h c4
    refine lv_aload_n hx hb dX12_feed_13 rfl (lv_at hl 0 rfl) ?_
    obtain ⟨b5, g6, h⟩ := hq_bind h
    obtain ⟨fs_g6, hs_g6, hv_g6⟩ := gR_at g6
    refine hq_get hx hb hts hown hE hI hs_g6 inG12 rfl 1 (by decide) kw_945 hv_g6 dX12_feed_14 ?_
    refine lv_iconst (v := 4) hx hb dX12_feed_17 (by decide) ?_
    obtain ⟨v8, g7, h⟩ := hq_bind h
    refine hq_iald hx hb hE hI g7 dX12_feed_18 ?_
    refine lv_iload_n hx hb dX12_feed_19 rfl (lv_at hl 2 rfl) ?_
    refine lv_iadd hx hb dX12_feed_20 ?_
    refine lv_bipush (v := 120) hx hb dX12_feed_21 (by decide) ?_
    refine lv_icmp_le (tgt := 29) hx hb dX12_feed_23 (by decide) (fun c9 => ?_) (fun c9 => ?_)
    · have h := hq_t h c9
      refine lv_iload_n hx hb dX12_feed_29 rfl (lv_at hl 2 rfl) ?_
      refine lv_iconst (v := 1) hx hb dX12_feed_30 (by decide) ?_
      refine lv_isub hx hb dX12_feed_31 ?_
      refine lv_istore (lv' := [(4, .int (a2 - 1)), (0, .ref a0), (1, .long a1), (3, .int a2)]) hx hb dX12_feed_32 hl (by decide) rfl (fun ls hl => ?_)
      have hK81 : ∀ (S10 : HSt) (H : Heap) (locs : List Loc) (ls : Array Slot), (f_X12_feed_K81 a0) S10 = some res → hqX D kA HB S.2 S10 H locs → lv_has ls 5 [(0, .ref a0)] → W p l e rm_X12_feed s m ([.ref a0, .long a1, .int a2] : List Value).toArray below meth c H locs 0 0 (MQ below (hQi D kA HB S res) ([.ref a0, .long a1, .int a2] : List Value).toArray s 0 0 (hFree HB)) (F0 m 81 ls []) := by
        intro S10 H locs ls h hI hl
        unfold f_X12_feed_K81 at h
        refine lv_aload_n hx hb dX12_feed_81 rfl (lv_at hl 0 rfl) ?_
        obtain ⟨b11, g12, h⟩ := hq_bind h
        obtain ⟨fs_g12, hs_g12, hv_g12⟩ := gR_at g12
        refine hq_get hx hb hts hown hE hI hs_g12 inG12 rfl 1 (by decide) kw_945 hv_g12 dX12_feed_82 ?_
        refine lv_iconst (v := 4) hx hb dX12_feed_85 (by decide) ?_
        obtain ⟨v14, g13, h⟩ := hq_bind h
        refine hq_iald hx hb hE hI g13 dX12_feed_86 ?_
        exact hq_iret hx hb hr hlocks h0 hI h dX12_feed_87
      have hL34 : ∀ (n34 : Nat) (x15 : Int32) (S16 : HSt) (H : Heap) (locs : List Loc) (ls : Array Slot), (f_X12_feed_L34 a0 a1 (f_X12_feed_K81 a0) n34) x15 S16 = some res → hqX D kA HB S.2 S16 H locs → lv_has ls 5 [(0, .ref a0), (1, .long a1), (4, .int x15)] → W p l e rm_X12_feed s m ([.ref a0, .long a1, .int a2] : List Value).toArray below meth c H locs 0 0 (MQ below (hQi D kA HB S res) ([.ref a0, .long a1, .int a2] : List Value).toArray s 0 0 (hFree HB)) (F0 m 34 ls []) := by
        intro n34
        induction n34 with
        | zero =>
          intro x15 S16 H locs ls h
          have h : (none : Option (Int32 × HSt)) = some res := h
          cases h
        | succ n34 ih34 =>
          intro x15 S16 H locs ls h hI hl
          have h : f_X12_feed_B34 a0 a1 (f_X12_feed_K81 a0) (f_X12_feed_L34 a0 a1 (f_X12_feed_K81 a0) n34) x15 S16 = some res := h
          unfold f_X12_feed_B34 at h
          refine lv_iload hx hb dX12_feed_34 (lv_at hl 2 rfl) ?_
          refine lv_if_lt (tgt := 81) hx hb dX12_feed_36 (by decide) (fun c17 => ?_) (fun c17 => ?_)
          · have h := hq_t h c17
            exact hK81 S16 _ _ _ h hI (lv_sub hl [0] rfl)
          · have h := hq_f h c17
            refine lv_aload_n hx hb dX12_feed_39 rfl (lv_at hl 0 rfl) ?_
            obtain ⟨b18, g19, h⟩ := hq_bind h
            obtain ⟨fs_g19, hs_g19, hv_g19⟩ := gR_at g19
            refine hq_get hx hb hts hown hE hI hs_g19 inG12 rfl 1 (by decide) kw_945 hv_g19 dX12_feed_40 ?_
            refine lv_bipush (v := 10) hx hb dX12_feed_43 (by decide) ?_
            refine lv_aload_n hx hb dX12_feed_45 rfl (lv_at hl 0 rfl) ?_
            obtain ⟨b20, g21, h⟩ := hq_bind h
            obtain ⟨fs_g21, hs_g21, hv_g21⟩ := gR_at g21
            refine hq_get hx hb hts hown hE hI hs_g21 inG12 rfl 1 (by decide) kw_945 hv_g21 dX12_feed_46 ?_
            refine lv_iconst (v := 4) hx hb dX12_feed_49 (by decide) ?_
            obtain ⟨v23, g22, h⟩ := hq_bind h
            refine hq_iald hx hb hE hI g22 dX12_feed_50 ?_
            refine lv_iadd hx hb dX12_feed_51 ?_
            refine lv_lload_n hx hb dX12_feed_52 rfl (lv_at hl 1 rfl) ?_
            refine lv_bipush (v := 8) hx hb dX12_feed_53 (by decide) ?_
            refine lv_iload hx hb dX12_feed_55 (lv_at hl 2 rfl) ?_
            refine lv_imul hx hb dX12_feed_57 ?_
            refine lv_lshr (v := a1 >>> (Int32.toInt64 (8 * x15) &&& 63)) hx hb dX12_feed_58 rfl ?_
            refine lv_ldc2 (v := 255) hx hb hown (hts _ kw_1047) dX12_feed_59 ?_
            refine lv_land hx hb dX12_feed_62 ?_
            refine lv_l2i (v := Int64.toInt32 ((a1 >>> (Int32.toInt64 (8 * x15) &&& 63)) &&& 255)) hx hb dX12_feed_63 rfl ?_
            obtain ⟨S25, g24, h⟩ := hq_bind h
            refine hq_iast hx hb hE hI g24 dX12_feed_64 (fun H locs hI => ?_)
            refine lv_aload_n hx hb dX12_feed_65 rfl (lv_at hl 0 rfl) ?_
            obtain ⟨b26, g27, h⟩ := hq_bind h
            obtain ⟨fs_g27, hs_g27, hv_g27⟩ := gR_at g27
            refine hq_get hx hb hts hown hE hI hs_g27 inG12 rfl 1 (by decide) kw_945 hv_g27 dX12_feed_66 ?_
            refine lv_iconst (v := 4) hx hb dX12_feed_69 (by decide) ?_
            refine lv_dup2_11 hx hb dX12_feed_70 rfl rfl ?_
            obtain ⟨v29, g28, h⟩ := hq_bind h
            refine hq_iald hx hb hE hI g28 dX12_feed_71 ?_
            refine lv_iconst (v := 1) hx hb dX12_feed_72 (by decide) ?_
            refine lv_iadd hx hb dX12_feed_73 ?_
            obtain ⟨S31, g30, h⟩ := hq_bind h
            refine hq_iast hx hb hE hI g30 dX12_feed_74 (fun H locs hI => ?_)
            refine lv_iinc (v := (x15 + (-1))) (lv' := [(4, .int (x15 + (-1))), (0, .ref a0), (1, .long a1)]) hx hb dX12_feed_75 hl (k := 2) rfl rfl (by decide) rfl (fun ls hl => ?_)
            refine lv_goto (tgt := 34) hx hb dX12_feed_78 (by decide) ?_
            exact ih34 (x15 + (-1)) S31 _ _ _ h hI (lv_sub hl [1, 2, 0] rfl)
      exact hL34 FU (a2 - 1) S2 _ _ _ h hI (lv_sub hl [1, 2, 0] rfl)
    · have h := hq_f h c9
      refine lv_bipush (v := (-4)) hx hb dX12_feed_26 (by decide) ?_
      exact hq_iret hx hb hr hlocks h0 hI h dX12_feed_28
  · have h := hq_t h c4
    refine lv_bipush (v := (-2)) hx hb dX12_feed_10 (by decide) ?_
    exact hq_iret hx hb hr hlocks h0 hI h dX12_feed_12
-- RodDipsModel.here()I
theorem dX12_here_0 : decode cX12_here 0 = .ok (.aload_n 0, 1) := by decide +kernel
theorem dX12_here_1 : decode cX12_here 1 = .ok (.getfield 62, 3) := by decide +kernel
theorem dX12_here_4 : decode cX12_here 4 = .ok (.aload_n 0, 1) := by decide +kernel
theorem dX12_here_5 : decode cX12_here 5 = .ok (.getfield 65, 3) := by decide +kernel
theorem dX12_here_8 : decode cX12_here 8 = .ok (.if_icmp .ge 18, 3) := by decide +kernel
theorem dX12_here_11 : decode cX12_here 11 = .ok (.aload_n 0, 1) := by decide +kernel
theorem dX12_here_12 : decode cX12_here 12 = .ok (.getfield 9, 3) := by decide +kernel
theorem dX12_here_15 : decode cX12_here 15 = .ok (.bipush 10, 2) := by decide +kernel
theorem dX12_here_17 : decode cX12_here 17 = .ok (.aload_n 0, 1) := by decide +kernel
theorem dX12_here_18 : decode cX12_here 18 = .ok (.getfield 62, 3) := by decide +kernel
theorem dX12_here_21 : decode cX12_here 21 = .ok (.iadd, 1) := by decide +kernel
theorem dX12_here_22 : decode cX12_here 22 = .ok (.iaload, 1) := by decide +kernel
theorem dX12_here_23 : decode cX12_here 23 = .ok (.goto 4, 3) := by decide +kernel
theorem dX12_here_26 : decode cX12_here 26 = .ok (.iconst (-1), 1) := by decide +kernel
theorem dX12_here_27 : decode cX12_here 27 = .ok (.ireturn, 1) := by decide +kernel
def f_X12_here (S : HSt) (a0 : Nat) : Option (Int32 × HSt) := (gI S a0 12 5).bind fun v1 => (gI S a0 12 6).bind fun v3 => if v3 ≤ v1 then (some ((-1), S)) else ((gR S a0 12 1).bind fun b6 => (gI S a0 12 5).bind fun v8 => (aI S b6 0 (10 + v8)).bind fun v11 => some (v11, S))
abbrev rm_X12_here : Room := { frames := 0, cells := 0, slots := 0, locals := 0 }
abbrev w_X12_here : List Cond := Cond.code yX12_here cX12_here 1 (Option.some FieldType.int) :: lwG
theorem yd_X12_here : yX12_here.cls ≠ "java/lang/invoke/MethodHandle" ∧ yX12_here.cls ≠ "java/lang/invoke/VarHandle" ∧ (parseMethodDescriptor yX12_here.desc).map (fun d => d.parameters.length) = some 0 := by decide +kernel
theorem ye_X12_here : yX12_here.cls = RX12 ∧ yX12_here.cls ≠ "java/lang/invoke/MethodHandle" ∧ yX12_here.cls ≠ "java/lang/invoke/VarHandle" ∧ (parseMethodDescriptor yX12_here.desc).map (fun d => d.parameters.length) = some 0 := by decide +kernel
set_option maxHeartbeats 4000000 in
set_option maxRecDepth 100000 in
theorem c_X12_here (l : Launch) (D : va_G) (kA ρ : Nat → Nat) (HB : Heap) (S : HSt) (a0 : Nat) (res : Int32 × HSt) (h : f_X12_here S a0 = some res) : Met l yX12_here w_X12_here rm_X12_here (hPc D kA ρ HB S [.ref a0]) (hQi D kA HB S res) 0 0 (hFree HB) := by
  refine Met.ofW (cc := cX12_here) (maxL := 1) (ret := (Option.some FieldType.int)) (by decide) rfl ?_
  intro p e s m args below meth c s₁ B hml hv
  obtain ⟨rfl, hE, h0⟩ := hv
  have hx := B.exec
  have hb := B.bytes
  have hr := B.returns
  have hts0 := atoms_spec (ws := w_X12_here) B.pre
  have hts : ∀ w ∈ lwG, w.before _ s = true := fun w hw => hts0 w (List.mem_cons_of_mem _ hw)
  have hown : s.vm.findClass RX12 = some m.cls := findClass_of_methodNamed B.named
  have hlocks := B.notSynchronized
  have hI : hqX D kA HB S.2 S s.heap [] := ⟨h0, Nat.le_refl _, fun _ q => absurd q List.not_mem_nil⟩
  have hl := lv_entry ([.ref a0]) (n := 1) (Nat.le_of_ble_eq_true rfl)
  rw [lg_entry_eq]
  generalize (lg_sl ([.ref a0]) ++ List.replicate (1 - (lg_sl ([.ref a0])).length) Slot.unset).toArray = ls at hl ⊢
  have hl : lv_has ls 1 [(0, .ref a0)] := hl
  unfold f_X12_here at h
  refine lv_aload_n hx hb dX12_here_0 rfl (lv_at hl 0 rfl) ?_
  obtain ⟨v1, g2, h⟩ := hq_bind h
  obtain ⟨fs_g2, hs_g2, hv_g2⟩ := gI_at g2
  refine hq_get hx hb hts hown hE hI hs_g2 inG12 rfl 5 (by decide) kw_949 hv_g2 dX12_here_1 ?_
  refine lv_aload_n hx hb dX12_here_4 rfl (lv_at hl 0 rfl) ?_
  obtain ⟨v3, g4, h⟩ := hq_bind h
  obtain ⟨fs_g4, hs_g4, hv_g4⟩ := gI_at g4
  refine hq_get hx hb hts hown hE hI hs_g4 inG12 rfl 6 (by decide) kw_950 hv_g4 dX12_here_5 ?_
  refine lv_icmp_ge (tgt := 26) hx hb dX12_here_8 (by decide) (fun c5 => ?_) (fun c5 => ?_)
  · have h := hq_t h c5
    refine lv_iconst (v := (-1)) hx hb dX12_here_26 (by decide) ?_
    exact hq_iret hx hb hr hlocks h0 hI h dX12_here_27
  · have h := hq_f h c5
    refine lv_aload_n hx hb dX12_here_11 rfl (lv_at hl 0 rfl) ?_
    obtain ⟨b6, g7, h⟩ := hq_bind h
    obtain ⟨fs_g7, hs_g7, hv_g7⟩ := gR_at g7
    refine hq_get hx hb hts hown hE hI hs_g7 inG12 rfl 1 (by decide) kw_945 hv_g7 dX12_here_12 ?_
    refine lv_bipush (v := 10) hx hb dX12_here_15 (by decide) ?_
    refine lv_aload_n hx hb dX12_here_17 rfl (lv_at hl 0 rfl) ?_
    obtain ⟨v8, g9, h⟩ := hq_bind h
    obtain ⟨fs_g9, hs_g9, hv_g9⟩ := gI_at g9
    refine hq_get hx hb hts hown hE hI hs_g9 inG12 rfl 5 (by decide) kw_949 hv_g9 dX12_here_18 ?_
    refine lv_iadd hx hb dX12_here_21 ?_
    obtain ⟨v11, g10, h⟩ := hq_bind h
    refine hq_iald hx hb hE hI g10 dX12_here_22 ?_
    refine lv_goto (tgt := 27) hx hb dX12_here_23 (by decide) ?_
    exact hq_iret hx hb hr hlocks h0 hI h dX12_here_27
-- RodDipsModel.must(I)V
theorem dX12_must_0 : decode cX12_must 0 = .ok (.aload_n 0, 1) := by decide +kernel
theorem dX12_must_1 : decode cX12_must 1 = .ok (.aload_n 0, 1) := by decide +kernel
theorem dX12_must_2 : decode cX12_must 2 = .ok (.getfield 68, 3) := by decide +kernel
theorem dX12_must_5 : decode cX12_must 5 = .ok (.ifCond .ne 11, 3) := by decide +kernel
theorem dX12_must_8 : decode cX12_must 8 = .ok (.aload_n 0, 1) := by decide +kernel
theorem dX12_must_9 : decode cX12_must 9 = .ok (.invokevirtual 72, 3) := by decide +kernel
theorem dX12_must_12 : decode cX12_must 12 = .ok (.iload_n 1, 1) := by decide +kernel
theorem dX12_must_13 : decode cX12_must 13 = .ok (.if_icmp .eq 7, 3) := by decide +kernel
theorem dX12_must_16 : decode cX12_must 16 = .ok (.iconst 1, 1) := by decide +kernel
theorem dX12_must_17 : decode cX12_must 17 = .ok (.goto 4, 3) := by decide +kernel
theorem dX12_must_20 : decode cX12_must 20 = .ok (.iconst 0, 1) := by decide +kernel
theorem dX12_must_21 : decode cX12_must 21 = .ok (.putfield 68, 3) := by decide +kernel
theorem dX12_must_24 : decode cX12_must 24 = .ok (.aload_n 0, 1) := by decide +kernel
theorem dX12_must_25 : decode cX12_must 25 = .ok (.dup, 1) := by decide +kernel
theorem dX12_must_26 : decode cX12_must 26 = .ok (.getfield 62, 3) := by decide +kernel
theorem dX12_must_29 : decode cX12_must 29 = .ok (.aload_n 0, 1) := by decide +kernel
theorem dX12_must_30 : decode cX12_must 30 = .ok (.getfield 68, 3) := by decide +kernel
theorem dX12_must_33 : decode cX12_must 33 = .ok (.ifCond .eq 7, 3) := by decide +kernel
theorem dX12_must_36 : decode cX12_must 36 = .ok (.iconst 0, 1) := by decide +kernel
theorem dX12_must_37 : decode cX12_must 37 = .ok (.goto 4, 3) := by decide +kernel
theorem dX12_must_40 : decode cX12_must 40 = .ok (.iconst 1, 1) := by decide +kernel
theorem dX12_must_41 : decode cX12_must 41 = .ok (.iadd, 1) := by decide +kernel
theorem dX12_must_42 : decode cX12_must 42 = .ok (.putfield 62, 3) := by decide +kernel
theorem dX12_must_45 : decode cX12_must 45 = .ok (.return_, 1) := by decide +kernel
def f_X12_must_J21 (a0 : Nat) (y3 : Int32) (S4 : HSt) : Option (HSt) := if y3 = 0 ∨ y3 = 1 then ((pV S4 a0 12 7 (.int y3)).bind fun S5 => (gI S5 a0 12 5).bind fun v8 => (gI S5 a0 12 7).bind fun v10 => if v10 = 0 then ((pV S5 a0 12 5 (.int (v8 + 1))).bind fun S13 => some S13) else ((pV S5 a0 12 5 (.int (v8 + 0))).bind fun S15 => some S15)) else none
def f_X12_must (S : HSt) (a0 : Nat) (a1 : Int32) : Option (HSt) := (gI S a0 12 7).bind fun v1 => if v1 = 0 then (if gC S a0 = some 12 then (bd2 (f_X12_here S a0) fun v21 S20 => if v21 = a1 then ((f_X12_must_J21 a0) 0 S20) else ((f_X12_must_J21 a0) 1 S20)) else none) else ((f_X12_must_J21 a0) 1 S)
abbrev rm_X12_must : Room := { frames := 1, cells := 0, slots := 0, locals := 20 }
abbrev w_X12_must : List Cond := Cond.code yX12_must cX12_must 2 none :: lwG
theorem yd_X12_must : yX12_must.cls ≠ "java/lang/invoke/MethodHandle" ∧ yX12_must.cls ≠ "java/lang/invoke/VarHandle" ∧ (parseMethodDescriptor yX12_must.desc).map (fun d => d.parameters.length) = some 1 := by decide +kernel
theorem ye_X12_must : yX12_must.cls = RX12 ∧ yX12_must.cls ≠ "java/lang/invoke/MethodHandle" ∧ yX12_must.cls ≠ "java/lang/invoke/VarHandle" ∧ (parseMethodDescriptor yX12_must.desc).map (fun d => d.parameters.length) = some 1 := by decide +kernel
set_option maxHeartbeats 4000000 in
set_option maxRecDepth 100000 in
theorem c_X12_must (l : Launch) (D : va_G) (kA ρ : Nat → Nat) (HB : Heap) (S : HSt) (a0 : Nat) (a1 : Int32) (res : HSt) (h : f_X12_must S a0 a1 = some res) : Met l yX12_must w_X12_must rm_X12_must (hPc D kA ρ HB S [.ref a0, .int a1]) (hQv D kA HB S res) 0 0 (hFree HB) := by
  refine Met.ofW (cc := cX12_must) (maxL := 2) (ret := none) (by decide) rfl ?_
  intro p e s m args below meth c s₁ B hml hv
  obtain ⟨rfl, hE, h0⟩ := hv
  have hx := B.exec
  have hb := B.bytes
  have hr := B.returns
  have hts0 := atoms_spec (ws := w_X12_must) B.pre
  have hts : ∀ w ∈ lwG, w.before _ s = true := fun w hw => hts0 w (List.mem_cons_of_mem _ hw)
  have hown : s.vm.findClass RX12 = some m.cls := findClass_of_methodNamed B.named
  have hlocks := B.notSynchronized
  have hI : hqX D kA HB S.2 S s.heap [] := ⟨h0, Nat.le_refl _, fun _ q => absurd q List.not_mem_nil⟩
  have hl := lv_entry ([.ref a0, .int a1]) (n := 2) (Nat.le_of_ble_eq_true rfl)
  rw [lg_entry_eq]
  generalize (lg_sl ([.ref a0, .int a1]) ++ List.replicate (2 - (lg_sl ([.ref a0, .int a1])).length) Slot.unset).toArray = ls at hl ⊢
  have hl : lv_has ls 2 [(0, .ref a0), (1, .int a1)] := hl
  unfold f_X12_must at h
  refine lv_aload_n hx hb dX12_must_0 rfl (lv_at hl 0 rfl) ?_
  refine lv_aload_n hx hb dX12_must_1 rfl (lv_at hl 0 rfl) ?_
  obtain ⟨v1, g2, h⟩ := hq_bind h
  obtain ⟨fs_g2, hs_g2, hv_g2⟩ := gI_at g2
  refine hq_get hx hb hts hown hE hI hs_g2 inG12 rfl 7 (by decide) kw_951 hv_g2 dX12_must_2 ?_
  have hJ21 : ∀ (y3 : Int32) (S4 : HSt) (H : Heap) (locs : List Loc) (ls : Array Slot), (f_X12_must_J21 a0) y3 S4 = some res → hqX D kA HB S.2 S4 H locs → lv_has ls 2 [(0, .ref a0)] → W p l e rm_X12_must s m ([.ref a0, .int a1] : List Value).toArray below meth c H locs 0 0 (MQ below (hQv D kA HB S res) ([.ref a0, .int a1] : List Value).toArray s 0 0 (hFree HB)) (F0 m 21 ls [.int y3, .ref a0]) := by
    intro y3 S4 H locs ls h hI hl
    unfold f_X12_must_J21 at h
    obtain ⟨c7, h⟩ := hq_g h
    obtain ⟨S5, g6, h⟩ := hq_bind h
    obtain ⟨fs_g6, hs_g6, hl_g6, e_g6⟩ := pV_at g6
    refine hq_put hx hb hts hown hE hI hs_g6 inG12 tyX12 tyX12_ok nmX12 rfl 7 (by decide) kw_951 rfl (v := .int y3) rfl (hq_nz c7) (hq_fz c7) hl_g6 e_g6 dX12_must_21 (fun H locs hI => ?_)
    refine lv_aload_n hx hb dX12_must_24 rfl (lv_at hl 0 rfl) ?_
    refine lv_dup hx hb dX12_must_25 rfl ?_
    obtain ⟨v8, g9, h⟩ := hq_bind h
    obtain ⟨fs_g9, hs_g9, hv_g9⟩ := gI_at g9
    refine hq_get hx hb hts hown hE hI hs_g9 inG12 rfl 5 (by decide) kw_949 hv_g9 dX12_must_26 ?_
    refine lv_aload_n hx hb dX12_must_29 rfl (lv_at hl 0 rfl) ?_
    obtain ⟨v10, g11, h⟩ := hq_bind h
    obtain ⟨fs_g11, hs_g11, hv_g11⟩ := gI_at g11
    refine hq_get hx hb hts hown hE hI hs_g11 inG12 rfl 7 (by decide) kw_951 hv_g11 dX12_must_30 ?_
    refine lv_if_eq (tgt := 40) hx hb dX12_must_33 (by decide) (fun c12 => ?_) (fun c12 => ?_)
    · have h := hq_t h c12
      refine lv_iconst (v := 1) hx hb dX12_must_40 (by decide) ?_
      refine lv_iadd hx hb dX12_must_41 ?_
      obtain ⟨S13, g14, h⟩ := hq_bind h
      obtain ⟨fs_g14, hs_g14, hl_g14, e_g14⟩ := pV_at g14
      refine hq_put hx hb hts hown hE hI hs_g14 inG12 tyX12 tyX12_ok nmX12 rfl 5 (by decide) kw_949 rfl (v := .int (v8 + 1)) rfl rfl rfl hl_g14 e_g14 dX12_must_42 (fun H locs hI => ?_)
      exact hq_vret hx hb hr hlocks h0 hI h dX12_must_45
    · have h := hq_f h c12
      refine lv_iconst (v := 0) hx hb dX12_must_36 (by decide) ?_
      refine lv_goto (tgt := 41) hx hb dX12_must_37 (by decide) ?_
      refine lv_iadd hx hb dX12_must_41 ?_
      obtain ⟨S15, g16, h⟩ := hq_bind h
      obtain ⟨fs_g16, hs_g16, hl_g16, e_g16⟩ := pV_at g16
      refine hq_put hx hb hts hown hE hI hs_g16 inG12 tyX12 tyX12_ok nmX12 rfl 5 (by decide) kw_949 rfl (v := .int (v8 + 0)) rfl rfl rfl hl_g16 e_g16 dX12_must_42 (fun H locs hI => ?_)
      exact hq_vret hx hb hr hlocks h0 hI h dX12_must_45
  refine lv_if_ne (tgt := 16) hx hb dX12_must_5 (by decide) (fun c17 => ?_) (fun c17 => ?_)
  · have h := hq_f h c17
    refine lv_iconst (v := 1) hx hb dX12_must_16 (by decide) ?_
    refine lv_goto (tgt := 21) hx hb dX12_must_17 (by decide) ?_
    exact hJ21 1 S _ _ _ h hI (lv_sub hl [0] rfl)
  · have h := hq_t h c17
    refine lv_aload_n hx hb dX12_must_8 rfl (lv_at hl 0 rfl) ?_
    obtain ⟨g19, h⟩ := hq_g h
    obtain ⟨v21, S20, g18, h⟩ := hq_bd2 h
    refine hq_calli hI (va_runV (As := []) (rest := [.ref a0]) ⟨hx, hb, hml, hown, hts⟩ (c_X12_here l D kA ρ HB S a0 _ g18) (cwV 0 hts (gdIn (List.forall_mem_cons.mpr ⟨kw_1060, (List.forall_mem_cons.mpr ⟨kw_1062, (List.forall_mem_cons.mpr ⟨ks_35, (List.forall_mem_cons.mpr ⟨kw_6, (fun _ h => absurd h List.not_mem_nil)⟩)⟩)⟩)⟩) kw_1063) rfl rfl rfl ye_X12_here ⟨Nat.le_of_ble_eq_true rfl, Nat.le_of_ble_eq_true rfl⟩) (hq_preC hE hI g19 rfl _) rfl rfl hl.1 rfl (lv_room (Nat.le_of_ble_eq_true rfl)) dX12_must_9 ⟨Nat.le_of_ble_eq_true rfl, Nat.le_of_ble_eq_true rfl⟩) (fun H locs hI => ?_)
    refine lv_iload_n hx hb dX12_must_12 rfl (lv_at hl 1 rfl) ?_
    refine lv_icmp_eq (tgt := 20) hx hb dX12_must_13 (by decide) (fun c22 => ?_) (fun c22 => ?_)
    · have h := hq_t h c22
      refine lv_iconst (v := 0) hx hb dX12_must_20 (by decide) ?_
      exact hJ21 0 S20 _ _ _ h hI (lv_sub hl [0] rfl)
    · have h := hq_f h c22
      refine lv_iconst (v := 1) hx hb dX12_must_16 (by decide) ?_
      refine lv_goto (tgt := 21) hx hb dX12_must_17 (by decide) ?_
      exact hJ21 1 S20 _ _ _ h hI (lv_sub hl [0] rfl)
-- RodDipsModel.figures()I
theorem dX12_figures_0 : decode cX12_figures 0 = .ok (.aload_n 0, 1) := by decide +kernel
theorem dX12_figures_1 : decode cX12_figures 1 = .ok (.aload_n 0, 1) := by decide +kernel
theorem dX12_figures_2 : decode cX12_figures 2 = .ok (.getfield 68, 3) := by decide +kernel
theorem dX12_figures_5 : decode cX12_figures 5 = .ok (.ifCond .ne 17, 3) := by decide +kernel
theorem dX12_figures_8 : decode cX12_figures 8 = .ok (.aload_n 0, 1) := by decide +kernel
theorem dX12_figures_9 : decode cX12_figures 9 = .ok (.invokevirtual 72, 3) := by decide +kernel
theorem dX12_figures_12 : decode cX12_figures 12 = .ok (.bipush 48, 2) := by decide +kernel
theorem dX12_figures_14 : decode cX12_figures 14 = .ok (.bipush 57, 2) := by decide +kernel
theorem dX12_figures_16 : decode cX12_figures 16 = .ok (.invokestatic 39, 3) := by decide +kernel
theorem dX12_figures_19 : decode cX12_figures 19 = .ok (.ifCond .ne 7, 3) := by decide +kernel
theorem dX12_figures_22 : decode cX12_figures 22 = .ok (.iconst 1, 1) := by decide +kernel
theorem dX12_figures_23 : decode cX12_figures 23 = .ok (.goto 4, 3) := by decide +kernel
theorem dX12_figures_26 : decode cX12_figures 26 = .ok (.iconst 0, 1) := by decide +kernel
theorem dX12_figures_27 : decode cX12_figures 27 = .ok (.putfield 68, 3) := by decide +kernel
theorem dX12_figures_30 : decode cX12_figures 30 = .ok (.iconst 0, 1) := by decide +kernel
theorem dX12_figures_31 : decode cX12_figures 31 = .ok (.istore_n 1, 1) := by decide +kernel
theorem dX12_figures_32 : decode cX12_figures 32 = .ok (.iconst 0, 1) := by decide +kernel
theorem dX12_figures_33 : decode cX12_figures 33 = .ok (.istore_n 2, 1) := by decide +kernel
theorem dX12_figures_34 : decode cX12_figures 34 = .ok (.iload_n 2, 1) := by decide +kernel
theorem dX12_figures_35 : decode cX12_figures 35 = .ok (.iconst 2, 1) := by decide +kernel
theorem dX12_figures_36 : decode cX12_figures 36 = .ok (.if_icmp .ge 61, 3) := by decide +kernel
theorem dX12_figures_39 : decode cX12_figures 39 = .ok (.aload_n 0, 1) := by decide +kernel
theorem dX12_figures_40 : decode cX12_figures 40 = .ok (.getfield 68, 3) := by decide +kernel
theorem dX12_figures_43 : decode cX12_figures 43 = .ok (.ifCond .ne 54, 3) := by decide +kernel
theorem dX12_figures_46 : decode cX12_figures 46 = .ok (.aload_n 0, 1) := by decide +kernel
theorem dX12_figures_47 : decode cX12_figures 47 = .ok (.invokevirtual 72, 3) := by decide +kernel
theorem dX12_figures_50 : decode cX12_figures 50 = .ok (.bipush 48, 2) := by decide +kernel
theorem dX12_figures_52 : decode cX12_figures 52 = .ok (.bipush 57, 2) := by decide +kernel
theorem dX12_figures_54 : decode cX12_figures 54 = .ok (.invokestatic 39, 3) := by decide +kernel
theorem dX12_figures_57 : decode cX12_figures 57 = .ok (.ifCond .eq 40, 3) := by decide +kernel
theorem dX12_figures_60 : decode cX12_figures 60 = .ok (.iload_n 2, 1) := by decide +kernel
theorem dX12_figures_61 : decode cX12_figures 61 = .ok (.ifCond .eq 7, 3) := by decide +kernel
theorem dX12_figures_64 : decode cX12_figures 64 = .ok (.iload_n 1, 1) := by decide +kernel
theorem dX12_figures_65 : decode cX12_figures 65 = .ok (.ifCond .le 32, 3) := by decide +kernel
theorem dX12_figures_68 : decode cX12_figures 68 = .ok (.bipush 10, 2) := by decide +kernel
theorem dX12_figures_70 : decode cX12_figures 70 = .ok (.iload_n 1, 1) := by decide +kernel
theorem dX12_figures_71 : decode cX12_figures 71 = .ok (.imul, 1) := by decide +kernel
theorem dX12_figures_72 : decode cX12_figures 72 = .ok (.aload_n 0, 1) := by decide +kernel
theorem dX12_figures_73 : decode cX12_figures 73 = .ok (.invokevirtual 72, 3) := by decide +kernel
theorem dX12_figures_76 : decode cX12_figures 76 = .ok (.iadd, 1) := by decide +kernel
theorem dX12_figures_77 : decode cX12_figures 77 = .ok (.bipush 48, 2) := by decide +kernel
theorem dX12_figures_79 : decode cX12_figures 79 = .ok (.isub, 1) := by decide +kernel
theorem dX12_figures_80 : decode cX12_figures 80 = .ok (.istore_n 1, 1) := by decide +kernel
theorem dX12_figures_81 : decode cX12_figures 81 = .ok (.aload_n 0, 1) := by decide +kernel
theorem dX12_figures_82 : decode cX12_figures 82 = .ok (.dup, 1) := by decide +kernel
theorem dX12_figures_83 : decode cX12_figures 83 = .ok (.getfield 62, 3) := by decide +kernel
theorem dX12_figures_86 : decode cX12_figures 86 = .ok (.iconst 1, 1) := by decide +kernel
theorem dX12_figures_87 : decode cX12_figures 87 = .ok (.iadd, 1) := by decide +kernel
theorem dX12_figures_88 : decode cX12_figures 88 = .ok (.putfield 62, 3) := by decide +kernel
theorem dX12_figures_91 : decode cX12_figures 91 = .ok (.iinc 2 1, 3) := by decide +kernel
theorem dX12_figures_94 : decode cX12_figures 94 = .ok (.goto (-60), 3) := by decide +kernel
theorem dX12_figures_97 : decode cX12_figures 97 = .ok (.iload_n 1, 1) := by decide +kernel
theorem dX12_figures_98 : decode cX12_figures 98 = .ok (.ireturn, 1) := by decide +kernel
def f_X12_figures_K97 (x8 : Int32) (S9 : HSt) : Option (Int32 × HSt) := some (x8, S9)
def f_X12_figures_J68 (a0 : Nat) (kb34 : (Int32 → Int32 → HSt → Option (Int32 × HSt))) (x10 : Int32) (x11 : Int32) (S25 : HSt) : Option (Int32 × HSt) := if gC S25 a0 = some 12 then (bd2 (f_X12_here S25 a0) fun v29 S28 => (gI S28 a0 12 5).bind fun v30 => (pV S28 a0 12 5 (.int (v30 + 1))).bind fun S32 => kb34 (((10 * x10) + v29) - 48) (x11 + 1) S32) else none
def f_X12_figures_B34 (a0 : Nat) (kx97 : (Int32 → HSt → Option (Int32 × HSt))) (kb34 : (Int32 → Int32 → HSt → Option (Int32 × HSt))) (x10 : Int32) (x11 : Int32) (S12 : HSt) : Option (Int32 × HSt) := if 2 ≤ x11 then (kx97 x10 S12) else ((gI S12 a0 12 7).bind fun v14 => if v14 = 0 then (if gC S12 a0 = some 12 then (bd2 (f_X12_here S12 a0) fun v20 S19 => bd2 (f_X12_in S19 v20 48 57) fun v23 S22 => if v23 = 0 then (kx97 x10 S22) else (if x11 = 0 then ((f_X12_figures_J68 a0 kb34 x10 x11) S22) else (if x10 ≤ 0 then (kx97 x10 S22) else ((f_X12_figures_J68 a0 kb34 x10 x11) S22)))) else none) else (kx97 x10 S12))
def f_X12_figures_L34 (a0 : Nat) (kx97 : (Int32 → HSt → Option (Int32 × HSt))) : Nat → Int32 → Int32 → HSt → Option (Int32 × HSt)
  | 0, _, _, _ => none
  | n + 1, x10, x11, S => f_X12_figures_B34 a0 kx97 (f_X12_figures_L34 a0 kx97 n) x10 x11 S
def f_X12_figures_J27 (a0 : Nat) (y3 : Int32) (S4 : HSt) : Option (Int32 × HSt) := if y3 = 0 ∨ y3 = 1 then ((pV S4 a0 12 7 (.int y3)).bind fun S5 => (f_X12_figures_L34 a0 f_X12_figures_K97 FU) 0 0 S5) else none
def f_X12_figures (S : HSt) (a0 : Nat) : Option (Int32 × HSt) := (gI S a0 12 7).bind fun v1 => if v1 = 0 then (if gC S a0 = some 12 then (bd2 (f_X12_here S a0) fun v40 S39 => bd2 (f_X12_in S39 v40 48 57) fun v43 S42 => if v43 = 0 then ((f_X12_figures_J27 a0) 1 S42) else ((f_X12_figures_J27 a0) 0 S42)) else none) else ((f_X12_figures_J27 a0) 1 S)
abbrev rm_X12_figures : Room := { frames := 1, cells := 0, slots := 0, locals := 22 }
abbrev w_X12_figures : List Cond := Cond.code yX12_figures cX12_figures 3 (Option.some FieldType.int) :: lwG
theorem yd_X12_figures : yX12_figures.cls ≠ "java/lang/invoke/MethodHandle" ∧ yX12_figures.cls ≠ "java/lang/invoke/VarHandle" ∧ (parseMethodDescriptor yX12_figures.desc).map (fun d => d.parameters.length) = some 0 := by decide +kernel
theorem ye_X12_figures : yX12_figures.cls = RX12 ∧ yX12_figures.cls ≠ "java/lang/invoke/MethodHandle" ∧ yX12_figures.cls ≠ "java/lang/invoke/VarHandle" ∧ (parseMethodDescriptor yX12_figures.desc).map (fun d => d.parameters.length) = some 0 := by decide +kernel
set_option maxHeartbeats 4000000 in
set_option maxRecDepth 100000 in
theorem c_X12_figures (l : Launch) (D : va_G) (kA ρ : Nat → Nat) (HB : Heap) (S : HSt) (a0 : Nat) (res : Int32 × HSt) (h : f_X12_figures S a0 = some res) : Met l yX12_figures w_X12_figures rm_X12_figures (hPc D kA ρ HB S [.ref a0]) (hQi D kA HB S res) 0 0 (hFree HB) := by
  refine Met.ofW (cc := cX12_figures) (maxL := 3) (ret := (Option.some FieldType.int)) (by decide) rfl ?_
  intro p e s m args below meth c s₁ B hml hv
  obtain ⟨rfl, hE, h0⟩ := hv
  have hx := B.exec
  have hb := B.bytes
  have hr := B.returns
  have hts0 := atoms_spec (ws := w_X12_figures) B.pre
  have hts : ∀ w ∈ lwG, w.before _ s = true := fun w hw => hts0 w (List.mem_cons_of_mem _ hw)
  have hown : s.vm.findClass RX12 = some m.cls := findClass_of_methodNamed B.named
  have hlocks := B.notSynchronized
  have hI : hqX D kA HB S.2 S s.heap [] := ⟨h0, Nat.le_refl _, fun _ q => absurd q List.not_mem_nil⟩
  have hl := lv_entry ([.ref a0]) (n := 3) (Nat.le_of_ble_eq_true rfl)
  rw [lg_entry_eq]
  generalize (lg_sl ([.ref a0]) ++ List.replicate (3 - (lg_sl ([.ref a0])).length) Slot.unset).toArray = ls at hl ⊢
  have hl : lv_has ls 3 [(0, .ref a0)] := hl
  unfold f_X12_figures at h
  refine lv_aload_n hx hb dX12_figures_0 rfl (lv_at hl 0 rfl) ?_
  refine lv_aload_n hx hb dX12_figures_1 rfl (lv_at hl 0 rfl) ?_
  obtain ⟨v1, g2, h⟩ := hq_bind h
  obtain ⟨fs_g2, hs_g2, hv_g2⟩ := gI_at g2
  refine hq_get hx hb hts hown hE hI hs_g2 inG12 rfl 7 (by decide) kw_951 hv_g2 dX12_figures_2 ?_
  have hJ27 : ∀ (y3 : Int32) (S4 : HSt) (H : Heap) (locs : List Loc) (ls : Array Slot), (f_X12_figures_J27 a0) y3 S4 = some res → hqX D kA HB S.2 S4 H locs → lv_has ls 3 [(0, .ref a0)] → W p l e rm_X12_figures s m ([.ref a0] : List Value).toArray below meth c H locs 0 0 (MQ below (hQi D kA HB S res) ([.ref a0] : List Value).toArray s 0 0 (hFree HB)) (F0 m 27 ls [.int y3, .ref a0]) := by
    intro y3 S4 H locs ls h hI hl
    unfold f_X12_figures_J27 at h
    obtain ⟨c7, h⟩ := hq_g h
    obtain ⟨S5, g6, h⟩ := hq_bind h
    obtain ⟨fs_g6, hs_g6, hl_g6, e_g6⟩ := pV_at g6
    refine hq_put hx hb hts hown hE hI hs_g6 inG12 tyX12 tyX12_ok nmX12 rfl 7 (by decide) kw_951 rfl (v := .int y3) rfl (hq_nz c7) (hq_fz c7) hl_g6 e_g6 dX12_figures_27 (fun H locs hI => ?_)
    refine lv_iconst (v := 0) hx hb dX12_figures_30 (by decide) ?_
    refine lv_istore_n (lv' := [(1, .int 0), (0, .ref a0)]) hx hb dX12_figures_31 rfl hl (by decide) rfl (fun ls hl => ?_)
    refine lv_iconst (v := 0) hx hb dX12_figures_32 (by decide) ?_
    refine lv_istore_n (lv' := [(2, .int 0), (1, .int 0), (0, .ref a0)]) hx hb dX12_figures_33 rfl hl (by decide) rfl (fun ls hl => ?_)
    have hK97 : ∀ (x8 : Int32) (S9 : HSt) (H : Heap) (locs : List Loc) (ls : Array Slot), f_X12_figures_K97 x8 S9 = some res → hqX D kA HB S.2 S9 H locs → lv_has ls 3 [(1, .int x8)] → W p l e rm_X12_figures s m ([.ref a0] : List Value).toArray below meth c H locs 0 0 (MQ below (hQi D kA HB S res) ([.ref a0] : List Value).toArray s 0 0 (hFree HB)) (F0 m 97 ls []) := by
      intro x8 S9 H locs ls h hI hl
      unfold f_X12_figures_K97 at h
      refine lv_iload_n hx hb dX12_figures_97 rfl (lv_at hl 0 rfl) ?_
      exact hq_iret hx hb hr hlocks h0 hI h dX12_figures_98
    have hL34 : ∀ (n34 : Nat) (x10 : Int32) (x11 : Int32) (S12 : HSt) (H : Heap) (locs : List Loc) (ls : Array Slot), (f_X12_figures_L34 a0 f_X12_figures_K97 n34) x10 x11 S12 = some res → hqX D kA HB S.2 S12 H locs → lv_has ls 3 [(0, .ref a0), (1, .int x10), (2, .int x11)] → W p l e rm_X12_figures s m ([.ref a0] : List Value).toArray below meth c H locs 0 0 (MQ below (hQi D kA HB S res) ([.ref a0] : List Value).toArray s 0 0 (hFree HB)) (F0 m 34 ls []) := by
      intro n34
      induction n34 with
      | zero =>
        intro x10 x11 S12 H locs ls h
        have h : (none : Option (Int32 × HSt)) = some res := h
        cases h
      | succ n34 ih34 =>
        intro x10 x11 S12 H locs ls h hI hl
        have h : f_X12_figures_B34 a0 f_X12_figures_K97 (f_X12_figures_L34 a0 f_X12_figures_K97 n34) x10 x11 S12 = some res := h
        unfold f_X12_figures_B34 at h
        refine lv_iload_n hx hb dX12_figures_34 rfl (lv_at hl 2 rfl) ?_
        refine lv_iconst (v := 2) hx hb dX12_figures_35 (by decide) ?_
        refine lv_icmp_ge (tgt := 97) hx hb dX12_figures_36 (by decide) (fun c13 => ?_) (fun c13 => ?_)
        · have h := hq_t h c13
          exact hK97 x10 S12 _ _ _ h hI (lv_sub hl [1] rfl)
        · have h := hq_f h c13
          refine lv_aload_n hx hb dX12_figures_39 rfl (lv_at hl 0 rfl) ?_
          obtain ⟨v14, g15, h⟩ := hq_bind h
          obtain ⟨fs_g15, hs_g15, hv_g15⟩ := gI_at g15
          refine hq_get hx hb hts hown hE hI hs_g15 inG12 rfl 7 (by decide) kw_951 hv_g15 dX12_figures_40 ?_
          refine lv_if_ne (tgt := 97) hx hb dX12_figures_43 (by decide) (fun c16 => ?_) (fun c16 => ?_)
          · have h := hq_f h c16
            exact hK97 x10 S12 _ _ _ h hI (lv_sub hl [1] rfl)
          · have h := hq_t h c16
            refine lv_aload_n hx hb dX12_figures_46 rfl (lv_at hl 0 rfl) ?_
            obtain ⟨g18, h⟩ := hq_g h
            obtain ⟨v20, S19, g17, h⟩ := hq_bd2 h
            refine hq_calli hI (va_runV (As := []) (rest := []) ⟨hx, hb, hml, hown, hts⟩ (c_X12_here l D kA ρ HB S12 a0 _ g17) (cwV 0 hts (gdIn (List.forall_mem_cons.mpr ⟨kw_1060, (List.forall_mem_cons.mpr ⟨kw_1062, (List.forall_mem_cons.mpr ⟨ks_35, (List.forall_mem_cons.mpr ⟨kw_6, (fun _ h => absurd h List.not_mem_nil)⟩)⟩)⟩)⟩) kw_1063) rfl rfl rfl ye_X12_here ⟨Nat.le_of_ble_eq_true rfl, Nat.le_of_ble_eq_true rfl⟩) (hq_preC hE hI g18 rfl _) rfl rfl hl.1 rfl (lv_room (Nat.le_of_ble_eq_true rfl)) dX12_figures_47 ⟨Nat.le_of_ble_eq_true rfl, Nat.le_of_ble_eq_true rfl⟩) (fun H locs hI => ?_)
            refine lv_bipush (v := 48) hx hb dX12_figures_50 (by decide) ?_
            refine lv_bipush (v := 57) hx hb dX12_figures_52 (by decide) ?_
            obtain ⟨v23, S22, g21, h⟩ := hq_bd2 h
            refine hq_calli hI (va_runS (As := [.int v20, .int 48, .int 57]) (rest := []) ⟨hx, hb, hml, hown, hts⟩ (c_X12_in l D kA ρ HB S19 v20 48 57 _ g21) (va_cwS 3 hts (gdIn (List.forall_mem_cons.mpr ⟨kw_1010, (List.forall_mem_cons.mpr ⟨kw_1011, (List.forall_mem_cons.mpr ⟨kw_6, (fun _ h => absurd h List.not_mem_nil)⟩)⟩)⟩) kw_1012) rfl rfl rfl yd_X12_in ⟨Nat.le_of_ble_eq_true rfl, Nat.le_of_ble_eq_true rfl⟩) (hq_preS hE hI _) rfl rfl hl.1 rfl (lv_room (Nat.le_of_ble_eq_true rfl)) dX12_figures_54 ⟨Nat.le_of_ble_eq_true rfl, Nat.le_of_ble_eq_true rfl⟩) (fun H locs hI => ?_)
            refine lv_if_eq (tgt := 97) hx hb dX12_figures_57 (by decide) (fun c24 => ?_) (fun c24 => ?_)
            · have h := hq_t h c24
              exact hK97 x10 S22 _ _ _ h hI (lv_sub hl [1] rfl)
            · have h := hq_f h c24
              refine lv_iload_n hx hb dX12_figures_60 rfl (lv_at hl 2 rfl) ?_
              have hJ68 : ∀ (S25 : HSt) (H : Heap) (locs : List Loc) (ls : Array Slot), (f_X12_figures_J68 a0 (f_X12_figures_L34 a0 f_X12_figures_K97 n34) x10 x11) S25 = some res → hqX D kA HB S.2 S25 H locs → lv_has ls 3 [(0, .ref a0), (1, .int x10), (2, .int x11)] → W p l e rm_X12_figures s m ([.ref a0] : List Value).toArray below meth c H locs 0 0 (MQ below (hQi D kA HB S res) ([.ref a0] : List Value).toArray s 0 0 (hFree HB)) (F0 m 68 ls []) := by
                intro S25 H locs ls h hI hl
                unfold f_X12_figures_J68 at h
                refine lv_bipush (v := 10) hx hb dX12_figures_68 (by decide) ?_
                refine lv_iload_n hx hb dX12_figures_70 rfl (lv_at hl 1 rfl) ?_
                refine lv_imul hx hb dX12_figures_71 ?_
                refine lv_aload_n hx hb dX12_figures_72 rfl (lv_at hl 0 rfl) ?_
                obtain ⟨g27, h⟩ := hq_g h
                obtain ⟨v29, S28, g26, h⟩ := hq_bd2 h
                refine hq_calli hI (va_runV (As := []) (rest := [.int (10 * x10)]) ⟨hx, hb, hml, hown, hts⟩ (c_X12_here l D kA ρ HB S25 a0 _ g26) (cwV 0 hts (gdIn (List.forall_mem_cons.mpr ⟨kw_1060, (List.forall_mem_cons.mpr ⟨kw_1062, (List.forall_mem_cons.mpr ⟨ks_35, (List.forall_mem_cons.mpr ⟨kw_6, (fun _ h => absurd h List.not_mem_nil)⟩)⟩)⟩)⟩) kw_1063) rfl rfl rfl ye_X12_here ⟨Nat.le_of_ble_eq_true rfl, Nat.le_of_ble_eq_true rfl⟩) (hq_preC hE hI g27 rfl _) rfl rfl hl.1 rfl (lv_room (Nat.le_of_ble_eq_true rfl)) dX12_figures_73 ⟨Nat.le_of_ble_eq_true rfl, Nat.le_of_ble_eq_true rfl⟩) (fun H locs hI => ?_)
                refine lv_iadd hx hb dX12_figures_76 ?_
                refine lv_bipush (v := 48) hx hb dX12_figures_77 (by decide) ?_
                refine lv_isub hx hb dX12_figures_79 ?_
                refine lv_istore_n (lv' := [(1, .int (((10 * x10) + v29) - 48)), (0, .ref a0), (2, .int x11)]) hx hb dX12_figures_80 rfl hl (by decide) rfl (fun ls hl => ?_)
                refine lv_aload_n hx hb dX12_figures_81 rfl (lv_at hl 1 rfl) ?_
                refine lv_dup hx hb dX12_figures_82 rfl ?_
                obtain ⟨v30, g31, h⟩ := hq_bind h
                obtain ⟨fs_g31, hs_g31, hv_g31⟩ := gI_at g31
                refine hq_get hx hb hts hown hE hI hs_g31 inG12 rfl 5 (by decide) kw_949 hv_g31 dX12_figures_83 ?_
                refine lv_iconst (v := 1) hx hb dX12_figures_86 (by decide) ?_
                refine lv_iadd hx hb dX12_figures_87 ?_
                obtain ⟨S32, g33, h⟩ := hq_bind h
                obtain ⟨fs_g33, hs_g33, hl_g33, e_g33⟩ := pV_at g33
                refine hq_put hx hb hts hown hE hI hs_g33 inG12 tyX12 tyX12_ok nmX12 rfl 5 (by decide) kw_949 rfl (v := .int (v30 + 1)) rfl rfl rfl hl_g33 e_g33 dX12_figures_88 (fun H locs hI => ?_)
                refine lv_iinc (v := (x11 + 1)) (lv' := [(2, .int (x11 + 1)), (1, .int (((10 * x10) + v29) - 48)), (0, .ref a0)]) hx hb dX12_figures_91 hl (k := 2) rfl rfl (by decide) rfl (fun ls hl => ?_)
                refine lv_goto (tgt := 34) hx hb dX12_figures_94 (by decide) ?_
                exact ih34 (((10 * x10) + v29) - 48) (x11 + 1) S32 _ _ _ h hI (lv_sub hl [2, 1, 0] rfl)
              refine lv_if_eq (tgt := 68) hx hb dX12_figures_61 (by decide) (fun c34 => ?_) (fun c34 => ?_)
              · have h := hq_t h c34
                exact hJ68 S22 _ _ _ h hI (lv_sub hl [0, 1, 2] rfl)
              · have h := hq_f h c34
                refine lv_iload_n hx hb dX12_figures_64 rfl (lv_at hl 1 rfl) ?_
                refine lv_if_le (tgt := 97) hx hb dX12_figures_65 (by decide) (fun c35 => ?_) (fun c35 => ?_)
                · have h := hq_t h c35
                  exact hK97 x10 S22 _ _ _ h hI (lv_sub hl [1] rfl)
                · have h := hq_f h c35
                  exact hJ68 S22 _ _ _ h hI (lv_sub hl [0, 1, 2] rfl)
    exact hL34 FU 0 0 S5 _ _ _ h hI (lv_sub hl [2, 1, 0] rfl)
  refine lv_if_ne (tgt := 22) hx hb dX12_figures_5 (by decide) (fun c36 => ?_) (fun c36 => ?_)
  · have h := hq_f h c36
    refine lv_iconst (v := 1) hx hb dX12_figures_22 (by decide) ?_
    refine lv_goto (tgt := 27) hx hb dX12_figures_23 (by decide) ?_
    exact hJ27 1 S _ _ _ h hI (lv_sub hl [0] rfl)
  · have h := hq_t h c36
    refine lv_aload_n hx hb dX12_figures_8 rfl (lv_at hl 0 rfl) ?_
    obtain ⟨g38, h⟩ := hq_g h
    obtain ⟨v40, S39, g37, h⟩ := hq_bd2 h
    refine hq_calli hI (va_runV (As := []) (rest := [.ref a0]) ⟨hx, hb, hml, hown, hts⟩ (c_X12_here l D kA ρ HB S a0 _ g37) (cwV 0 hts (gdIn (List.forall_mem_cons.mpr ⟨kw_1060, (List.forall_mem_cons.mpr ⟨kw_1062, (List.forall_mem_cons.mpr ⟨ks_35, (List.forall_mem_cons.mpr ⟨kw_6, (fun _ h => absurd h List.not_mem_nil)⟩)⟩)⟩)⟩) kw_1063) rfl rfl rfl ye_X12_here ⟨Nat.le_of_ble_eq_true rfl, Nat.le_of_ble_eq_true rfl⟩) (hq_preC hE hI g38 rfl _) rfl rfl hl.1 rfl (lv_room (Nat.le_of_ble_eq_true rfl)) dX12_figures_9 ⟨Nat.le_of_ble_eq_true rfl, Nat.le_of_ble_eq_true rfl⟩) (fun H locs hI => ?_)
    refine lv_bipush (v := 48) hx hb dX12_figures_12 (by decide) ?_
    refine lv_bipush (v := 57) hx hb dX12_figures_14 (by decide) ?_
    obtain ⟨v43, S42, g41, h⟩ := hq_bd2 h
    refine hq_calli hI (va_runS (As := [.int v40, .int 48, .int 57]) (rest := [.ref a0]) ⟨hx, hb, hml, hown, hts⟩ (c_X12_in l D kA ρ HB S39 v40 48 57 _ g41) (va_cwS 3 hts (gdIn (List.forall_mem_cons.mpr ⟨kw_1010, (List.forall_mem_cons.mpr ⟨kw_1011, (List.forall_mem_cons.mpr ⟨kw_6, (fun _ h => absurd h List.not_mem_nil)⟩)⟩)⟩) kw_1012) rfl rfl rfl yd_X12_in ⟨Nat.le_of_ble_eq_true rfl, Nat.le_of_ble_eq_true rfl⟩) (hq_preS hE hI _) rfl rfl hl.1 rfl (lv_room (Nat.le_of_ble_eq_true rfl)) dX12_figures_16 ⟨Nat.le_of_ble_eq_true rfl, Nat.le_of_ble_eq_true rfl⟩) (fun H locs hI => ?_)
    refine lv_if_ne (tgt := 26) hx hb dX12_figures_19 (by decide) (fun c44 => ?_) (fun c44 => ?_)
    · have h := hq_f h c44
      refine lv_iconst (v := 0) hx hb dX12_figures_26 (by decide) ?_
      exact hJ27 0 S42 _ _ _ h hI (lv_sub hl [0] rfl)
    · have h := hq_t h c44
      refine lv_iconst (v := 1) hx hb dX12_figures_22 (by decide) ?_
      refine lv_goto (tgt := 27) hx hb dX12_figures_23 (by decide) ?_
      exact hJ27 1 S42 _ _ _ h hI (lv_sub hl [0] rfl)
-- RodDipsModel.emits(I)V
theorem dX12_emits_0 : decode cX12_emits 0 = .ok (.aload_n 0, 1) := by decide +kernel
theorem dX12_emits_1 : decode cX12_emits 1 = .ok (.getfield 68, 3) := by decide +kernel
theorem dX12_emits_4 : decode cX12_emits 4 = .ok (.ifCond .ne 52, 3) := by decide +kernel
theorem dX12_emits_7 : decode cX12_emits 7 = .ok (.aload_n 0, 1) := by decide +kernel
theorem dX12_emits_8 : decode cX12_emits 8 = .ok (.getfield 9, 3) := by decide +kernel
theorem dX12_emits_11 : decode cX12_emits 11 = .ok (.sipush 335, 3) := by decide +kernel
theorem dX12_emits_14 : decode cX12_emits 14 = .ok (.sipush 140, 3) := by decide +kernel
theorem dX12_emits_17 : decode cX12_emits 17 = .ok (.aload_n 0, 1) := by decide +kernel
theorem dX12_emits_18 : decode cX12_emits 18 = .ok (.getfield 89, 3) := by decide +kernel
theorem dX12_emits_21 : decode cX12_emits 21 = .ok (.imul, 1) := by decide +kernel
theorem dX12_emits_22 : decode cX12_emits 22 = .ok (.iadd, 1) := by decide +kernel
theorem dX12_emits_23 : decode cX12_emits 23 = .ok (.aload_n 0, 1) := by decide +kernel
theorem dX12_emits_24 : decode cX12_emits 24 = .ok (.getfield 9, 3) := by decide +kernel
theorem dX12_emits_27 : decode cX12_emits 27 = .ok (.sipush 325, 3) := by decide +kernel
theorem dX12_emits_30 : decode cX12_emits 30 = .ok (.aload_n 0, 1) := by decide +kernel
theorem dX12_emits_31 : decode cX12_emits 31 = .ok (.getfield 89, 3) := by decide +kernel
theorem dX12_emits_34 : decode cX12_emits 34 = .ok (.iadd, 1) := by decide +kernel
theorem dX12_emits_35 : decode cX12_emits 35 = .ok (.iaload, 1) := by decide +kernel
theorem dX12_emits_36 : decode cX12_emits 36 = .ok (.iadd, 1) := by decide +kernel
theorem dX12_emits_37 : decode cX12_emits 37 = .ok (.iload_n 1, 1) := by decide +kernel
theorem dX12_emits_38 : decode cX12_emits 38 = .ok (.iastore, 1) := by decide +kernel
theorem dX12_emits_39 : decode cX12_emits 39 = .ok (.aload_n 0, 1) := by decide +kernel
theorem dX12_emits_40 : decode cX12_emits 40 = .ok (.getfield 9, 3) := by decide +kernel
theorem dX12_emits_43 : decode cX12_emits 43 = .ok (.sipush 325, 3) := by decide +kernel
theorem dX12_emits_46 : decode cX12_emits 46 = .ok (.aload_n 0, 1) := by decide +kernel
theorem dX12_emits_47 : decode cX12_emits 47 = .ok (.getfield 89, 3) := by decide +kernel
theorem dX12_emits_50 : decode cX12_emits 50 = .ok (.iadd, 1) := by decide +kernel
theorem dX12_emits_51 : decode cX12_emits 51 = .ok (.dup2, 1) := by decide +kernel
theorem dX12_emits_52 : decode cX12_emits 52 = .ok (.iaload, 1) := by decide +kernel
theorem dX12_emits_53 : decode cX12_emits 53 = .ok (.iconst 1, 1) := by decide +kernel
theorem dX12_emits_54 : decode cX12_emits 54 = .ok (.iadd, 1) := by decide +kernel
theorem dX12_emits_55 : decode cX12_emits 55 = .ok (.iastore, 1) := by decide +kernel
theorem dX12_emits_56 : decode cX12_emits 56 = .ok (.return_, 1) := by decide +kernel
def f_X12_emits (S : HSt) (a0 : Nat) (a1 : Int32) : Option (HSt) := (gI S a0 12 7).bind fun v1 => if v1 = 0 then ((gR S a0 12 1).bind fun b4 => (gI S a0 12 4).bind fun v6 => (gR S a0 12 1).bind fun b8 => (gI S a0 12 4).bind fun v10 => (aI S b8 0 (325 + v10)).bind fun v13 => (sI S b4 0 ((335 + (140 * v6)) + v13) a1).bind fun S15 => (gR S15 a0 12 1).bind fun b16 => (gI S15 a0 12 4).bind fun v18 => (aI S15 b16 0 (325 + v18)).bind fun v21 => (sI S15 b16 0 (325 + v18) (v21 + 1)).bind fun S23 => some S23) else (some S)
abbrev rm_X12_emits : Room := { frames := 0, cells := 0, slots := 0, locals := 0 }
abbrev w_X12_emits : List Cond := Cond.code yX12_emits cX12_emits 2 none :: lwG
theorem yd_X12_emits : yX12_emits.cls ≠ "java/lang/invoke/MethodHandle" ∧ yX12_emits.cls ≠ "java/lang/invoke/VarHandle" ∧ (parseMethodDescriptor yX12_emits.desc).map (fun d => d.parameters.length) = some 1 := by decide +kernel
theorem ye_X12_emits : yX12_emits.cls = RX12 ∧ yX12_emits.cls ≠ "java/lang/invoke/MethodHandle" ∧ yX12_emits.cls ≠ "java/lang/invoke/VarHandle" ∧ (parseMethodDescriptor yX12_emits.desc).map (fun d => d.parameters.length) = some 1 := by decide +kernel
set_option maxHeartbeats 4000000 in
set_option maxRecDepth 100000 in
theorem c_X12_emits (l : Launch) (D : va_G) (kA ρ : Nat → Nat) (HB : Heap) (S : HSt) (a0 : Nat) (a1 : Int32) (res : HSt) (h : f_X12_emits S a0 a1 = some res) : Met l yX12_emits w_X12_emits rm_X12_emits (hPc D kA ρ HB S [.ref a0, .int a1]) (hQv D kA HB S res) 0 0 (hFree HB) := by
  refine Met.ofW (cc := cX12_emits) (maxL := 2) (ret := none) (by decide) rfl ?_
  intro p e s m args below meth c s₁ B hml hv
  obtain ⟨rfl, hE, h0⟩ := hv
  have hx := B.exec
  have hb := B.bytes
  have hr := B.returns
  have hts0 := atoms_spec (ws := w_X12_emits) B.pre
  have hts : ∀ w ∈ lwG, w.before _ s = true := fun w hw => hts0 w (List.mem_cons_of_mem _ hw)
  have hown : s.vm.findClass RX12 = some m.cls := findClass_of_methodNamed B.named
  have hlocks := B.notSynchronized
  have hI : hqX D kA HB S.2 S s.heap [] := ⟨h0, Nat.le_refl _, fun _ q => absurd q List.not_mem_nil⟩
  have hl := lv_entry ([.ref a0, .int a1]) (n := 2) (Nat.le_of_ble_eq_true rfl)
  rw [lg_entry_eq]
  generalize (lg_sl ([.ref a0, .int a1]) ++ List.replicate (2 - (lg_sl ([.ref a0, .int a1])).length) Slot.unset).toArray = ls at hl ⊢
  have hl : lv_has ls 2 [(0, .ref a0), (1, .int a1)] := hl
  unfold f_X12_emits at h
  refine lv_aload_n hx hb dX12_emits_0 rfl (lv_at hl 0 rfl) ?_
  obtain ⟨v1, g2, h⟩ := hq_bind h
  obtain ⟨fs_g2, hs_g2, hv_g2⟩ := gI_at g2
  refine hq_get hx hb hts hown hE hI hs_g2 inG12 rfl 7 (by decide) kw_951 hv_g2 dX12_emits_1 ?_
  refine lv_if_ne (tgt := 56) hx hb dX12_emits_4 (by decide) (fun c3 => ?_) (fun c3 => ?_)
  · have h := hq_f h c3
    exact hq_vret hx hb hr hlocks h0 hI h dX12_emits_56
  · have h := hq_t h c3
    refine lv_aload_n hx hb dX12_emits_7 rfl (lv_at hl 0 rfl) ?_
    obtain ⟨b4, g5, h⟩ := hq_bind h
    obtain ⟨fs_g5, hs_g5, hv_g5⟩ := gR_at g5
    refine hq_get hx hb hts hown hE hI hs_g5 inG12 rfl 1 (by decide) kw_945 hv_g5 dX12_emits_8 ?_
    refine lv_sipush (v := 335) hx hb dX12_emits_11 (by decide) ?_
    refine lv_sipush (v := 140) hx hb dX12_emits_14 (by decide) ?_
    refine lv_aload_n hx hb dX12_emits_17 rfl (lv_at hl 0 rfl) ?_
    obtain ⟨v6, g7, h⟩ := hq_bind h
    obtain ⟨fs_g7, hs_g7, hv_g7⟩ := gI_at g7
    refine hq_get hx hb hts hown hE hI hs_g7 inG12 rfl 4 (by decide) kw_948 hv_g7 dX12_emits_18 ?_
    refine lv_imul hx hb dX12_emits_21 ?_
    refine lv_iadd hx hb dX12_emits_22 ?_
    refine lv_aload_n hx hb dX12_emits_23 rfl (lv_at hl 0 rfl) ?_
    obtain ⟨b8, g9, h⟩ := hq_bind h
    obtain ⟨fs_g9, hs_g9, hv_g9⟩ := gR_at g9
    refine hq_get hx hb hts hown hE hI hs_g9 inG12 rfl 1 (by decide) kw_945 hv_g9 dX12_emits_24 ?_
    refine lv_sipush (v := 325) hx hb dX12_emits_27 (by decide) ?_
    refine lv_aload_n hx hb dX12_emits_30 rfl (lv_at hl 0 rfl) ?_
    obtain ⟨v10, g11, h⟩ := hq_bind h
    obtain ⟨fs_g11, hs_g11, hv_g11⟩ := gI_at g11
    refine hq_get hx hb hts hown hE hI hs_g11 inG12 rfl 4 (by decide) kw_948 hv_g11 dX12_emits_31 ?_
    refine lv_iadd hx hb dX12_emits_34 ?_
    obtain ⟨v13, g12, h⟩ := hq_bind h
    refine hq_iald hx hb hE hI g12 dX12_emits_35 ?_
    refine lv_iadd hx hb dX12_emits_36 ?_
    refine lv_iload_n hx hb dX12_emits_37 rfl (lv_at hl 1 rfl) ?_
    obtain ⟨S15, g14, h⟩ := hq_bind h
    refine hq_iast hx hb hE hI g14 dX12_emits_38 (fun H locs hI => ?_)
    refine lv_aload_n hx hb dX12_emits_39 rfl (lv_at hl 0 rfl) ?_
    obtain ⟨b16, g17, h⟩ := hq_bind h
    obtain ⟨fs_g17, hs_g17, hv_g17⟩ := gR_at g17
    refine hq_get hx hb hts hown hE hI hs_g17 inG12 rfl 1 (by decide) kw_945 hv_g17 dX12_emits_40 ?_
    refine lv_sipush (v := 325) hx hb dX12_emits_43 (by decide) ?_
    refine lv_aload_n hx hb dX12_emits_46 rfl (lv_at hl 0 rfl) ?_
    obtain ⟨v18, g19, h⟩ := hq_bind h
    obtain ⟨fs_g19, hs_g19, hv_g19⟩ := gI_at g19
    refine hq_get hx hb hts hown hE hI hs_g19 inG12 rfl 4 (by decide) kw_948 hv_g19 dX12_emits_47 ?_
    refine lv_iadd hx hb dX12_emits_50 ?_
    refine lv_dup2_11 hx hb dX12_emits_51 rfl rfl ?_
    obtain ⟨v21, g20, h⟩ := hq_bind h
    refine hq_iald hx hb hE hI g20 dX12_emits_52 ?_
    refine lv_iconst (v := 1) hx hb dX12_emits_53 (by decide) ?_
    refine lv_iadd hx hb dX12_emits_54 ?_
    obtain ⟨S23, g22, h⟩ := hq_bind h
    refine hq_iast hx hb hE hI g22 dX12_emits_55 (fun H locs hI => ?_)
    exact hq_vret hx hb hr hlocks h0 hI h dX12_emits_56
-- RodDipsModel.before(I)I
theorem dX12_before_0 : decode cX12_before 0 = .ok (.bipush 100, 2) := by decide +kernel
theorem dX12_before_2 : decode cX12_before 2 = .ok (.istore_n 2, 1) := by decide +kernel
theorem dX12_before_3 : decode cX12_before 3 = .ok (.iconst 0, 1) := by decide +kernel
theorem dX12_before_4 : decode cX12_before 4 = .ok (.istore_n 3, 1) := by decide +kernel
theorem dX12_before_5 : decode cX12_before 5 = .ok (.iload_n 3, 1) := by decide +kernel
theorem dX12_before_6 : decode cX12_before 6 = .ok (.iload_n 1, 1) := by decide +kernel
theorem dX12_before_7 : decode cX12_before 7 = .ok (.if_icmp .ge 47, 3) := by decide +kernel
theorem dX12_before_10 : decode cX12_before 10 = .ok (.aload_n 0, 1) := by decide +kernel
theorem dX12_before_11 : decode cX12_before 11 = .ok (.getfield 9, 3) := by decide +kernel
theorem dX12_before_14 : decode cX12_before 14 = .ok (.sipush 130, 3) := by decide +kernel
theorem dX12_before_17 : decode cX12_before 17 = .ok (.iload_n 3, 1) := by decide +kernel
theorem dX12_before_18 : decode cX12_before 18 = .ok (.iadd, 1) := by decide +kernel
theorem dX12_before_19 : decode cX12_before 19 = .ok (.iaload, 1) := by decide +kernel
theorem dX12_before_20 : decode cX12_before 20 = .ok (.aload_n 0, 1) := by decide +kernel
theorem dX12_before_21 : decode cX12_before 21 = .ok (.getfield 9, 3) := by decide +kernel
theorem dX12_before_24 : decode cX12_before 24 = .ok (.sipush 130, 3) := by decide +kernel
theorem dX12_before_27 : decode cX12_before 27 = .ok (.iload_n 1, 1) := by decide +kernel
theorem dX12_before_28 : decode cX12_before 28 = .ok (.iadd, 1) := by decide +kernel
theorem dX12_before_29 : decode cX12_before 29 = .ok (.iaload, 1) := by decide +kernel
theorem dX12_before_30 : decode cX12_before 30 = .ok (.if_icmp .ne 16, 3) := by decide +kernel
theorem dX12_before_33 : decode cX12_before 33 = .ok (.aload_n 0, 1) := by decide +kernel
theorem dX12_before_34 : decode cX12_before 34 = .ok (.getfield 9, 3) := by decide +kernel
theorem dX12_before_37 : decode cX12_before 37 = .ok (.sipush 250, 3) := by decide +kernel
theorem dX12_before_40 : decode cX12_before 40 = .ok (.iload_n 3, 1) := by decide +kernel
theorem dX12_before_41 : decode cX12_before 41 = .ok (.iadd, 1) := by decide +kernel
theorem dX12_before_42 : decode cX12_before 42 = .ok (.iaload, 1) := by decide +kernel
theorem dX12_before_43 : decode cX12_before 43 = .ok (.goto 4, 3) := by decide +kernel
theorem dX12_before_46 : decode cX12_before 46 = .ok (.iload_n 2, 1) := by decide +kernel
theorem dX12_before_47 : decode cX12_before 47 = .ok (.istore_n 2, 1) := by decide +kernel
theorem dX12_before_48 : decode cX12_before 48 = .ok (.iinc 3 1, 3) := by decide +kernel
theorem dX12_before_51 : decode cX12_before 51 = .ok (.goto (-46), 3) := by decide +kernel
theorem dX12_before_54 : decode cX12_before 54 = .ok (.iload_n 2, 1) := by decide +kernel
theorem dX12_before_55 : decode cX12_before 55 = .ok (.ireturn, 1) := by decide +kernel
def f_X12_before_K54 (x1 : Int32) (S2 : HSt) : Option (Int32 × HSt) := some (x1, S2)
def f_X12_before_B5 (a0 : Nat) (a1 : Int32) (kx54 : (Int32 → HSt → Option (Int32 × HSt))) (kb5 : (Int32 → Int32 → HSt → Option (Int32 × HSt))) (x3 : Int32) (x4 : Int32) (S5 : HSt) : Option (Int32 × HSt) := if a1 ≤ x4 then (kx54 x3 S5) else ((gR S5 a0 12 1).bind fun b7 => (aI S5 b7 0 (130 + x4)).bind fun v10 => (gR S5 a0 12 1).bind fun b11 => (aI S5 b11 0 (130 + a1)).bind fun v14 => if v10 = v14 then ((gR S5 a0 12 1).bind fun b16 => (aI S5 b16 0 (250 + x4)).bind fun v19 => kb5 v19 (x4 + 1) S5) else (kb5 x3 (x4 + 1) S5))
def f_X12_before_L5 (a0 : Nat) (a1 : Int32) (kx54 : (Int32 → HSt → Option (Int32 × HSt))) : Nat → Int32 → Int32 → HSt → Option (Int32 × HSt)
  | 0, _, _, _ => none
  | n + 1, x3, x4, S => f_X12_before_B5 a0 a1 kx54 (f_X12_before_L5 a0 a1 kx54 n) x3 x4 S
def f_X12_before (S : HSt) (a0 : Nat) (a1 : Int32) : Option (Int32 × HSt) := (f_X12_before_L5 a0 a1 f_X12_before_K54 FU) 100 0 S
abbrev rm_X12_before : Room := { frames := 0, cells := 0, slots := 0, locals := 0 }
abbrev w_X12_before : List Cond := Cond.code yX12_before cX12_before 4 (Option.some FieldType.int) :: lwG
theorem yd_X12_before : yX12_before.cls ≠ "java/lang/invoke/MethodHandle" ∧ yX12_before.cls ≠ "java/lang/invoke/VarHandle" ∧ (parseMethodDescriptor yX12_before.desc).map (fun d => d.parameters.length) = some 1 := by decide +kernel
theorem ye_X12_before : yX12_before.cls = RX12 ∧ yX12_before.cls ≠ "java/lang/invoke/MethodHandle" ∧ yX12_before.cls ≠ "java/lang/invoke/VarHandle" ∧ (parseMethodDescriptor yX12_before.desc).map (fun d => d.parameters.length) = some 1 := by decide +kernel
set_option maxHeartbeats 4000000 in
set_option maxRecDepth 100000 in
theorem c_X12_before (l : Launch) (D : va_G) (kA ρ : Nat → Nat) (HB : Heap) (S : HSt) (a0 : Nat) (a1 : Int32) (res : Int32 × HSt) (h : f_X12_before S a0 a1 = some res) : Met l yX12_before w_X12_before rm_X12_before (hPc D kA ρ HB S [.ref a0, .int a1]) (hQi D kA HB S res) 0 0 (hFree HB) := by
  refine Met.ofW (cc := cX12_before) (maxL := 4) (ret := (Option.some FieldType.int)) (by decide) rfl ?_
  intro p e s m args below meth c s₁ B hml hv
  obtain ⟨rfl, hE, h0⟩ := hv
  have hx := B.exec
  have hb := B.bytes
  have hr := B.returns
  have hts0 := atoms_spec (ws := w_X12_before) B.pre
  have hts : ∀ w ∈ lwG, w.before _ s = true := fun w hw => hts0 w (List.mem_cons_of_mem _ hw)
  have hown : s.vm.findClass RX12 = some m.cls := findClass_of_methodNamed B.named
  have hlocks := B.notSynchronized
  have hI : hqX D kA HB S.2 S s.heap [] := ⟨h0, Nat.le_refl _, fun _ q => absurd q List.not_mem_nil⟩
  have hl := lv_entry ([.ref a0, .int a1]) (n := 4) (Nat.le_of_ble_eq_true rfl)
  rw [lg_entry_eq]
  generalize (lg_sl ([.ref a0, .int a1]) ++ List.replicate (4 - (lg_sl ([.ref a0, .int a1])).length) Slot.unset).toArray = ls at hl ⊢
  have hl : lv_has ls 4 [(0, .ref a0), (1, .int a1)] := hl
  unfold f_X12_before at h
  refine lv_bipush (v := 100) hx hb dX12_before_0 (by decide) ?_
  refine lv_istore_n (lv' := [(2, .int 100), (0, .ref a0), (1, .int a1)]) hx hb dX12_before_2 rfl hl (by decide) rfl (fun ls hl => ?_)
  refine lv_iconst (v := 0) hx hb dX12_before_3 (by decide) ?_
  refine lv_istore_n (lv' := [(3, .int 0), (2, .int 100), (0, .ref a0), (1, .int a1)]) hx hb dX12_before_4 rfl hl (by decide) rfl (fun ls hl => ?_)
  have hK54 : ∀ (x1 : Int32) (S2 : HSt) (H : Heap) (locs : List Loc) (ls : Array Slot), f_X12_before_K54 x1 S2 = some res → hqX D kA HB S.2 S2 H locs → lv_has ls 4 [(2, .int x1)] → W p l e rm_X12_before s m ([.ref a0, .int a1] : List Value).toArray below meth c H locs 0 0 (MQ below (hQi D kA HB S res) ([.ref a0, .int a1] : List Value).toArray s 0 0 (hFree HB)) (F0 m 54 ls []) := by
    intro x1 S2 H locs ls h hI hl
    unfold f_X12_before_K54 at h
    refine lv_iload_n hx hb dX12_before_54 rfl (lv_at hl 0 rfl) ?_
    exact hq_iret hx hb hr hlocks h0 hI h dX12_before_55
  have hL5 : ∀ (n5 : Nat) (x3 : Int32) (x4 : Int32) (S5 : HSt) (H : Heap) (locs : List Loc) (ls : Array Slot), (f_X12_before_L5 a0 a1 f_X12_before_K54 n5) x3 x4 S5 = some res → hqX D kA HB S.2 S5 H locs → lv_has ls 4 [(0, .ref a0), (1, .int a1), (2, .int x3), (3, .int x4)] → W p l e rm_X12_before s m ([.ref a0, .int a1] : List Value).toArray below meth c H locs 0 0 (MQ below (hQi D kA HB S res) ([.ref a0, .int a1] : List Value).toArray s 0 0 (hFree HB)) (F0 m 5 ls []) := by
    intro n5
    induction n5 with
    | zero =>
      intro x3 x4 S5 H locs ls h
      have h : (none : Option (Int32 × HSt)) = some res := h
      cases h
    | succ n5 ih5 =>
      intro x3 x4 S5 H locs ls h hI hl
      have h : f_X12_before_B5 a0 a1 f_X12_before_K54 (f_X12_before_L5 a0 a1 f_X12_before_K54 n5) x3 x4 S5 = some res := h
      unfold f_X12_before_B5 at h
      refine lv_iload_n hx hb dX12_before_5 rfl (lv_at hl 3 rfl) ?_
      refine lv_iload_n hx hb dX12_before_6 rfl (lv_at hl 1 rfl) ?_
      refine lv_icmp_ge (tgt := 54) hx hb dX12_before_7 (by decide) (fun c6 => ?_) (fun c6 => ?_)
      · have h := hq_t h c6
        exact hK54 x3 S5 _ _ _ h hI (lv_sub hl [2] rfl)
      · have h := hq_f h c6
        refine lv_aload_n hx hb dX12_before_10 rfl (lv_at hl 0 rfl) ?_
        obtain ⟨b7, g8, h⟩ := hq_bind h
        obtain ⟨fs_g8, hs_g8, hv_g8⟩ := gR_at g8
        refine hq_get hx hb hts hown hE hI hs_g8 inG12 rfl 1 (by decide) kw_945 hv_g8 dX12_before_11 ?_
        refine lv_sipush (v := 130) hx hb dX12_before_14 (by decide) ?_
        refine lv_iload_n hx hb dX12_before_17 rfl (lv_at hl 3 rfl) ?_
        refine lv_iadd hx hb dX12_before_18 ?_
        obtain ⟨v10, g9, h⟩ := hq_bind h
        refine hq_iald hx hb hE hI g9 dX12_before_19 ?_
        refine lv_aload_n hx hb dX12_before_20 rfl (lv_at hl 0 rfl) ?_
        obtain ⟨b11, g12, h⟩ := hq_bind h
        obtain ⟨fs_g12, hs_g12, hv_g12⟩ := gR_at g12
        refine hq_get hx hb hts hown hE hI hs_g12 inG12 rfl 1 (by decide) kw_945 hv_g12 dX12_before_21 ?_
        refine lv_sipush (v := 130) hx hb dX12_before_24 (by decide) ?_
        refine lv_iload_n hx hb dX12_before_27 rfl (lv_at hl 1 rfl) ?_
        refine lv_iadd hx hb dX12_before_28 ?_
        obtain ⟨v14, g13, h⟩ := hq_bind h
        refine hq_iald hx hb hE hI g13 dX12_before_29 ?_
        refine lv_icmp_ne (tgt := 46) hx hb dX12_before_30 (by decide) (fun c15 => ?_) (fun c15 => ?_)
        · have h := hq_f h c15
          refine lv_iload_n hx hb dX12_before_46 rfl (lv_at hl 2 rfl) ?_
          refine lv_istore_n (lv' := [(2, .int x3), (0, .ref a0), (1, .int a1), (3, .int x4)]) hx hb dX12_before_47 rfl hl (by decide) rfl (fun ls hl => ?_)
          refine lv_iinc (v := (x4 + 1)) (lv' := [(3, .int (x4 + 1)), (2, .int x3), (0, .ref a0), (1, .int a1)]) hx hb dX12_before_48 hl (k := 3) rfl rfl (by decide) rfl (fun ls hl => ?_)
          refine lv_goto (tgt := 5) hx hb dX12_before_51 (by decide) ?_
          exact ih5 x3 (x4 + 1) S5 _ _ _ h hI (lv_sub hl [2, 3, 1, 0] rfl)
        · have h := hq_t h c15
          refine lv_aload_n hx hb dX12_before_33 rfl (lv_at hl 0 rfl) ?_
          obtain ⟨b16, g17, h⟩ := hq_bind h
          obtain ⟨fs_g17, hs_g17, hv_g17⟩ := gR_at g17
          refine hq_get hx hb hts hown hE hI hs_g17 inG12 rfl 1 (by decide) kw_945 hv_g17 dX12_before_34 ?_
          refine lv_sipush (v := 250) hx hb dX12_before_37 (by decide) ?_
          refine lv_iload_n hx hb dX12_before_40 rfl (lv_at hl 3 rfl) ?_
          refine lv_iadd hx hb dX12_before_41 ?_
          obtain ⟨v19, g18, h⟩ := hq_bind h
          refine hq_iald hx hb hE hI g18 dX12_before_42 ?_
          refine lv_goto (tgt := 47) hx hb dX12_before_43 (by decide) ?_
          refine lv_istore_n (lv' := [(2, .int v19), (0, .ref a0), (1, .int a1), (3, .int x4)]) hx hb dX12_before_47 rfl hl (by decide) rfl (fun ls hl => ?_)
          refine lv_iinc (v := (x4 + 1)) (lv' := [(3, .int (x4 + 1)), (2, .int v19), (0, .ref a0), (1, .int a1)]) hx hb dX12_before_48 hl (k := 3) rfl rfl (by decide) rfl (fun ls hl => ?_)
          refine lv_goto (tgt := 5) hx hb dX12_before_51 (by decide) ?_
          exact ih5 v19 (x4 + 1) S5 _ _ _ h hI (lv_sub hl [2, 3, 1, 0] rfl)
  exact hL5 FU 100 0 S _ _ _ h hI (lv_sub hl [2, 3, 1, 0] rfl)
-- RodDipsModel.letter(III)I
theorem dX12_letter_0 : decode cX12_letter 0 = .ok (.iload_n 2, 1) := by decide +kernel
theorem dX12_letter_1 : decode cX12_letter 1 = .ok (.tableswitch 127 0 5 #[39, 50, 61, 72, 101, 116], 39) := by decide +kernel
theorem dX12_letter_40 : decode cX12_letter 40 = .ok (.aload_n 0, 1) := by decide +kernel
theorem dX12_letter_41 : decode cX12_letter 41 = .ok (.getfield 9, 3) := by decide +kernel
theorem dX12_letter_44 : decode cX12_letter 44 = .ok (.sipush 130, 3) := by decide +kernel
theorem dX12_letter_47 : decode cX12_letter 47 = .ok (.iload_n 3, 1) := by decide +kernel
theorem dX12_letter_48 : decode cX12_letter 48 = .ok (.iadd, 1) := by decide +kernel
theorem dX12_letter_49 : decode cX12_letter 49 = .ok (.iaload, 1) := by decide +kernel
theorem dX12_letter_50 : decode cX12_letter 50 = .ok (.ireturn, 1) := by decide +kernel
theorem dX12_letter_51 : decode cX12_letter 51 = .ok (.aload_n 0, 1) := by decide +kernel
theorem dX12_letter_52 : decode cX12_letter 52 = .ok (.getfield 9, 3) := by decide +kernel
theorem dX12_letter_55 : decode cX12_letter 55 = .ok (.sipush 160, 3) := by decide +kernel
theorem dX12_letter_58 : decode cX12_letter 58 = .ok (.iload_n 3, 1) := by decide +kernel
theorem dX12_letter_59 : decode cX12_letter 59 = .ok (.iadd, 1) := by decide +kernel
theorem dX12_letter_60 : decode cX12_letter 60 = .ok (.iaload, 1) := by decide +kernel
theorem dX12_letter_61 : decode cX12_letter 61 = .ok (.ireturn, 1) := by decide +kernel
theorem dX12_letter_62 : decode cX12_letter 62 = .ok (.aload_n 0, 1) := by decide +kernel
theorem dX12_letter_63 : decode cX12_letter 63 = .ok (.getfield 9, 3) := by decide +kernel
theorem dX12_letter_66 : decode cX12_letter 66 = .ok (.sipush 190, 3) := by decide +kernel
theorem dX12_letter_69 : decode cX12_letter 69 = .ok (.iload_n 3, 1) := by decide +kernel
theorem dX12_letter_70 : decode cX12_letter 70 = .ok (.iadd, 1) := by decide +kernel
theorem dX12_letter_71 : decode cX12_letter 71 = .ok (.iaload, 1) := by decide +kernel
theorem dX12_letter_72 : decode cX12_letter 72 = .ok (.ireturn, 1) := by decide +kernel
theorem dX12_letter_73 : decode cX12_letter 73 = .ok (.iload_n 1, 1) := by decide +kernel
theorem dX12_letter_74 : decode cX12_letter 74 = .ok (.iconst 5, 1) := by decide +kernel
theorem dX12_letter_75 : decode cX12_letter 75 = .ok (.if_icmp .ge 16, 3) := by decide +kernel
theorem dX12_letter_78 : decode cX12_letter 78 = .ok (.aload_n 0, 1) := by decide +kernel
theorem dX12_letter_79 : decode cX12_letter 79 = .ok (.getfield 9, 3) := by decide +kernel
theorem dX12_letter_82 : decode cX12_letter 82 = .ok (.sipush 280, 3) := by decide +kernel
theorem dX12_letter_85 : decode cX12_letter 85 = .ok (.iload_n 3, 1) := by decide +kernel
theorem dX12_letter_86 : decode cX12_letter 86 = .ok (.iadd, 1) := by decide +kernel
theorem dX12_letter_87 : decode cX12_letter 87 = .ok (.iaload, 1) := by decide +kernel
theorem dX12_letter_88 : decode cX12_letter 88 = .ok (.goto 13, 3) := by decide +kernel
theorem dX12_letter_91 : decode cX12_letter 91 = .ok (.aload_n 0, 1) := by decide +kernel
theorem dX12_letter_92 : decode cX12_letter 92 = .ok (.getfield 9, 3) := by decide +kernel
theorem dX12_letter_95 : decode cX12_letter 95 = .ok (.sipush 220, 3) := by decide +kernel
theorem dX12_letter_98 : decode cX12_letter 98 = .ok (.iload_n 3, 1) := by decide +kernel
theorem dX12_letter_99 : decode cX12_letter 99 = .ok (.iadd, 1) := by decide +kernel
theorem dX12_letter_100 : decode cX12_letter 100 = .ok (.iaload, 1) := by decide +kernel
theorem dX12_letter_101 : decode cX12_letter 101 = .ok (.ireturn, 1) := by decide +kernel
theorem dX12_letter_102 : decode cX12_letter 102 = .ok (.iload_n 1, 1) := by decide +kernel
theorem dX12_letter_103 : decode cX12_letter 103 = .ok (.iconst 5, 1) := by decide +kernel
theorem dX12_letter_104 : decode cX12_letter 104 = .ok (.if_icmp .ge 7, 3) := by decide +kernel
theorem dX12_letter_107 : decode cX12_letter 107 = .ok (.iload_n 3, 1) := by decide +kernel
theorem dX12_letter_108 : decode cX12_letter 108 = .ok (.goto 8, 3) := by decide +kernel
theorem dX12_letter_111 : decode cX12_letter 111 = .ok (.aload_n 0, 1) := by decide +kernel
theorem dX12_letter_112 : decode cX12_letter 112 = .ok (.iload_n 3, 1) := by decide +kernel
theorem dX12_letter_113 : decode cX12_letter 113 = .ok (.invokevirtual 159, 3) := by decide +kernel
theorem dX12_letter_116 : decode cX12_letter 116 = .ok (.ireturn, 1) := by decide +kernel
theorem dX12_letter_117 : decode cX12_letter 117 = .ok (.aload_n 0, 1) := by decide +kernel
theorem dX12_letter_118 : decode cX12_letter 118 = .ok (.getfield 9, 3) := by decide +kernel
theorem dX12_letter_121 : decode cX12_letter 121 = .ok (.sipush 250, 3) := by decide +kernel
theorem dX12_letter_124 : decode cX12_letter 124 = .ok (.iload_n 3, 1) := by decide +kernel
theorem dX12_letter_125 : decode cX12_letter 125 = .ok (.iadd, 1) := by decide +kernel
theorem dX12_letter_126 : decode cX12_letter 126 = .ok (.iaload, 1) := by decide +kernel
theorem dX12_letter_127 : decode cX12_letter 127 = .ok (.ireturn, 1) := by decide +kernel
theorem dX12_letter_128 : decode cX12_letter 128 = .ok (.aload_n 0, 1) := by decide +kernel
theorem dX12_letter_129 : decode cX12_letter 129 = .ok (.iload_n 3, 1) := by decide +kernel
theorem dX12_letter_130 : decode cX12_letter 130 = .ok (.invokevirtual 57, 3) := by decide +kernel
theorem dX12_letter_133 : decode cX12_letter 133 = .ok (.ireturn, 1) := by decide +kernel
def f_X12_letter (S : HSt) (a0 : Nat) (a1 : Int32) (a2 : Int32) (a3 : Int32) : Option (Int32 × HSt) := if a2 = 0 then ((gR S a0 12 1).bind fun b7 => (aI S b7 0 (130 + a3)).bind fun v10 => some (v10, S)) else (if a2 = 1 then ((gR S a0 12 1).bind fun b11 => (aI S b11 0 (160 + a3)).bind fun v14 => some (v14, S)) else (if a2 = 2 then ((gR S a0 12 1).bind fun b15 => (aI S b15 0 (190 + a3)).bind fun v18 => some (v18, S)) else (if a2 = 3 then (if 5 ≤ a1 then ((gR S a0 12 1).bind fun b20 => (aI S b20 0 (220 + a3)).bind fun v23 => some (v23, S)) else ((gR S a0 12 1).bind fun b24 => (aI S b24 0 (280 + a3)).bind fun v27 => some (v27, S))) else (if a2 = 4 then (if 5 ≤ a1 then (if gC S a0 = some 12 then (bd2 (f_X12_before S a0 a3) fun v32 S31 => some (v32, S31)) else none) else (some (a3, S))) else (if a2 = 5 then ((gR S a0 12 1).bind fun b33 => (aI S b33 0 (250 + a3)).bind fun v36 => some (v36, S)) else (if gC S a0 = some 12 then (bd2 (f_X12_nearOf S a0 a3) fun v40 S39 => some (v40, S39)) else none))))))
abbrev rm_X12_letter : Room := { frames := 2, cells := 0, slots := 0, locals := 41 }
abbrev w_X12_letter : List Cond := Cond.code yX12_letter cX12_letter 4 (Option.some FieldType.int) :: lwG
theorem yd_X12_letter : yX12_letter.cls ≠ "java/lang/invoke/MethodHandle" ∧ yX12_letter.cls ≠ "java/lang/invoke/VarHandle" ∧ (parseMethodDescriptor yX12_letter.desc).map (fun d => d.parameters.length) = some 3 := by decide +kernel
theorem ye_X12_letter : yX12_letter.cls = RX12 ∧ yX12_letter.cls ≠ "java/lang/invoke/MethodHandle" ∧ yX12_letter.cls ≠ "java/lang/invoke/VarHandle" ∧ (parseMethodDescriptor yX12_letter.desc).map (fun d => d.parameters.length) = some 3 := by decide +kernel
set_option maxHeartbeats 4000000 in
set_option maxRecDepth 100000 in
theorem c_X12_letter (l : Launch) (D : va_G) (kA ρ : Nat → Nat) (HB : Heap) (S : HSt) (a0 : Nat) (a1 : Int32) (a2 : Int32) (a3 : Int32) (res : Int32 × HSt) (h : f_X12_letter S a0 a1 a2 a3 = some res) : Met l yX12_letter w_X12_letter rm_X12_letter (hPc D kA ρ HB S [.ref a0, .int a1, .int a2, .int a3]) (hQi D kA HB S res) 0 0 (hFree HB) := by
  refine Met.ofW (cc := cX12_letter) (maxL := 4) (ret := (Option.some FieldType.int)) (by decide) rfl ?_
  intro p e s m args below meth c s₁ B hml hv
  obtain ⟨rfl, hE, h0⟩ := hv
  have hx := B.exec
  have hb := B.bytes
  have hr := B.returns
  have hts0 := atoms_spec (ws := w_X12_letter) B.pre
  have hts : ∀ w ∈ lwG, w.before _ s = true := fun w hw => hts0 w (List.mem_cons_of_mem _ hw)
  have hown : s.vm.findClass RX12 = some m.cls := findClass_of_methodNamed B.named
  have hlocks := B.notSynchronized
  have hI : hqX D kA HB S.2 S s.heap [] := ⟨h0, Nat.le_refl _, fun _ q => absurd q List.not_mem_nil⟩
  have hl := lv_entry ([.ref a0, .int a1, .int a2, .int a3]) (n := 4) (Nat.le_of_ble_eq_true rfl)
  rw [lg_entry_eq]
  generalize (lg_sl ([.ref a0, .int a1, .int a2, .int a3]) ++ List.replicate (4 - (lg_sl ([.ref a0, .int a1, .int a2, .int a3])).length) Slot.unset).toArray = ls at hl ⊢
  have hl : lv_has ls 4 [(0, .ref a0), (1, .int a1), (2, .int a2), (3, .int a3)] := hl
  unfold f_X12_letter at h
  refine lv_iload_n hx hb dX12_letter_0 rfl (lv_at hl 2 rfl) ?_
  by_cases c1 : a2 = 0
  · have h := hq_t h c1
    refine lv_tableIn (tgt := 40) hx hb dX12_letter_1 (by rw [c1]; decide) (by rw [c1]; decide) (by rw [c1]; rfl) (by decide) ?_
    refine lv_aload_n hx hb dX12_letter_40 rfl (lv_at hl 0 rfl) ?_
    obtain ⟨b7, g8, h⟩ := hq_bind h
    obtain ⟨fs_g8, hs_g8, hv_g8⟩ := gR_at g8
    refine hq_get hx hb hts hown hE hI hs_g8 inG12 rfl 1 (by decide) kw_945 hv_g8 dX12_letter_41 ?_
    refine lv_sipush (v := 130) hx hb dX12_letter_44 (by decide) ?_
    refine lv_iload_n hx hb dX12_letter_47 rfl (lv_at hl 3 rfl) ?_
    refine lv_iadd hx hb dX12_letter_48 ?_
    obtain ⟨v10, g9, h⟩ := hq_bind h
    refine hq_iald hx hb hE hI g9 dX12_letter_49 ?_
    exact hq_iret hx hb hr hlocks h0 hI h dX12_letter_50
  have h := hq_f h c1
  by_cases c2 : a2 = 1
  · have h := hq_t h c2
    refine lv_tableIn (tgt := 51) hx hb dX12_letter_1 (by rw [c2]; decide) (by rw [c2]; decide) (by rw [c2]; rfl) (by decide) ?_
    refine lv_aload_n hx hb dX12_letter_51 rfl (lv_at hl 0 rfl) ?_
    obtain ⟨b11, g12, h⟩ := hq_bind h
    obtain ⟨fs_g12, hs_g12, hv_g12⟩ := gR_at g12
    refine hq_get hx hb hts hown hE hI hs_g12 inG12 rfl 1 (by decide) kw_945 hv_g12 dX12_letter_52 ?_
    refine lv_sipush (v := 160) hx hb dX12_letter_55 (by decide) ?_
    refine lv_iload_n hx hb dX12_letter_58 rfl (lv_at hl 3 rfl) ?_
    refine lv_iadd hx hb dX12_letter_59 ?_
    obtain ⟨v14, g13, h⟩ := hq_bind h
    refine hq_iald hx hb hE hI g13 dX12_letter_60 ?_
    exact hq_iret hx hb hr hlocks h0 hI h dX12_letter_61
  have h := hq_f h c2
  by_cases c3 : a2 = 2
  · have h := hq_t h c3
    refine lv_tableIn (tgt := 62) hx hb dX12_letter_1 (by rw [c3]; decide) (by rw [c3]; decide) (by rw [c3]; rfl) (by decide) ?_
    refine lv_aload_n hx hb dX12_letter_62 rfl (lv_at hl 0 rfl) ?_
    obtain ⟨b15, g16, h⟩ := hq_bind h
    obtain ⟨fs_g16, hs_g16, hv_g16⟩ := gR_at g16
    refine hq_get hx hb hts hown hE hI hs_g16 inG12 rfl 1 (by decide) kw_945 hv_g16 dX12_letter_63 ?_
    refine lv_sipush (v := 190) hx hb dX12_letter_66 (by decide) ?_
    refine lv_iload_n hx hb dX12_letter_69 rfl (lv_at hl 3 rfl) ?_
    refine lv_iadd hx hb dX12_letter_70 ?_
    obtain ⟨v18, g17, h⟩ := hq_bind h
    refine hq_iald hx hb hE hI g17 dX12_letter_71 ?_
    exact hq_iret hx hb hr hlocks h0 hI h dX12_letter_72
  have h := hq_f h c3
  by_cases c4 : a2 = 3
  · have h := hq_t h c4
    refine lv_tableIn (tgt := 73) hx hb dX12_letter_1 (by rw [c4]; decide) (by rw [c4]; decide) (by rw [c4]; rfl) (by decide) ?_
    refine lv_iload_n hx hb dX12_letter_73 rfl (lv_at hl 1 rfl) ?_
    refine lv_iconst (v := 5) hx hb dX12_letter_74 (by decide) ?_
    refine lv_icmp_ge (tgt := 91) hx hb dX12_letter_75 (by decide) (fun c19 => ?_) (fun c19 => ?_)
    · have h := hq_t h c19
      refine lv_aload_n hx hb dX12_letter_91 rfl (lv_at hl 0 rfl) ?_
      obtain ⟨b20, g21, h⟩ := hq_bind h
      obtain ⟨fs_g21, hs_g21, hv_g21⟩ := gR_at g21
      refine hq_get hx hb hts hown hE hI hs_g21 inG12 rfl 1 (by decide) kw_945 hv_g21 dX12_letter_92 ?_
      refine lv_sipush (v := 220) hx hb dX12_letter_95 (by decide) ?_
      refine lv_iload_n hx hb dX12_letter_98 rfl (lv_at hl 3 rfl) ?_
      refine lv_iadd hx hb dX12_letter_99 ?_
      obtain ⟨v23, g22, h⟩ := hq_bind h
      refine hq_iald hx hb hE hI g22 dX12_letter_100 ?_
      exact hq_iret hx hb hr hlocks h0 hI h dX12_letter_101
    · have h := hq_f h c19
      refine lv_aload_n hx hb dX12_letter_78 rfl (lv_at hl 0 rfl) ?_
      obtain ⟨b24, g25, h⟩ := hq_bind h
      obtain ⟨fs_g25, hs_g25, hv_g25⟩ := gR_at g25
      refine hq_get hx hb hts hown hE hI hs_g25 inG12 rfl 1 (by decide) kw_945 hv_g25 dX12_letter_79 ?_
      refine lv_sipush (v := 280) hx hb dX12_letter_82 (by decide) ?_
      refine lv_iload_n hx hb dX12_letter_85 rfl (lv_at hl 3 rfl) ?_
      refine lv_iadd hx hb dX12_letter_86 ?_
      obtain ⟨v27, g26, h⟩ := hq_bind h
      refine hq_iald hx hb hE hI g26 dX12_letter_87 ?_
      refine lv_goto (tgt := 101) hx hb dX12_letter_88 (by decide) ?_
      exact hq_iret hx hb hr hlocks h0 hI h dX12_letter_101
  have h := hq_f h c4
  by_cases c5 : a2 = 4
  · have h := hq_t h c5
    refine lv_tableIn (tgt := 102) hx hb dX12_letter_1 (by rw [c5]; decide) (by rw [c5]; decide) (by rw [c5]; rfl) (by decide) ?_
    refine lv_iload_n hx hb dX12_letter_102 rfl (lv_at hl 1 rfl) ?_
    refine lv_iconst (v := 5) hx hb dX12_letter_103 (by decide) ?_
    refine lv_icmp_ge (tgt := 111) hx hb dX12_letter_104 (by decide) (fun c28 => ?_) (fun c28 => ?_)
    · have h := hq_t h c28
      refine lv_aload_n hx hb dX12_letter_111 rfl (lv_at hl 0 rfl) ?_
      refine lv_iload_n hx hb dX12_letter_112 rfl (lv_at hl 3 rfl) ?_
      obtain ⟨g30, h⟩ := hq_g h
      obtain ⟨v32, S31, g29, h⟩ := hq_bd2 h
      refine hq_calli hI (va_runV (As := [.int a3]) (rest := []) ⟨hx, hb, hml, hown, hts⟩ (c_X12_before l D kA ρ HB S a0 a3 _ g29) (cwV 1 hts (gdIn (List.forall_mem_cons.mpr ⟨kw_1153, (List.forall_mem_cons.mpr ⟨kw_1155, (List.forall_mem_cons.mpr ⟨ks_53, (List.forall_mem_cons.mpr ⟨kw_6, (fun _ h => absurd h List.not_mem_nil)⟩)⟩)⟩)⟩) kw_1156) rfl rfl rfl ye_X12_before ⟨Nat.le_of_ble_eq_true rfl, Nat.le_of_ble_eq_true rfl⟩) (hq_preC hE hI g30 rfl _) rfl rfl hl.1 rfl (lv_room (Nat.le_of_ble_eq_true rfl)) dX12_letter_113 ⟨Nat.le_of_ble_eq_true rfl, Nat.le_of_ble_eq_true rfl⟩) (fun H locs hI => ?_)
      exact hq_iret hx hb hr hlocks h0 hI h dX12_letter_116
    · have h := hq_f h c28
      refine lv_iload_n hx hb dX12_letter_107 rfl (lv_at hl 3 rfl) ?_
      refine lv_goto (tgt := 116) hx hb dX12_letter_108 (by decide) ?_
      exact hq_iret hx hb hr hlocks h0 hI h dX12_letter_116
  have h := hq_f h c5
  by_cases c6 : a2 = 5
  · have h := hq_t h c6
    refine lv_tableIn (tgt := 117) hx hb dX12_letter_1 (by rw [c6]; decide) (by rw [c6]; decide) (by rw [c6]; rfl) (by decide) ?_
    refine lv_aload_n hx hb dX12_letter_117 rfl (lv_at hl 0 rfl) ?_
    obtain ⟨b33, g34, h⟩ := hq_bind h
    obtain ⟨fs_g34, hs_g34, hv_g34⟩ := gR_at g34
    refine hq_get hx hb hts hown hE hI hs_g34 inG12 rfl 1 (by decide) kw_945 hv_g34 dX12_letter_118 ?_
    refine lv_sipush (v := 250) hx hb dX12_letter_121 (by decide) ?_
    refine lv_iload_n hx hb dX12_letter_124 rfl (lv_at hl 3 rfl) ?_
    refine lv_iadd hx hb dX12_letter_125 ?_
    obtain ⟨v36, g35, h⟩ := hq_bind h
    refine hq_iald hx hb hE hI g35 dX12_letter_126 ?_
    exact hq_iret hx hb hr hlocks h0 hI h dX12_letter_127
  have h := hq_f h c6
  have t_c1 := lv_neT c1 (a := 0) (by decide)
  have t_c2 := lv_neT c2 (a := 1) (by decide)
  have t_c3 := lv_neT c3 (a := 2) (by decide)
  have t_c4 := lv_neT c4 (a := 3) (by decide)
  have t_c5 := lv_neT c5 (a := 4) (by decide)
  have t_c6 := lv_neT c6 (a := 5) (by decide)
  refine lv_tableOut (tgt := 128) hx hb dX12_letter_1 (by omega) (by decide) ?_
  refine lv_aload_n hx hb dX12_letter_128 rfl (lv_at hl 0 rfl) ?_
  refine lv_iload_n hx hb dX12_letter_129 rfl (lv_at hl 3 rfl) ?_
  obtain ⟨g38, h⟩ := hq_g h
  obtain ⟨v40, S39, g37, h⟩ := hq_bd2 h
  refine hq_calli hI (va_runV (As := [.int a3]) (rest := []) ⟨hx, hb, hml, hown, hts⟩ (c_X12_nearOf l D kA ρ HB S a0 a3 _ g37) (cwV 1 hts (gdIn (List.forall_mem_cons.mpr ⟨kw_1036, (List.forall_mem_cons.mpr ⟨kw_1038, (List.forall_mem_cons.mpr ⟨ks_32, (List.forall_mem_cons.mpr ⟨kw_6, (fun _ h => absurd h List.not_mem_nil)⟩)⟩)⟩)⟩) kw_1039) rfl rfl rfl ye_X12_nearOf ⟨Nat.le_of_ble_eq_true rfl, Nat.le_of_ble_eq_true rfl⟩) (hq_preC hE hI g38 rfl _) rfl rfl hl.1 rfl (lv_room (Nat.le_of_ble_eq_true rfl)) dX12_letter_130 ⟨Nat.le_of_ble_eq_true rfl, Nat.le_of_ble_eq_true rfl⟩) (fun H locs hI => ?_)
  exact hq_iret hx hb hr hlocks h0 hI h dX12_letter_133
-- RodDipsModel.looks(II)V
theorem dX12_looks_0 : decode cX12_looks 0 = .ok (.iconst 0, 1) := by decide +kernel
theorem dX12_looks_1 : decode cX12_looks 1 = .ok (.istore_n 3, 1) := by decide +kernel
theorem dX12_looks_2 : decode cX12_looks 2 = .ok (.iload_n 3, 1) := by decide +kernel
theorem dX12_looks_3 : decode cX12_looks 3 = .ok (.iconst 5, 1) := by decide +kernel
theorem dX12_looks_4 : decode cX12_looks 4 = .ok (.if_icmp .ge 23, 3) := by decide +kernel
theorem dX12_looks_7 : decode cX12_looks 7 = .ok (.aload_n 0, 1) := by decide +kernel
theorem dX12_looks_8 : decode cX12_looks 8 = .ok (.getfield 22, 3) := by decide +kernel
theorem dX12_looks_11 : decode cX12_looks 11 = .ok (.iload_n 3, 1) := by decide +kernel
theorem dX12_looks_12 : decode cX12_looks 12 = .ok (.iconst 0, 1) := by decide +kernel
theorem dX12_looks_13 : decode cX12_looks 13 = .ok (.iastore, 1) := by decide +kernel
theorem dX12_looks_14 : decode cX12_looks 14 = .ok (.aload_n 0, 1) := by decide +kernel
theorem dX12_looks_15 : decode cX12_looks 15 = .ok (.getfield 25, 3) := by decide +kernel
theorem dX12_looks_18 : decode cX12_looks 18 = .ok (.iload_n 3, 1) := by decide +kernel
theorem dX12_looks_19 : decode cX12_looks 19 = .ok (.iconst 0, 1) := by decide +kernel
theorem dX12_looks_20 : decode cX12_looks 20 = .ok (.bastore, 1) := by decide +kernel
theorem dX12_looks_21 : decode cX12_looks 21 = .ok (.iinc 3 1, 3) := by decide +kernel
theorem dX12_looks_24 : decode cX12_looks 24 = .ok (.goto (-22), 3) := by decide +kernel
theorem dX12_looks_27 : decode cX12_looks 27 = .ok (.aload_n 0, 1) := by decide +kernel
theorem dX12_looks_28 : decode cX12_looks 28 = .ok (.iconst (-1), 1) := by decide +kernel
theorem dX12_looks_29 : decode cX12_looks 29 = .ok (.putfield 162, 3) := by decide +kernel
theorem dX12_looks_32 : decode cX12_looks 32 = .ok (.iconst 0, 1) := by decide +kernel
theorem dX12_looks_33 : decode cX12_looks 33 = .ok (.istore_n 3, 1) := by decide +kernel
theorem dX12_looks_34 : decode cX12_looks 34 = .ok (.sipush 335, 3) := by decide +kernel
theorem dX12_looks_37 : decode cX12_looks 37 = .ok (.sipush 140, 3) := by decide +kernel
theorem dX12_looks_40 : decode cX12_looks 40 = .ok (.iload_n 1, 1) := by decide +kernel
theorem dX12_looks_41 : decode cX12_looks 41 = .ok (.imul, 1) := by decide +kernel
theorem dX12_looks_42 : decode cX12_looks 42 = .ok (.iadd, 1) := by decide +kernel
theorem dX12_looks_43 : decode cX12_looks 43 = .ok (.istore 4, 2) := by decide +kernel
theorem dX12_looks_45 : decode cX12_looks 45 = .ok (.iload 4, 2) := by decide +kernel
theorem dX12_looks_47 : decode cX12_looks 47 = .ok (.sipush 335, 3) := by decide +kernel
theorem dX12_looks_50 : decode cX12_looks 50 = .ok (.sipush 140, 3) := by decide +kernel
theorem dX12_looks_53 : decode cX12_looks 53 = .ok (.iload_n 1, 1) := by decide +kernel
theorem dX12_looks_54 : decode cX12_looks 54 = .ok (.imul, 1) := by decide +kernel
theorem dX12_looks_55 : decode cX12_looks 55 = .ok (.iadd, 1) := by decide +kernel
theorem dX12_looks_56 : decode cX12_looks 56 = .ok (.aload_n 0, 1) := by decide +kernel
theorem dX12_looks_57 : decode cX12_looks 57 = .ok (.getfield 9, 3) := by decide +kernel
theorem dX12_looks_60 : decode cX12_looks 60 = .ok (.sipush 325, 3) := by decide +kernel
theorem dX12_looks_63 : decode cX12_looks 63 = .ok (.iload_n 1, 1) := by decide +kernel
theorem dX12_looks_64 : decode cX12_looks 64 = .ok (.iadd, 1) := by decide +kernel
theorem dX12_looks_65 : decode cX12_looks 65 = .ok (.iaload, 1) := by decide +kernel
theorem dX12_looks_66 : decode cX12_looks 66 = .ok (.iadd, 1) := by decide +kernel
theorem dX12_looks_67 : decode cX12_looks 67 = .ok (.if_icmp .ge 321, 3) := by decide +kernel
theorem dX12_looks_70 : decode cX12_looks 70 = .ok (.aload_n 0, 1) := by decide +kernel
theorem dX12_looks_71 : decode cX12_looks 71 = .ok (.getfield 9, 3) := by decide +kernel
theorem dX12_looks_74 : decode cX12_looks 74 = .ok (.iload 4, 2) := by decide +kernel
theorem dX12_looks_76 : decode cX12_looks 76 = .ok (.iaload, 1) := by decide +kernel
theorem dX12_looks_77 : decode cX12_looks 77 = .ok (.istore 5, 2) := by decide +kernel
theorem dX12_looks_79 : decode cX12_looks 79 = .ok (.iload 5, 2) := by decide +kernel
theorem dX12_looks_81 : decode cX12_looks 81 = .ok (.ifCond .lt 97, 3) := by decide +kernel
theorem dX12_looks_84 : decode cX12_looks 84 = .ok (.aload_n 0, 1) := by decide +kernel
theorem dX12_looks_85 : decode cX12_looks 85 = .ok (.iload_n 1, 1) := by decide +kernel
theorem dX12_looks_86 : decode cX12_looks 86 = .ok (.iload 5, 2) := by decide +kernel
theorem dX12_looks_88 : decode cX12_looks 88 = .ok (.bipush 8, 2) := by decide +kernel
theorem dX12_looks_90 : decode cX12_looks 90 = .ok (.irem, 1) := by decide +kernel
theorem dX12_looks_91 : decode cX12_looks 91 = .ok (.iload_n 2, 1) := by decide +kernel
theorem dX12_looks_92 : decode cX12_looks 92 = .ok (.invokevirtual 165, 3) := by decide +kernel
theorem dX12_looks_95 : decode cX12_looks 95 = .ok (.istore 6, 2) := by decide +kernel
theorem dX12_looks_97 : decode cX12_looks 97 = .ok (.iload 5, 2) := by decide +kernel
theorem dX12_looks_99 : decode cX12_looks 99 = .ok (.bipush 8, 2) := by decide +kernel
theorem dX12_looks_101 : decode cX12_looks 101 = .ok (.idiv, 1) := by decide +kernel
theorem dX12_looks_102 : decode cX12_looks 102 = .ok (.iconst 4, 1) := by decide +kernel
theorem dX12_looks_103 : decode cX12_looks 103 = .ok (.irem, 1) := by decide +kernel
theorem dX12_looks_104 : decode cX12_looks 104 = .ok (.istore 7, 2) := by decide +kernel
theorem dX12_looks_106 : decode cX12_looks 106 = .ok (.iload 5, 2) := by decide +kernel
theorem dX12_looks_108 : decode cX12_looks 108 = .ok (.bipush 32, 2) := by decide +kernel
theorem dX12_looks_110 : decode cX12_looks 110 = .ok (.idiv, 1) := by decide +kernel
theorem dX12_looks_111 : decode cX12_looks 111 = .ok (.istore 8, 2) := by decide +kernel
theorem dX12_looks_113 : decode cX12_looks 113 = .ok (.aload_n 0, 1) := by decide +kernel
theorem dX12_looks_114 : decode cX12_looks 114 = .ok (.getfield 18, 3) := by decide +kernel
theorem dX12_looks_117 : decode cX12_looks 117 = .ok (.iload_n 3, 1) := by decide +kernel
theorem dX12_looks_118 : decode cX12_looks 118 = .ok (.iload 7, 2) := by decide +kernel
theorem dX12_looks_120 : decode cX12_looks 120 = .ok (.ifCond .ne 18, 3) := by decide +kernel
theorem dX12_looks_123 : decode cX12_looks 123 = .ok (.iload 6, 2) := by decide +kernel
theorem dX12_looks_125 : decode cX12_looks 125 = .ok (.iload 8, 2) := by decide +kernel
theorem dX12_looks_127 : decode cX12_looks 127 = .ok (.if_icmp .ge 7, 3) := by decide +kernel
theorem dX12_looks_130 : decode cX12_looks 130 = .ok (.iconst 1, 1) := by decide +kernel
theorem dX12_looks_131 : decode cX12_looks 131 = .ok (.goto 40, 3) := by decide +kernel
theorem dX12_looks_134 : decode cX12_looks 134 = .ok (.iconst 0, 1) := by decide +kernel
theorem dX12_looks_135 : decode cX12_looks 135 = .ok (.goto 36, 3) := by decide +kernel
theorem dX12_looks_138 : decode cX12_looks 138 = .ok (.iload 7, 2) := by decide +kernel
theorem dX12_looks_140 : decode cX12_looks 140 = .ok (.iconst 1, 1) := by decide +kernel
theorem dX12_looks_141 : decode cX12_looks 141 = .ok (.if_icmp .ne 18, 3) := by decide +kernel
theorem dX12_looks_144 : decode cX12_looks 144 = .ok (.iload 6, 2) := by decide +kernel
theorem dX12_looks_146 : decode cX12_looks 146 = .ok (.iload 8, 2) := by decide +kernel
theorem dX12_looks_148 : decode cX12_looks 148 = .ok (.if_icmp .ne 7, 3) := by decide +kernel
theorem dX12_looks_151 : decode cX12_looks 151 = .ok (.iconst 1, 1) := by decide +kernel
theorem dX12_looks_152 : decode cX12_looks 152 = .ok (.goto 19, 3) := by decide +kernel
theorem dX12_looks_155 : decode cX12_looks 155 = .ok (.iconst 0, 1) := by decide +kernel
theorem dX12_looks_156 : decode cX12_looks 156 = .ok (.goto 15, 3) := by decide +kernel
theorem dX12_looks_159 : decode cX12_looks 159 = .ok (.iload 6, 2) := by decide +kernel
theorem dX12_looks_161 : decode cX12_looks 161 = .ok (.iload 8, 2) := by decide +kernel
theorem dX12_looks_163 : decode cX12_looks 163 = .ok (.if_icmp .le 7, 3) := by decide +kernel
theorem dX12_looks_166 : decode cX12_looks 166 = .ok (.iconst 1, 1) := by decide +kernel
theorem dX12_looks_167 : decode cX12_looks 167 = .ok (.goto 4, 3) := by decide +kernel
theorem dX12_looks_170 : decode cX12_looks 170 = .ok (.iconst 0, 1) := by decide +kernel
theorem dX12_looks_171 : decode cX12_looks 171 = .ok (.bastore, 1) := by decide +kernel
theorem dX12_looks_172 : decode cX12_looks 172 = .ok (.iinc 3 1, 3) := by decide +kernel
theorem dX12_looks_175 : decode cX12_looks 175 = .ok (.goto 207, 3) := by decide +kernel
theorem dX12_looks_178 : decode cX12_looks 178 = .ok (.iload 5, 2) := by decide +kernel
theorem dX12_looks_180 : decode cX12_looks 180 = .ok (.iconst (-1), 1) := by decide +kernel
theorem dX12_looks_181 : decode cX12_looks 181 = .ok (.if_icmp .ne 30, 3) := by decide +kernel
theorem dX12_looks_184 : decode cX12_looks 184 = .ok (.aload_n 0, 1) := by decide +kernel
theorem dX12_looks_185 : decode cX12_looks 185 = .ok (.getfield 18, 3) := by decide +kernel
theorem dX12_looks_188 : decode cX12_looks 188 = .ok (.iload_n 3, 1) := by decide +kernel
theorem dX12_looks_189 : decode cX12_looks 189 = .ok (.iconst 1, 1) := by decide +kernel
theorem dX12_looks_190 : decode cX12_looks 190 = .ok (.isub, 1) := by decide +kernel
theorem dX12_looks_191 : decode cX12_looks 191 = .ok (.aload_n 0, 1) := by decide +kernel
theorem dX12_looks_192 : decode cX12_looks 192 = .ok (.getfield 18, 3) := by decide +kernel
theorem dX12_looks_195 : decode cX12_looks 195 = .ok (.iload_n 3, 1) := by decide +kernel
theorem dX12_looks_196 : decode cX12_looks 196 = .ok (.iconst 1, 1) := by decide +kernel
theorem dX12_looks_197 : decode cX12_looks 197 = .ok (.isub, 1) := by decide +kernel
theorem dX12_looks_198 : decode cX12_looks 198 = .ok (.baload, 1) := by decide +kernel
theorem dX12_looks_199 : decode cX12_looks 199 = .ok (.ifCond .ne 7, 3) := by decide +kernel
theorem dX12_looks_202 : decode cX12_looks 202 = .ok (.iconst 1, 1) := by decide +kernel
theorem dX12_looks_203 : decode cX12_looks 203 = .ok (.goto 4, 3) := by decide +kernel
theorem dX12_looks_206 : decode cX12_looks 206 = .ok (.iconst 0, 1) := by decide +kernel
theorem dX12_looks_207 : decode cX12_looks 207 = .ok (.bastore, 1) := by decide +kernel
theorem dX12_looks_208 : decode cX12_looks 208 = .ok (.goto 174, 3) := by decide +kernel
theorem dX12_looks_211 : decode cX12_looks 211 = .ok (.iload 5, 2) := by decide +kernel
theorem dX12_looks_213 : decode cX12_looks 213 = .ok (.bipush (-10), 2) := by decide +kernel
theorem dX12_looks_215 : decode cX12_looks 215 = .ok (.if_icmp .le 77, 3) := by decide +kernel
theorem dX12_looks_218 : decode cX12_looks 218 = .ok (.iinc 3 (-1), 3) := by decide +kernel
theorem dX12_looks_221 : decode cX12_looks 221 = .ok (.aload_n 0, 1) := by decide +kernel
theorem dX12_looks_222 : decode cX12_looks 222 = .ok (.getfield 18, 3) := by decide +kernel
theorem dX12_looks_225 : decode cX12_looks 225 = .ok (.iload_n 3, 1) := by decide +kernel
theorem dX12_looks_226 : decode cX12_looks 226 = .ok (.iconst 1, 1) := by decide +kernel
theorem dX12_looks_227 : decode cX12_looks 227 = .ok (.isub, 1) := by decide +kernel
theorem dX12_looks_228 : decode cX12_looks 228 = .ok (.iload 5, 2) := by decide +kernel
theorem dX12_looks_230 : decode cX12_looks 230 = .ok (.bipush (-2), 2) := by decide +kernel
theorem dX12_looks_232 : decode cX12_looks 232 = .ok (.if_icmp .ne 31, 3) := by decide +kernel
theorem dX12_looks_235 : decode cX12_looks 235 = .ok (.aload_n 0, 1) := by decide +kernel
theorem dX12_looks_236 : decode cX12_looks 236 = .ok (.getfield 18, 3) := by decide +kernel
theorem dX12_looks_239 : decode cX12_looks 239 = .ok (.iload_n 3, 1) := by decide +kernel
theorem dX12_looks_240 : decode cX12_looks 240 = .ok (.iconst 1, 1) := by decide +kernel
theorem dX12_looks_241 : decode cX12_looks 241 = .ok (.isub, 1) := by decide +kernel
theorem dX12_looks_242 : decode cX12_looks 242 = .ok (.baload, 1) := by decide +kernel
theorem dX12_looks_243 : decode cX12_looks 243 = .ok (.ifCond .eq 16, 3) := by decide +kernel
theorem dX12_looks_246 : decode cX12_looks 246 = .ok (.aload_n 0, 1) := by decide +kernel
theorem dX12_looks_247 : decode cX12_looks 247 = .ok (.getfield 18, 3) := by decide +kernel
theorem dX12_looks_250 : decode cX12_looks 250 = .ok (.iload_n 3, 1) := by decide +kernel
theorem dX12_looks_251 : decode cX12_looks 251 = .ok (.baload, 1) := by decide +kernel
theorem dX12_looks_252 : decode cX12_looks 252 = .ok (.ifCond .eq 7, 3) := by decide +kernel
theorem dX12_looks_255 : decode cX12_looks 255 = .ok (.iconst 1, 1) := by decide +kernel
theorem dX12_looks_256 : decode cX12_looks 256 = .ok (.goto 32, 3) := by decide +kernel
theorem dX12_looks_259 : decode cX12_looks 259 = .ok (.iconst 0, 1) := by decide +kernel
theorem dX12_looks_260 : decode cX12_looks 260 = .ok (.goto 28, 3) := by decide +kernel
theorem dX12_looks_263 : decode cX12_looks 263 = .ok (.aload_n 0, 1) := by decide +kernel
theorem dX12_looks_264 : decode cX12_looks 264 = .ok (.getfield 18, 3) := by decide +kernel
theorem dX12_looks_267 : decode cX12_looks 267 = .ok (.iload_n 3, 1) := by decide +kernel
theorem dX12_looks_268 : decode cX12_looks 268 = .ok (.iconst 1, 1) := by decide +kernel
theorem dX12_looks_269 : decode cX12_looks 269 = .ok (.isub, 1) := by decide +kernel
theorem dX12_looks_270 : decode cX12_looks 270 = .ok (.baload, 1) := by decide +kernel
theorem dX12_looks_271 : decode cX12_looks 271 = .ok (.ifCond .ne 12, 3) := by decide +kernel
theorem dX12_looks_274 : decode cX12_looks 274 = .ok (.aload_n 0, 1) := by decide +kernel
theorem dX12_looks_275 : decode cX12_looks 275 = .ok (.getfield 18, 3) := by decide +kernel
theorem dX12_looks_278 : decode cX12_looks 278 = .ok (.iload_n 3, 1) := by decide +kernel
theorem dX12_looks_279 : decode cX12_looks 279 = .ok (.baload, 1) := by decide +kernel
theorem dX12_looks_280 : decode cX12_looks 280 = .ok (.ifCond .eq 7, 3) := by decide +kernel
theorem dX12_looks_283 : decode cX12_looks 283 = .ok (.iconst 1, 1) := by decide +kernel
theorem dX12_looks_284 : decode cX12_looks 284 = .ok (.goto 4, 3) := by decide +kernel
theorem dX12_looks_287 : decode cX12_looks 287 = .ok (.iconst 0, 1) := by decide +kernel
theorem dX12_looks_288 : decode cX12_looks 288 = .ok (.bastore, 1) := by decide +kernel
theorem dX12_looks_289 : decode cX12_looks 289 = .ok (.goto 93, 3) := by decide +kernel
theorem dX12_looks_292 : decode cX12_looks 292 = .ok (.iconst 0, 1) := by decide +kernel
theorem dX12_looks_293 : decode cX12_looks 293 = .ok (.istore_n 3, 1) := by decide +kernel
theorem dX12_looks_294 : decode cX12_looks 294 = .ok (.bipush (-10), 2) := by decide +kernel
theorem dX12_looks_296 : decode cX12_looks 296 = .ok (.iload 5, 2) := by decide +kernel
theorem dX12_looks_298 : decode cX12_looks 298 = .ok (.isub, 1) := by decide +kernel
theorem dX12_looks_299 : decode cX12_looks 299 = .ok (.istore 6, 2) := by decide +kernel
theorem dX12_looks_301 : decode cX12_looks 301 = .ok (.aload_n 0, 1) := by decide +kernel
theorem dX12_looks_302 : decode cX12_looks 302 = .ok (.getfield 22, 3) := by decide +kernel
theorem dX12_looks_305 : decode cX12_looks 305 = .ok (.iload 6, 2) := by decide +kernel
theorem dX12_looks_307 : decode cX12_looks 307 = .ok (.bipush 100, 2) := by decide +kernel
theorem dX12_looks_309 : decode cX12_looks 309 = .ok (.idiv, 1) := by decide +kernel
theorem dX12_looks_310 : decode cX12_looks 310 = .ok (.dup2, 1) := by decide +kernel
theorem dX12_looks_311 : decode cX12_looks 311 = .ok (.iaload, 1) := by decide +kernel
theorem dX12_looks_312 : decode cX12_looks 312 = .ok (.iconst 1, 1) := by decide +kernel
theorem dX12_looks_313 : decode cX12_looks 313 = .ok (.iadd, 1) := by decide +kernel
theorem dX12_looks_314 : decode cX12_looks 314 = .ok (.iastore, 1) := by decide +kernel
theorem dX12_looks_315 : decode cX12_looks 315 = .ok (.aload_n 0, 1) := by decide +kernel
theorem dX12_looks_316 : decode cX12_looks 316 = .ok (.getfield 25, 3) := by decide +kernel
theorem dX12_looks_319 : decode cX12_looks 319 = .ok (.iload 6, 2) := by decide +kernel
theorem dX12_looks_321 : decode cX12_looks 321 = .ok (.bipush 100, 2) := by decide +kernel
theorem dX12_looks_323 : decode cX12_looks 323 = .ok (.idiv, 1) := by decide +kernel
theorem dX12_looks_324 : decode cX12_looks 324 = .ok (.aload_n 0, 1) := by decide +kernel
theorem dX12_looks_325 : decode cX12_looks 325 = .ok (.getfield 25, 3) := by decide +kernel
theorem dX12_looks_328 : decode cX12_looks 328 = .ok (.iload 6, 2) := by decide +kernel
theorem dX12_looks_330 : decode cX12_looks 330 = .ok (.bipush 100, 2) := by decide +kernel
theorem dX12_looks_332 : decode cX12_looks 332 = .ok (.idiv, 1) := by decide +kernel
theorem dX12_looks_333 : decode cX12_looks 333 = .ok (.baload, 1) := by decide +kernel
theorem dX12_looks_334 : decode cX12_looks 334 = .ok (.ifCond .ne 12, 3) := by decide +kernel
theorem dX12_looks_337 : decode cX12_looks 337 = .ok (.aload_n 0, 1) := by decide +kernel
theorem dX12_looks_338 : decode cX12_looks 338 = .ok (.getfield 18, 3) := by decide +kernel
theorem dX12_looks_341 : decode cX12_looks 341 = .ok (.iconst 0, 1) := by decide +kernel
theorem dX12_looks_342 : decode cX12_looks 342 = .ok (.baload, 1) := by decide +kernel
theorem dX12_looks_343 : decode cX12_looks 343 = .ok (.ifCond .eq 7, 3) := by decide +kernel
theorem dX12_looks_346 : decode cX12_looks 346 = .ok (.iconst 1, 1) := by decide +kernel
theorem dX12_looks_347 : decode cX12_looks 347 = .ok (.goto 4, 3) := by decide +kernel
theorem dX12_looks_350 : decode cX12_looks 350 = .ok (.iconst 0, 1) := by decide +kernel
theorem dX12_looks_351 : decode cX12_looks 351 = .ok (.bastore, 1) := by decide +kernel
theorem dX12_looks_352 : decode cX12_looks 352 = .ok (.aload_n 0, 1) := by decide +kernel
theorem dX12_looks_353 : decode cX12_looks 353 = .ok (.aload_n 0, 1) := by decide +kernel
theorem dX12_looks_354 : decode cX12_looks 354 = .ok (.getfield 162, 3) := by decide +kernel
theorem dX12_looks_357 : decode cX12_looks 357 = .ok (.iconst (-1), 1) := by decide +kernel
theorem dX12_looks_358 : decode cX12_looks 358 = .ok (.if_icmp .ne 17, 3) := by decide +kernel
theorem dX12_looks_361 : decode cX12_looks 361 = .ok (.aload_n 0, 1) := by decide +kernel
theorem dX12_looks_362 : decode cX12_looks 362 = .ok (.getfield 18, 3) := by decide +kernel
theorem dX12_looks_365 : decode cX12_looks 365 = .ok (.iconst 0, 1) := by decide +kernel
theorem dX12_looks_366 : decode cX12_looks 366 = .ok (.baload, 1) := by decide +kernel
theorem dX12_looks_367 : decode cX12_looks 367 = .ok (.ifCond .eq 8, 3) := by decide +kernel
theorem dX12_looks_370 : decode cX12_looks 370 = .ok (.iload 6, 2) := by decide +kernel
theorem dX12_looks_372 : decode cX12_looks 372 = .ok (.goto 7, 3) := by decide +kernel
theorem dX12_looks_375 : decode cX12_looks 375 = .ok (.aload_n 0, 1) := by decide +kernel
theorem dX12_looks_376 : decode cX12_looks 376 = .ok (.getfield 162, 3) := by decide +kernel
theorem dX12_looks_379 : decode cX12_looks 379 = .ok (.putfield 162, 3) := by decide +kernel
theorem dX12_looks_382 : decode cX12_looks 382 = .ok (.iinc 4 1, 3) := by decide +kernel
theorem dX12_looks_385 : decode cX12_looks 385 = .ok (.goto (-340), 3) := by decide +kernel
theorem dX12_looks_388 : decode cX12_looks 388 = .ok (.return_, 1) := by decide +kernel
def f_X12_looks_K388 (S4 : HSt) : Option (HSt) := some S4
def f_X12_looks_J351 (a0 : Nat) (b26 : Nat) (kb45 : (Int32 → Int32 → HSt → Option (HSt))) (v16 : Int32) (x6 : Int32) (y32 : Int32) (S33 : HSt) : Option (HSt) := if y32 = 0 ∨ y32 = 1 then ((sI S33 b26 2 (((-10) - v16) / 100) y32).bind fun S35 => (gI S35 a0 12 12).bind fun v37 => if v37 = (-1) then ((gR S35 a0 12 9).bind fun b44 => (aI S35 b44 2 0).bind fun v47 => if v47 = 0 then ((gI S35 a0 12 12).bind fun v49 => (pV S35 a0 12 12 (.int v49)).bind fun S51 => kb45 0 (x6 + 1) S51) else ((pV S35 a0 12 12 (.int ((-10) - v16))).bind fun S53 => kb45 0 (x6 + 1) S53)) else ((gI S35 a0 12 12).bind fun v40 => (pV S35 a0 12 12 (.int v40)).bind fun S42 => kb45 0 (x6 + 1) S42)) else none
def f_X12_looks_B45 (a0 : Nat) (a1 : Int32) (a2 : Int32) (kx388 : (HSt → Option (HSt))) (kb45 : (Int32 → Int32 → HSt → Option (HSt))) (x5 : Int32) (x6 : Int32) (S7 : HSt) : Option (HSt) := (gR S7 a0 12 1).bind fun b8 => (aI S7 b8 0 (325 + a1)).bind fun v11 => if ((335 + (140 * a1)) + v11) ≤ x6 then (kx388 S7) else ((gR S7 a0 12 1).bind fun b13 => (aI S7 b13 0 x6).bind fun v16 => if v16 < 0 then (if v16 = (-1) then ((gR S7 a0 12 9).bind fun b96 => (gR S7 a0 12 9).bind fun b98 => (aI S7 b98 2 (x5 - 1)).bind fun v101 => if v101 = 0 then ((sI S7 b96 2 (x5 - 1) 1).bind fun S106 => kb45 x5 (x6 + 1) S106) else ((sI S7 b96 2 (x5 - 1) 0).bind fun S104 => kb45 x5 (x6 + 1) S104)) else (if v16 ≤ (-10) then ((gR S7 a0 12 10).bind fun b20 => (aI S7 b20 0 (((-10) - v16) / 100)).bind fun v23 => (sI S7 b20 0 (((-10) - v16) / 100) (v23 + 1)).bind fun S25 => (gR S25 a0 12 11).bind fun b26 => (gR S25 a0 12 11).bind fun b28 => (aI S25 b28 2 (((-10) - v16) / 100)).bind fun v31 => if v31 = 0 then ((gR S25 a0 12 9).bind fun b56 => (aI S25 b56 2 0).bind fun v59 => if v59 = 0 then ((f_X12_looks_J351 a0 b26 kb45 v16 x6) 0 S25) else ((f_X12_looks_J351 a0 b26 kb45 v16 x6) 1 S25)) else ((f_X12_looks_J351 a0 b26 kb45 v16 x6) 1 S25)) else ((gR S7 a0 12 9).bind fun b61 => if v16 = (-2) then ((gR S7 a0 12 9).bind fun b80 => (aI S7 b80 2 ((x5 + (-1)) - 1)).bind fun v83 => if v83 = 0 then ((sI S7 b61 2 ((x5 + (-1)) - 1) 0).bind fun S86 => kb45 (x5 + (-1)) (x6 + 1) S86) else ((gR S7 a0 12 9).bind fun b87 => (aI S7 b87 2 (x5 + (-1))).bind fun v90 => if v90 = 0 then ((sI S7 b61 2 ((x5 + (-1)) - 1) 0).bind fun S93 => kb45 (x5 + (-1)) (x6 + 1) S93) else ((sI S7 b61 2 ((x5 + (-1)) - 1) 1).bind fun S95 => kb45 (x5 + (-1)) (x6 + 1) S95))) else ((gR S7 a0 12 9).bind fun b64 => (aI S7 b64 2 ((x5 + (-1)) - 1)).bind fun v67 => if v67 = 0 then ((gR S7 a0 12 9).bind fun b71 => (aI S7 b71 2 (x5 + (-1))).bind fun v74 => if v74 = 0 then ((sI S7 b61 2 ((x5 + (-1)) - 1) 0).bind fun S77 => kb45 (x5 + (-1)) (x6 + 1) S77) else ((sI S7 b61 2 ((x5 + (-1)) - 1) 1).bind fun S79 => kb45 (x5 + (-1)) (x6 + 1) S79)) else ((sI S7 b61 2 ((x5 + (-1)) - 1) 1).bind fun S70 => kb45 (x5 + (-1)) (x6 + 1) S70))))) else (if gC S7 a0 = some 12 then (bd2 (f_X12_letter S7 a0 a1 (v16 - v16 / 8 * 8) a2) fun v110 S109 => (gR S109 a0 12 9).bind fun b111 => if ((v16 / 8) - (v16 / 8) / 4 * 4) = 0 then (if (v16 / 32) ≤ v110 then ((sI S109 b111 2 x5 0).bind fun S127 => kb45 (x5 + 1) (x6 + 1) S127) else ((sI S109 b111 2 x5 1).bind fun S129 => kb45 (x5 + 1) (x6 + 1) S129)) else (if ((v16 / 8) - (v16 / 8) / 4 * 4) = 1 then (if v110 = (v16 / 32) then ((sI S109 b111 2 x5 1).bind fun S124 => kb45 (x5 + 1) (x6 + 1) S124) else ((sI S109 b111 2 x5 0).bind fun S122 => kb45 (x5 + 1) (x6 + 1) S122)) else (if v110 ≤ (v16 / 32) then ((sI S109 b111 2 x5 0).bind fun S117 => kb45 (x5 + 1) (x6 + 1) S117) else ((sI S109 b111 2 x5 1).bind fun S119 => kb45 (x5 + 1) (x6 + 1) S119)))) else none))
def f_X12_looks_L45 (a0 : Nat) (a1 : Int32) (a2 : Int32) (kx388 : (HSt → Option (HSt))) : Nat → Int32 → Int32 → HSt → Option (HSt)
  | 0, _, _, _ => none
  | n + 1, x5, x6, S => f_X12_looks_B45 a0 a1 a2 kx388 (f_X12_looks_L45 a0 a1 a2 kx388 n) x5 x6 S
def f_X12_looks_K27 (a0 : Nat) (a1 : Int32) (a2 : Int32) (S1 : HSt) : Option (HSt) := (pV S1 a0 12 12 (.int (-1))).bind fun S2 => (f_X12_looks_L45 a0 a1 a2 f_X12_looks_K388 FU) 0 (335 + (140 * a1)) S2
def f_X12_looks_B2 (a0 : Nat) (kx27 : (HSt → Option (HSt))) (kb2 : (Int32 → HSt → Option (HSt))) (x130 : Int32) (S131 : HSt) : Option (HSt) := if 5 ≤ x130 then (kx27 S131) else ((gR S131 a0 12 10).bind fun b133 => (sI S131 b133 0 x130 0).bind fun S136 => (gR S136 a0 12 11).bind fun b137 => (sI S136 b137 2 x130 0).bind fun S140 => kb2 (x130 + 1) S140)
def f_X12_looks_L2 (a0 : Nat) (kx27 : (HSt → Option (HSt))) : Nat → Int32 → HSt → Option (HSt)
  | 0, _, _ => none
  | n + 1, x130, S => f_X12_looks_B2 a0 kx27 (f_X12_looks_L2 a0 kx27 n) x130 S
def f_X12_looks (S : HSt) (a0 : Nat) (a1 : Int32) (a2 : Int32) : Option (HSt) := (f_X12_looks_L2 a0 (f_X12_looks_K27 a0 a1 a2) FU) 0 S
abbrev rm_X12_looks : Room := { frames := 3, cells := 0, slots := 0, locals := 64 }
abbrev w_X12_looks : List Cond := Cond.code yX12_looks cX12_looks 9 none :: lwG
theorem yd_X12_looks : yX12_looks.cls ≠ "java/lang/invoke/MethodHandle" ∧ yX12_looks.cls ≠ "java/lang/invoke/VarHandle" ∧ (parseMethodDescriptor yX12_looks.desc).map (fun d => d.parameters.length) = some 2 := by decide +kernel
theorem ye_X12_looks : yX12_looks.cls = RX12 ∧ yX12_looks.cls ≠ "java/lang/invoke/MethodHandle" ∧ yX12_looks.cls ≠ "java/lang/invoke/VarHandle" ∧ (parseMethodDescriptor yX12_looks.desc).map (fun d => d.parameters.length) = some 2 := by decide +kernel
set_option maxHeartbeats 4000000 in
set_option maxRecDepth 100000 in
theorem c_X12_looks (l : Launch) (D : va_G) (kA ρ : Nat → Nat) (HB : Heap) (S : HSt) (a0 : Nat) (a1 : Int32) (a2 : Int32) (res : HSt) (h : f_X12_looks S a0 a1 a2 = some res) : Met l yX12_looks w_X12_looks rm_X12_looks (hPc D kA ρ HB S [.ref a0, .int a1, .int a2]) (hQv D kA HB S res) 0 0 (hFree HB) := by
  refine Met.ofW (cc := cX12_looks) (maxL := 9) (ret := none) (by decide) rfl ?_
  intro p e s m args below meth c s₁ B hml hv
  obtain ⟨rfl, hE, h0⟩ := hv
  have hx := B.exec
  have hb := B.bytes
  have hr := B.returns
  have hts0 := atoms_spec (ws := w_X12_looks) B.pre
  have hts : ∀ w ∈ lwG, w.before _ s = true := fun w hw => hts0 w (List.mem_cons_of_mem _ hw)
  have hown : s.vm.findClass RX12 = some m.cls := findClass_of_methodNamed B.named
  have hlocks := B.notSynchronized
  have hI : hqX D kA HB S.2 S s.heap [] := ⟨h0, Nat.le_refl _, fun _ q => absurd q List.not_mem_nil⟩
  have hl := lv_entry ([.ref a0, .int a1, .int a2]) (n := 9) (Nat.le_of_ble_eq_true rfl)
  rw [lg_entry_eq]
  generalize (lg_sl ([.ref a0, .int a1, .int a2]) ++ List.replicate (9 - (lg_sl ([.ref a0, .int a1, .int a2])).length) Slot.unset).toArray = ls at hl ⊢
  have hl : lv_has ls 9 [(0, .ref a0), (1, .int a1), (2, .int a2)] := hl
  unfold f_X12_looks at h
  refine lv_iconst (v := 0) hx hb dX12_looks_0 (by decide) ?_
  refine lv_istore_n (lv' := [(3, .int 0), (0, .ref a0), (1, .int a1), (2, .int a2)]) hx hb dX12_looks_1 rfl hl (by decide) rfl (fun ls hl => ?_)
  have hK27 : ∀ (S1 : HSt) (H : Heap) (locs : List Loc) (ls : Array Slot), (f_X12_looks_K27 a0 a1 a2) S1 = some res → hqX D kA HB S.2 S1 H locs → lv_has ls 9 [(0, .ref a0), (1, .int a1), (2, .int a2)] → W p l e rm_X12_looks s m ([.ref a0, .int a1, .int a2] : List Value).toArray below meth c H locs 0 0 (MQ below (hQv D kA HB S res) ([.ref a0, .int a1, .int a2] : List Value).toArray s 0 0 (hFree HB)) (F0 m 27 ls []) := by
    intro S1 H locs ls h hI hl
    unfold f_X12_looks_K27 at h
    refine lv_aload_n hx hb dX12_looks_27 rfl (lv_at hl 0 rfl) ?_
    refine lv_iconst (v := (-1)) hx hb dX12_looks_28 (by decide) ?_
    obtain ⟨S2, g3, h⟩ := hq_bind h
    obtain ⟨fs_g3, hs_g3, hl_g3, e_g3⟩ := pV_at g3
    refine hq_put hx hb hts hown hE hI hs_g3 inG12 tyX12 tyX12_ok nmX12 rfl 12 (by decide) kw_956 rfl (v := .int (-1)) rfl rfl rfl hl_g3 e_g3 dX12_looks_29 (fun H locs hI => ?_)
    refine lv_iconst (v := 0) hx hb dX12_looks_32 (by decide) ?_
    refine lv_istore_n (lv' := [(3, .int 0), (0, .ref a0), (1, .int a1), (2, .int a2)]) hx hb dX12_looks_33 rfl hl (by decide) rfl (fun ls hl => ?_)
    refine lv_sipush (v := 335) hx hb dX12_looks_34 (by decide) ?_
    refine lv_sipush (v := 140) hx hb dX12_looks_37 (by decide) ?_
    refine lv_iload_n hx hb dX12_looks_40 rfl (lv_at hl 2 rfl) ?_
    refine lv_imul hx hb dX12_looks_41 ?_
    refine lv_iadd hx hb dX12_looks_42 ?_
    refine lv_istore (lv' := [(4, .int (335 + (140 * a1))), (3, .int 0), (0, .ref a0), (1, .int a1), (2, .int a2)]) hx hb dX12_looks_43 hl (by decide) rfl (fun ls hl => ?_)
    have hK388 : ∀ (S4 : HSt) (H : Heap) (locs : List Loc) (ls : Array Slot), f_X12_looks_K388 S4 = some res → hqX D kA HB S.2 S4 H locs → lv_has ls 9 [] → W p l e rm_X12_looks s m ([.ref a0, .int a1, .int a2] : List Value).toArray below meth c H locs 0 0 (MQ below (hQv D kA HB S res) ([.ref a0, .int a1, .int a2] : List Value).toArray s 0 0 (hFree HB)) (F0 m 388 ls []) := by
      intro S4 H locs ls h hI hl
      unfold f_X12_looks_K388 at h
      exact hq_vret hx hb hr hlocks h0 hI h dX12_looks_388
    have hL45 : ∀ (n45 : Nat) (x5 : Int32) (x6 : Int32) (S7 : HSt) (H : Heap) (locs : List Loc) (ls : Array Slot), (f_X12_looks_L45 a0 a1 a2 f_X12_looks_K388 n45) x5 x6 S7 = some res → hqX D kA HB S.2 S7 H locs → lv_has ls 9 [(0, .ref a0), (1, .int a1), (2, .int a2), (3, .int x5), (4, .int x6)] → W p l e rm_X12_looks s m ([.ref a0, .int a1, .int a2] : List Value).toArray below meth c H locs 0 0 (MQ below (hQv D kA HB S res) ([.ref a0, .int a1, .int a2] : List Value).toArray s 0 0 (hFree HB)) (F0 m 45 ls []) := by
      intro n45
      induction n45 with
      | zero =>
        intro x5 x6 S7 H locs ls h
        have h : (none : Option (HSt)) = some res := h
        cases h
      | succ n45 ih45 =>
        intro x5 x6 S7 H locs ls h hI hl
        have h : f_X12_looks_B45 a0 a1 a2 f_X12_looks_K388 (f_X12_looks_L45 a0 a1 a2 f_X12_looks_K388 n45) x5 x6 S7 = some res := h
        unfold f_X12_looks_B45 at h
        refine lv_iload hx hb dX12_looks_45 (lv_at hl 4 rfl) ?_
        refine lv_sipush (v := 335) hx hb dX12_looks_47 (by decide) ?_
        refine lv_sipush (v := 140) hx hb dX12_looks_50 (by decide) ?_
        refine lv_iload_n hx hb dX12_looks_53 rfl (lv_at hl 1 rfl) ?_
        refine lv_imul hx hb dX12_looks_54 ?_
        refine lv_iadd hx hb dX12_looks_55 ?_
        refine lv_aload_n hx hb dX12_looks_56 rfl (lv_at hl 0 rfl) ?_
        obtain ⟨b8, g9, h⟩ := hq_bind h
        obtain ⟨fs_g9, hs_g9, hv_g9⟩ := gR_at g9
        refine hq_get hx hb hts hown hE hI hs_g9 inG12 rfl 1 (by decide) kw_945 hv_g9 dX12_looks_57 ?_
        refine lv_sipush (v := 325) hx hb dX12_looks_60 (by decide) ?_
        refine lv_iload_n hx hb dX12_looks_63 rfl (lv_at hl 1 rfl) ?_
        refine lv_iadd hx hb dX12_looks_64 ?_
        obtain ⟨v11, g10, h⟩ := hq_bind h
        refine hq_iald hx hb hE hI g10 dX12_looks_65 ?_
        refine lv_iadd hx hb dX12_looks_66 ?_
        refine lv_icmp_ge (tgt := 388) hx hb dX12_looks_67 (by decide) (fun c12 => ?_) (fun c12 => ?_)
        · have h := hq_t h c12
          exact hK388 S7 _ _ _ h hI (lv_sub hl [] rfl)
        · have h := hq_f h c12
          refine lv_aload_n hx hb dX12_looks_70 rfl (lv_at hl 0 rfl) ?_
          obtain ⟨b13, g14, h⟩ := hq_bind h
          obtain ⟨fs_g14, hs_g14, hv_g14⟩ := gR_at g14
          refine hq_get hx hb hts hown hE hI hs_g14 inG12 rfl 1 (by decide) kw_945 hv_g14 dX12_looks_71 ?_
          refine lv_iload hx hb dX12_looks_74 (lv_at hl 4 rfl) ?_
          obtain ⟨v16, g15, h⟩ := hq_bind h
          refine hq_iald hx hb hE hI g15 dX12_looks_76 ?_
          refine lv_istore (lv' := [(5, .int v16), (0, .ref a0), (1, .int a1), (2, .int a2), (3, .int x5), (4, .int x6)]) hx hb dX12_looks_77 hl (by decide) rfl (fun ls hl => ?_)
          refine lv_iload hx hb dX12_looks_79 (lv_at hl 0 rfl) ?_
          refine lv_if_lt (tgt := 178) hx hb dX12_looks_81 (by decide) (fun c17 => ?_) (fun c17 => ?_)
          · have h := hq_t h c17
            refine lv_iload hx hb dX12_looks_178 (lv_at hl 0 rfl) ?_
            refine lv_iconst (v := (-1)) hx hb dX12_looks_180 (by decide) ?_
            refine lv_icmp_ne (tgt := 211) hx hb dX12_looks_181 (by decide) (fun c18 => ?_) (fun c18 => ?_)
            · have h := hq_f h c18
              refine lv_iload hx hb dX12_looks_211 (lv_at hl 0 rfl) ?_
              refine lv_bipush (v := (-10)) hx hb dX12_looks_213 (by decide) ?_
              refine lv_icmp_le (tgt := 292) hx hb dX12_looks_215 (by decide) (fun c19 => ?_) (fun c19 => ?_)
              · have h := hq_t h c19
                refine lv_iconst (v := 0) hx hb dX12_looks_292 (by decide) ?_
                refine lv_istore_n (lv' := [(3, .int 0), (5, .int v16), (0, .ref a0), (1, .int a1), (2, .int a2), (4, .int x6)]) hx hb dX12_looks_293 rfl hl (by decide) rfl (fun ls hl => ?_)
                refine lv_bipush (v := (-10)) hx hb dX12_looks_294 (by decide) ?_
                refine lv_iload hx hb dX12_looks_296 (lv_at hl 1 rfl) ?_
                refine lv_isub hx hb dX12_looks_298 ?_
                refine lv_istore (lv' := [(6, .int ((-10) - v16)), (3, .int 0), (5, .int v16), (0, .ref a0), (1, .int a1), (2, .int a2), (4, .int x6)]) hx hb dX12_looks_299 hl (by decide) rfl (fun ls hl => ?_)
                refine lv_aload_n hx hb dX12_looks_301 rfl (lv_at hl 3 rfl) ?_
                obtain ⟨b20, g21, h⟩ := hq_bind h
                obtain ⟨fs_g21, hs_g21, hv_g21⟩ := gR_at g21
                refine hq_get hx hb hts hown hE hI hs_g21 inG12 rfl 10 (by decide) kw_954 hv_g21 dX12_looks_302 ?_
                refine lv_iload hx hb dX12_looks_305 (lv_at hl 0 rfl) ?_
                refine lv_bipush (v := 100) hx hb dX12_looks_307 (by decide) ?_
                refine lv_idiv hx hb dX12_looks_309 (by decide) ?_
                refine lv_dup2_11 hx hb dX12_looks_310 rfl rfl ?_
                obtain ⟨v23, g22, h⟩ := hq_bind h
                refine hq_iald hx hb hE hI g22 dX12_looks_311 ?_
                refine lv_iconst (v := 1) hx hb dX12_looks_312 (by decide) ?_
                refine lv_iadd hx hb dX12_looks_313 ?_
                obtain ⟨S25, g24, h⟩ := hq_bind h
                refine hq_iast hx hb hE hI g24 dX12_looks_314 (fun H locs hI => ?_)
                refine lv_aload_n hx hb dX12_looks_315 rfl (lv_at hl 3 rfl) ?_
                obtain ⟨b26, g27, h⟩ := hq_bind h
                obtain ⟨fs_g27, hs_g27, hv_g27⟩ := gR_at g27
                refine hq_get hx hb hts hown hE hI hs_g27 inG12 rfl 11 (by decide) kw_955 hv_g27 dX12_looks_316 ?_
                refine lv_iload hx hb dX12_looks_319 (lv_at hl 0 rfl) ?_
                refine lv_bipush (v := 100) hx hb dX12_looks_321 (by decide) ?_
                refine lv_idiv hx hb dX12_looks_323 (by decide) ?_
                refine lv_aload_n hx hb dX12_looks_324 rfl (lv_at hl 3 rfl) ?_
                obtain ⟨b28, g29, h⟩ := hq_bind h
                obtain ⟨fs_g29, hs_g29, hv_g29⟩ := gR_at g29
                refine hq_get hx hb hts hown hE hI hs_g29 inG12 rfl 11 (by decide) kw_955 hv_g29 dX12_looks_325 ?_
                refine lv_iload hx hb dX12_looks_328 (lv_at hl 0 rfl) ?_
                refine lv_bipush (v := 100) hx hb dX12_looks_330 (by decide) ?_
                refine lv_idiv hx hb dX12_looks_332 (by decide) ?_
                obtain ⟨v31, g30, h⟩ := hq_bind h
                refine hq_zald hx hb hE hI g30 dX12_looks_333 ?_
                have hJ351 : ∀ (y32 : Int32) (S33 : HSt) (H : Heap) (locs : List Loc) (ls : Array Slot), (f_X12_looks_J351 a0 b26 (f_X12_looks_L45 a0 a1 a2 f_X12_looks_K388 n45) v16 x6) y32 S33 = some res → hqX D kA HB S.2 S33 H locs → lv_has ls 9 [(0, .ref a0), (1, .int a1), (2, .int a2), (3, .int 0), (4, .int x6), (6, .int ((-10) - v16))] → W p l e rm_X12_looks s m ([.ref a0, .int a1, .int a2] : List Value).toArray below meth c H locs 0 0 (MQ below (hQv D kA HB S res) ([.ref a0, .int a1, .int a2] : List Value).toArray s 0 0 (hFree HB)) (F0 m 351 ls [.int y32, .int (((-10) - v16) / 100), .ref b26]) := by
                  intro y32 S33 H locs ls h hI hl
                  unfold f_X12_looks_J351 at h
                  obtain ⟨c36, h⟩ := hq_g h
                  obtain ⟨S35, g34, h⟩ := hq_bind h
                  refine hq_zast hx hb hE hI c36 g34 dX12_looks_351 (fun H locs hI => ?_)
                  refine lv_aload_n hx hb dX12_looks_352 rfl (lv_at hl 0 rfl) ?_
                  refine lv_aload_n hx hb dX12_looks_353 rfl (lv_at hl 0 rfl) ?_
                  obtain ⟨v37, g38, h⟩ := hq_bind h
                  obtain ⟨fs_g38, hs_g38, hv_g38⟩ := gI_at g38
                  refine hq_get hx hb hts hown hE hI hs_g38 inG12 rfl 12 (by decide) kw_956 hv_g38 dX12_looks_354 ?_
                  refine lv_iconst (v := (-1)) hx hb dX12_looks_357 (by decide) ?_
                  refine lv_icmp_ne (tgt := 375) hx hb dX12_looks_358 (by decide) (fun c39 => ?_) (fun c39 => ?_)
                  · have h := hq_f h c39
                    refine lv_aload_n hx hb dX12_looks_375 rfl (lv_at hl 0 rfl) ?_
                    obtain ⟨v40, g41, h⟩ := hq_bind h
                    obtain ⟨fs_g41, hs_g41, hv_g41⟩ := gI_at g41
                    refine hq_get hx hb hts hown hE hI hs_g41 inG12 rfl 12 (by decide) kw_956 hv_g41 dX12_looks_376 ?_
                    obtain ⟨S42, g43, h⟩ := hq_bind h
                    obtain ⟨fs_g43, hs_g43, hl_g43, e_g43⟩ := pV_at g43
                    refine hq_put hx hb hts hown hE hI hs_g43 inG12 tyX12 tyX12_ok nmX12 rfl 12 (by decide) kw_956 rfl (v := .int v40) rfl rfl rfl hl_g43 e_g43 dX12_looks_379 (fun H locs hI => ?_)
                    refine lv_iinc (v := (x6 + 1)) (lv' := [(4, .int (x6 + 1)), (0, .ref a0), (1, .int a1), (2, .int a2), (3, .int 0), (6, .int ((-10) - v16))]) hx hb dX12_looks_382 hl (k := 4) rfl rfl (by decide) rfl (fun ls hl => ?_)
                    refine lv_goto (tgt := 45) hx hb dX12_looks_385 (by decide) ?_
                    exact ih45 0 (x6 + 1) S42 _ _ _ h hI (lv_sub hl [1, 2, 3, 4, 0] rfl)
                  · have h := hq_t h c39
                    refine lv_aload_n hx hb dX12_looks_361 rfl (lv_at hl 0 rfl) ?_
                    obtain ⟨b44, g45, h⟩ := hq_bind h
                    obtain ⟨fs_g45, hs_g45, hv_g45⟩ := gR_at g45
                    refine hq_get hx hb hts hown hE hI hs_g45 inG12 rfl 9 (by decide) kw_953 hv_g45 dX12_looks_362 ?_
                    refine lv_iconst (v := 0) hx hb dX12_looks_365 (by decide) ?_
                    obtain ⟨v47, g46, h⟩ := hq_bind h
                    refine hq_zald hx hb hE hI g46 dX12_looks_366 ?_
                    refine lv_if_eq (tgt := 375) hx hb dX12_looks_367 (by decide) (fun c48 => ?_) (fun c48 => ?_)
                    · have h := hq_t h c48
                      refine lv_aload_n hx hb dX12_looks_375 rfl (lv_at hl 0 rfl) ?_
                      obtain ⟨v49, g50, h⟩ := hq_bind h
                      obtain ⟨fs_g50, hs_g50, hv_g50⟩ := gI_at g50
                      refine hq_get hx hb hts hown hE hI hs_g50 inG12 rfl 12 (by decide) kw_956 hv_g50 dX12_looks_376 ?_
                      obtain ⟨S51, g52, h⟩ := hq_bind h
                      obtain ⟨fs_g52, hs_g52, hl_g52, e_g52⟩ := pV_at g52
                      refine hq_put hx hb hts hown hE hI hs_g52 inG12 tyX12 tyX12_ok nmX12 rfl 12 (by decide) kw_956 rfl (v := .int v49) rfl rfl rfl hl_g52 e_g52 dX12_looks_379 (fun H locs hI => ?_)
                      refine lv_iinc (v := (x6 + 1)) (lv' := [(4, .int (x6 + 1)), (0, .ref a0), (1, .int a1), (2, .int a2), (3, .int 0), (6, .int ((-10) - v16))]) hx hb dX12_looks_382 hl (k := 4) rfl rfl (by decide) rfl (fun ls hl => ?_)
                      refine lv_goto (tgt := 45) hx hb dX12_looks_385 (by decide) ?_
                      exact ih45 0 (x6 + 1) S51 _ _ _ h hI (lv_sub hl [1, 2, 3, 4, 0] rfl)
                    · have h := hq_f h c48
                      refine lv_iload hx hb dX12_looks_370 (lv_at hl 5 rfl) ?_
                      refine lv_goto (tgt := 379) hx hb dX12_looks_372 (by decide) ?_
                      obtain ⟨S53, g54, h⟩ := hq_bind h
                      obtain ⟨fs_g54, hs_g54, hl_g54, e_g54⟩ := pV_at g54
                      refine hq_put hx hb hts hown hE hI hs_g54 inG12 tyX12 tyX12_ok nmX12 rfl 12 (by decide) kw_956 rfl (v := .int ((-10) - v16)) rfl rfl rfl hl_g54 e_g54 dX12_looks_379 (fun H locs hI => ?_)
                      refine lv_iinc (v := (x6 + 1)) (lv' := [(4, .int (x6 + 1)), (0, .ref a0), (1, .int a1), (2, .int a2), (3, .int 0), (6, .int ((-10) - v16))]) hx hb dX12_looks_382 hl (k := 4) rfl rfl (by decide) rfl (fun ls hl => ?_)
                      refine lv_goto (tgt := 45) hx hb dX12_looks_385 (by decide) ?_
                      exact ih45 0 (x6 + 1) S53 _ _ _ h hI (lv_sub hl [1, 2, 3, 4, 0] rfl)
                refine lv_if_ne (tgt := 346) hx hb dX12_looks_334 (by decide) (fun c55 => ?_) (fun c55 => ?_)
                · have h := hq_f h c55
                  refine lv_iconst (v := 1) hx hb dX12_looks_346 (by decide) ?_
                  refine lv_goto (tgt := 351) hx hb dX12_looks_347 (by decide) ?_
                  exact hJ351 1 S25 _ _ _ h hI (lv_sub hl [3, 4, 5, 1, 6, 0] rfl)
                · have h := hq_t h c55
                  refine lv_aload_n hx hb dX12_looks_337 rfl (lv_at hl 3 rfl) ?_
                  obtain ⟨b56, g57, h⟩ := hq_bind h
                  obtain ⟨fs_g57, hs_g57, hv_g57⟩ := gR_at g57
                  refine hq_get hx hb hts hown hE hI hs_g57 inG12 rfl 9 (by decide) kw_953 hv_g57 dX12_looks_338 ?_
                  refine lv_iconst (v := 0) hx hb dX12_looks_341 (by decide) ?_
                  obtain ⟨v59, g58, h⟩ := hq_bind h
                  refine hq_zald hx hb hE hI g58 dX12_looks_342 ?_
                  refine lv_if_eq (tgt := 350) hx hb dX12_looks_343 (by decide) (fun c60 => ?_) (fun c60 => ?_)
                  · have h := hq_t h c60
                    refine lv_iconst (v := 0) hx hb dX12_looks_350 (by decide) ?_
                    exact hJ351 0 S25 _ _ _ h hI (lv_sub hl [3, 4, 5, 1, 6, 0] rfl)
                  · have h := hq_f h c60
                    refine lv_iconst (v := 1) hx hb dX12_looks_346 (by decide) ?_
                    refine lv_goto (tgt := 351) hx hb dX12_looks_347 (by decide) ?_
                    exact hJ351 1 S25 _ _ _ h hI (lv_sub hl [3, 4, 5, 1, 6, 0] rfl)
              · have h := hq_f h c19
                refine lv_iinc (v := (x5 + (-1))) (lv' := [(3, .int (x5 + (-1))), (5, .int v16), (0, .ref a0), (1, .int a1), (2, .int a2), (4, .int x6)]) hx hb dX12_looks_218 hl (k := 4) rfl rfl (by decide) rfl (fun ls hl => ?_)
                refine lv_aload_n hx hb dX12_looks_221 rfl (lv_at hl 2 rfl) ?_
                obtain ⟨b61, g62, h⟩ := hq_bind h
                obtain ⟨fs_g62, hs_g62, hv_g62⟩ := gR_at g62
                refine hq_get hx hb hts hown hE hI hs_g62 inG12 rfl 9 (by decide) kw_953 hv_g62 dX12_looks_222 ?_
                refine lv_iload_n hx hb dX12_looks_225 rfl (lv_at hl 0 rfl) ?_
                refine lv_iconst (v := 1) hx hb dX12_looks_226 (by decide) ?_
                refine lv_isub hx hb dX12_looks_227 ?_
                refine lv_iload hx hb dX12_looks_228 (lv_at hl 1 rfl) ?_
                refine lv_bipush (v := (-2)) hx hb dX12_looks_230 (by decide) ?_
                refine lv_icmp_ne (tgt := 263) hx hb dX12_looks_232 (by decide) (fun c63 => ?_) (fun c63 => ?_)
                · have h := hq_f h c63
                  refine lv_aload_n hx hb dX12_looks_263 rfl (lv_at hl 2 rfl) ?_
                  obtain ⟨b64, g65, h⟩ := hq_bind h
                  obtain ⟨fs_g65, hs_g65, hv_g65⟩ := gR_at g65
                  refine hq_get hx hb hts hown hE hI hs_g65 inG12 rfl 9 (by decide) kw_953 hv_g65 dX12_looks_264 ?_
                  refine lv_iload_n hx hb dX12_looks_267 rfl (lv_at hl 0 rfl) ?_
                  refine lv_iconst (v := 1) hx hb dX12_looks_268 (by decide) ?_
                  refine lv_isub hx hb dX12_looks_269 ?_
                  obtain ⟨v67, g66, h⟩ := hq_bind h
                  refine hq_zald hx hb hE hI g66 dX12_looks_270 ?_
                  refine lv_if_ne (tgt := 283) hx hb dX12_looks_271 (by decide) (fun c68 => ?_) (fun c68 => ?_)
                  · have h := hq_f h c68
                    refine lv_iconst (v := 1) hx hb dX12_looks_283 (by decide) ?_
                    refine lv_goto (tgt := 288) hx hb dX12_looks_284 (by decide) ?_
                    obtain ⟨S70, g69, h⟩ := hq_bind h
                    refine hq_zast hx hb hE hI (by decide) g69 dX12_looks_288 (fun H locs hI => ?_)
                    refine lv_goto (tgt := 382) hx hb dX12_looks_289 (by decide) ?_
                    refine lv_iinc (v := (x6 + 1)) (lv' := [(4, .int (x6 + 1)), (3, .int (x5 + (-1))), (5, .int v16), (0, .ref a0), (1, .int a1), (2, .int a2)]) hx hb dX12_looks_382 hl (k := 5) rfl rfl (by decide) rfl (fun ls hl => ?_)
                    refine lv_goto (tgt := 45) hx hb dX12_looks_385 (by decide) ?_
                    exact ih45 (x5 + (-1)) (x6 + 1) S70 _ _ _ h hI (lv_sub hl [3, 4, 5, 1, 0] rfl)
                  · have h := hq_t h c68
                    refine lv_aload_n hx hb dX12_looks_274 rfl (lv_at hl 2 rfl) ?_
                    obtain ⟨b71, g72, h⟩ := hq_bind h
                    obtain ⟨fs_g72, hs_g72, hv_g72⟩ := gR_at g72
                    refine hq_get hx hb hts hown hE hI hs_g72 inG12 rfl 9 (by decide) kw_953 hv_g72 dX12_looks_275 ?_
                    refine lv_iload_n hx hb dX12_looks_278 rfl (lv_at hl 0 rfl) ?_
                    obtain ⟨v74, g73, h⟩ := hq_bind h
                    refine hq_zald hx hb hE hI g73 dX12_looks_279 ?_
                    refine lv_if_eq (tgt := 287) hx hb dX12_looks_280 (by decide) (fun c75 => ?_) (fun c75 => ?_)
                    · have h := hq_t h c75
                      refine lv_iconst (v := 0) hx hb dX12_looks_287 (by decide) ?_
                      obtain ⟨S77, g76, h⟩ := hq_bind h
                      refine hq_zast hx hb hE hI (by decide) g76 dX12_looks_288 (fun H locs hI => ?_)
                      refine lv_goto (tgt := 382) hx hb dX12_looks_289 (by decide) ?_
                      refine lv_iinc (v := (x6 + 1)) (lv' := [(4, .int (x6 + 1)), (3, .int (x5 + (-1))), (5, .int v16), (0, .ref a0), (1, .int a1), (2, .int a2)]) hx hb dX12_looks_382 hl (k := 5) rfl rfl (by decide) rfl (fun ls hl => ?_)
                      refine lv_goto (tgt := 45) hx hb dX12_looks_385 (by decide) ?_
                      exact ih45 (x5 + (-1)) (x6 + 1) S77 _ _ _ h hI (lv_sub hl [3, 4, 5, 1, 0] rfl)
                    · have h := hq_f h c75
                      refine lv_iconst (v := 1) hx hb dX12_looks_283 (by decide) ?_
                      refine lv_goto (tgt := 288) hx hb dX12_looks_284 (by decide) ?_
                      obtain ⟨S79, g78, h⟩ := hq_bind h
                      refine hq_zast hx hb hE hI (by decide) g78 dX12_looks_288 (fun H locs hI => ?_)
                      refine lv_goto (tgt := 382) hx hb dX12_looks_289 (by decide) ?_
                      refine lv_iinc (v := (x6 + 1)) (lv' := [(4, .int (x6 + 1)), (3, .int (x5 + (-1))), (5, .int v16), (0, .ref a0), (1, .int a1), (2, .int a2)]) hx hb dX12_looks_382 hl (k := 5) rfl rfl (by decide) rfl (fun ls hl => ?_)
                      refine lv_goto (tgt := 45) hx hb dX12_looks_385 (by decide) ?_
                      exact ih45 (x5 + (-1)) (x6 + 1) S79 _ _ _ h hI (lv_sub hl [3, 4, 5, 1, 0] rfl)
                · have h := hq_t h c63
                  refine lv_aload_n hx hb dX12_looks_235 rfl (lv_at hl 2 rfl) ?_
                  obtain ⟨b80, g81, h⟩ := hq_bind h
                  obtain ⟨fs_g81, hs_g81, hv_g81⟩ := gR_at g81
                  refine hq_get hx hb hts hown hE hI hs_g81 inG12 rfl 9 (by decide) kw_953 hv_g81 dX12_looks_236 ?_
                  refine lv_iload_n hx hb dX12_looks_239 rfl (lv_at hl 0 rfl) ?_
                  refine lv_iconst (v := 1) hx hb dX12_looks_240 (by decide) ?_
                  refine lv_isub hx hb dX12_looks_241 ?_
                  obtain ⟨v83, g82, h⟩ := hq_bind h
                  refine hq_zald hx hb hE hI g82 dX12_looks_242 ?_
                  refine lv_if_eq (tgt := 259) hx hb dX12_looks_243 (by decide) (fun c84 => ?_) (fun c84 => ?_)
                  · have h := hq_t h c84
                    refine lv_iconst (v := 0) hx hb dX12_looks_259 (by decide) ?_
                    refine lv_goto (tgt := 288) hx hb dX12_looks_260 (by decide) ?_
                    obtain ⟨S86, g85, h⟩ := hq_bind h
                    refine hq_zast hx hb hE hI (by decide) g85 dX12_looks_288 (fun H locs hI => ?_)
                    refine lv_goto (tgt := 382) hx hb dX12_looks_289 (by decide) ?_
                    refine lv_iinc (v := (x6 + 1)) (lv' := [(4, .int (x6 + 1)), (3, .int (x5 + (-1))), (5, .int v16), (0, .ref a0), (1, .int a1), (2, .int a2)]) hx hb dX12_looks_382 hl (k := 5) rfl rfl (by decide) rfl (fun ls hl => ?_)
                    refine lv_goto (tgt := 45) hx hb dX12_looks_385 (by decide) ?_
                    exact ih45 (x5 + (-1)) (x6 + 1) S86 _ _ _ h hI (lv_sub hl [3, 4, 5, 1, 0] rfl)
                  · have h := hq_f h c84
                    refine lv_aload_n hx hb dX12_looks_246 rfl (lv_at hl 2 rfl) ?_
                    obtain ⟨b87, g88, h⟩ := hq_bind h
                    obtain ⟨fs_g88, hs_g88, hv_g88⟩ := gR_at g88
                    refine hq_get hx hb hts hown hE hI hs_g88 inG12 rfl 9 (by decide) kw_953 hv_g88 dX12_looks_247 ?_
                    refine lv_iload_n hx hb dX12_looks_250 rfl (lv_at hl 0 rfl) ?_
                    obtain ⟨v90, g89, h⟩ := hq_bind h
                    refine hq_zald hx hb hE hI g89 dX12_looks_251 ?_
                    refine lv_if_eq (tgt := 259) hx hb dX12_looks_252 (by decide) (fun c91 => ?_) (fun c91 => ?_)
                    · have h := hq_t h c91
                      refine lv_iconst (v := 0) hx hb dX12_looks_259 (by decide) ?_
                      refine lv_goto (tgt := 288) hx hb dX12_looks_260 (by decide) ?_
                      obtain ⟨S93, g92, h⟩ := hq_bind h
                      refine hq_zast hx hb hE hI (by decide) g92 dX12_looks_288 (fun H locs hI => ?_)
                      refine lv_goto (tgt := 382) hx hb dX12_looks_289 (by decide) ?_
                      refine lv_iinc (v := (x6 + 1)) (lv' := [(4, .int (x6 + 1)), (3, .int (x5 + (-1))), (5, .int v16), (0, .ref a0), (1, .int a1), (2, .int a2)]) hx hb dX12_looks_382 hl (k := 5) rfl rfl (by decide) rfl (fun ls hl => ?_)
                      refine lv_goto (tgt := 45) hx hb dX12_looks_385 (by decide) ?_
                      exact ih45 (x5 + (-1)) (x6 + 1) S93 _ _ _ h hI (lv_sub hl [3, 4, 5, 1, 0] rfl)
                    · have h := hq_f h c91
                      refine lv_iconst (v := 1) hx hb dX12_looks_255 (by decide) ?_
                      refine lv_goto (tgt := 288) hx hb dX12_looks_256 (by decide) ?_
                      obtain ⟨S95, g94, h⟩ := hq_bind h
                      refine hq_zast hx hb hE hI (by decide) g94 dX12_looks_288 (fun H locs hI => ?_)
                      refine lv_goto (tgt := 382) hx hb dX12_looks_289 (by decide) ?_
                      refine lv_iinc (v := (x6 + 1)) (lv' := [(4, .int (x6 + 1)), (3, .int (x5 + (-1))), (5, .int v16), (0, .ref a0), (1, .int a1), (2, .int a2)]) hx hb dX12_looks_382 hl (k := 5) rfl rfl (by decide) rfl (fun ls hl => ?_)
                      refine lv_goto (tgt := 45) hx hb dX12_looks_385 (by decide) ?_
                      exact ih45 (x5 + (-1)) (x6 + 1) S95 _ _ _ h hI (lv_sub hl [3, 4, 5, 1, 0] rfl)
            · have h := hq_t h c18
              refine lv_aload_n hx hb dX12_looks_184 rfl (lv_at hl 1 rfl) ?_
              obtain ⟨b96, g97, h⟩ := hq_bind h
              obtain ⟨fs_g97, hs_g97, hv_g97⟩ := gR_at g97
              refine hq_get hx hb hts hown hE hI hs_g97 inG12 rfl 9 (by decide) kw_953 hv_g97 dX12_looks_185 ?_
              refine lv_iload_n hx hb dX12_looks_188 rfl (lv_at hl 4 rfl) ?_
              refine lv_iconst (v := 1) hx hb dX12_looks_189 (by decide) ?_
              refine lv_isub hx hb dX12_looks_190 ?_
              refine lv_aload_n hx hb dX12_looks_191 rfl (lv_at hl 1 rfl) ?_
              obtain ⟨b98, g99, h⟩ := hq_bind h
              obtain ⟨fs_g99, hs_g99, hv_g99⟩ := gR_at g99
              refine hq_get hx hb hts hown hE hI hs_g99 inG12 rfl 9 (by decide) kw_953 hv_g99 dX12_looks_192 ?_
              refine lv_iload_n hx hb dX12_looks_195 rfl (lv_at hl 4 rfl) ?_
              refine lv_iconst (v := 1) hx hb dX12_looks_196 (by decide) ?_
              refine lv_isub hx hb dX12_looks_197 ?_
              obtain ⟨v101, g100, h⟩ := hq_bind h
              refine hq_zald hx hb hE hI g100 dX12_looks_198 ?_
              refine lv_if_ne (tgt := 206) hx hb dX12_looks_199 (by decide) (fun c102 => ?_) (fun c102 => ?_)
              · have h := hq_f h c102
                refine lv_iconst (v := 0) hx hb dX12_looks_206 (by decide) ?_
                obtain ⟨S104, g103, h⟩ := hq_bind h
                refine hq_zast hx hb hE hI (by decide) g103 dX12_looks_207 (fun H locs hI => ?_)
                refine lv_goto (tgt := 382) hx hb dX12_looks_208 (by decide) ?_
                refine lv_iinc (v := (x6 + 1)) (lv' := [(4, .int (x6 + 1)), (5, .int v16), (0, .ref a0), (1, .int a1), (2, .int a2), (3, .int x5)]) hx hb dX12_looks_382 hl (k := 5) rfl rfl (by decide) rfl (fun ls hl => ?_)
                refine lv_goto (tgt := 45) hx hb dX12_looks_385 (by decide) ?_
                exact ih45 x5 (x6 + 1) S104 _ _ _ h hI (lv_sub hl [2, 3, 4, 5, 0] rfl)
              · have h := hq_t h c102
                refine lv_iconst (v := 1) hx hb dX12_looks_202 (by decide) ?_
                refine lv_goto (tgt := 207) hx hb dX12_looks_203 (by decide) ?_
                obtain ⟨S106, g105, h⟩ := hq_bind h
                refine hq_zast hx hb hE hI (by decide) g105 dX12_looks_207 (fun H locs hI => ?_)
                refine lv_goto (tgt := 382) hx hb dX12_looks_208 (by decide) ?_
                refine lv_iinc (v := (x6 + 1)) (lv' := [(4, .int (x6 + 1)), (5, .int v16), (0, .ref a0), (1, .int a1), (2, .int a2), (3, .int x5)]) hx hb dX12_looks_382 hl (k := 5) rfl rfl (by decide) rfl (fun ls hl => ?_)
                refine lv_goto (tgt := 45) hx hb dX12_looks_385 (by decide) ?_
                exact ih45 x5 (x6 + 1) S106 _ _ _ h hI (lv_sub hl [2, 3, 4, 5, 0] rfl)
          · have h := hq_f h c17
            refine lv_aload_n hx hb dX12_looks_84 rfl (lv_at hl 1 rfl) ?_
            refine lv_iload_n hx hb dX12_looks_85 rfl (lv_at hl 2 rfl) ?_
            refine lv_iload hx hb dX12_looks_86 (lv_at hl 0 rfl) ?_
            refine lv_bipush (v := 8) hx hb dX12_looks_88 (by decide) ?_
            refine lv_irem hx hb dX12_looks_90 (by decide) ?_
            refine lv_iload_n hx hb dX12_looks_91 rfl (lv_at hl 3 rfl) ?_
            obtain ⟨g108, h⟩ := hq_g h
            obtain ⟨v110, S109, g107, h⟩ := hq_bd2 h
            refine hq_calli hI (va_runV (As := [.int a1, .int (v16 - v16 / 8 * 8), .int a2]) (rest := []) ⟨hx, hb, hml, hown, hts⟩ (c_X12_letter l D kA ρ HB S7 a0 a1 (v16 - v16 / 8 * 8) a2 _ g107) (cwV 3 hts (gdIn (List.forall_mem_cons.mpr ⟨kw_1149, (List.forall_mem_cons.mpr ⟨kw_1151, (List.forall_mem_cons.mpr ⟨ks_52, (List.forall_mem_cons.mpr ⟨kw_6, (fun _ h => absurd h List.not_mem_nil)⟩)⟩)⟩)⟩) kw_1152) rfl rfl rfl ye_X12_letter ⟨Nat.le_of_ble_eq_true rfl, Nat.le_of_ble_eq_true rfl⟩) (hq_preC hE hI g108 rfl _) rfl rfl hl.1 rfl (lv_room (Nat.le_of_ble_eq_true rfl)) dX12_looks_92 ⟨Nat.le_of_ble_eq_true rfl, Nat.le_of_ble_eq_true rfl⟩) (fun H locs hI => ?_)
            refine lv_istore (lv' := [(6, .int v110), (5, .int v16), (0, .ref a0), (1, .int a1), (2, .int a2), (3, .int x5), (4, .int x6)]) hx hb dX12_looks_95 hl (by decide) rfl (fun ls hl => ?_)
            refine lv_iload hx hb dX12_looks_97 (lv_at hl 1 rfl) ?_
            refine lv_bipush (v := 8) hx hb dX12_looks_99 (by decide) ?_
            refine lv_idiv hx hb dX12_looks_101 (by decide) ?_
            refine lv_iconst (v := 4) hx hb dX12_looks_102 (by decide) ?_
            refine lv_irem hx hb dX12_looks_103 (by decide) ?_
            refine lv_istore (lv' := [(7, .int ((v16 / 8) - (v16 / 8) / 4 * 4)), (6, .int v110), (5, .int v16), (0, .ref a0), (1, .int a1), (2, .int a2), (3, .int x5), (4, .int x6)]) hx hb dX12_looks_104 hl (by decide) rfl (fun ls hl => ?_)
            refine lv_iload hx hb dX12_looks_106 (lv_at hl 2 rfl) ?_
            refine lv_bipush (v := 32) hx hb dX12_looks_108 (by decide) ?_
            refine lv_idiv hx hb dX12_looks_110 (by decide) ?_
            refine lv_istore (lv' := [(8, .int (v16 / 32)), (7, .int ((v16 / 8) - (v16 / 8) / 4 * 4)), (6, .int v110), (5, .int v16), (0, .ref a0), (1, .int a1), (2, .int a2), (3, .int x5), (4, .int x6)]) hx hb dX12_looks_111 hl (by decide) rfl (fun ls hl => ?_)
            refine lv_aload_n hx hb dX12_looks_113 rfl (lv_at hl 4 rfl) ?_
            obtain ⟨b111, g112, h⟩ := hq_bind h
            obtain ⟨fs_g112, hs_g112, hv_g112⟩ := gR_at g112
            refine hq_get hx hb hts hown hE hI hs_g112 inG12 rfl 9 (by decide) kw_953 hv_g112 dX12_looks_114 ?_
            refine lv_iload_n hx hb dX12_looks_117 rfl (lv_at hl 7 rfl) ?_
            refine lv_iload hx hb dX12_looks_118 (lv_at hl 1 rfl) ?_
            refine lv_if_ne (tgt := 138) hx hb dX12_looks_120 (by decide) (fun c113 => ?_) (fun c113 => ?_)
            · have h := hq_f h c113
              refine lv_iload hx hb dX12_looks_138 (lv_at hl 1 rfl) ?_
              refine lv_iconst (v := 1) hx hb dX12_looks_140 (by decide) ?_
              refine lv_icmp_ne (tgt := 159) hx hb dX12_looks_141 (by decide) (fun c114 => ?_) (fun c114 => ?_)
              · have h := hq_f h c114
                refine lv_iload hx hb dX12_looks_159 (lv_at hl 2 rfl) ?_
                refine lv_iload hx hb dX12_looks_161 (lv_at hl 0 rfl) ?_
                refine lv_icmp_le (tgt := 170) hx hb dX12_looks_163 (by decide) (fun c115 => ?_) (fun c115 => ?_)
                · have h := hq_t h c115
                  refine lv_iconst (v := 0) hx hb dX12_looks_170 (by decide) ?_
                  obtain ⟨S117, g116, h⟩ := hq_bind h
                  refine hq_zast hx hb hE hI (by decide) g116 dX12_looks_171 (fun H locs hI => ?_)
                  refine lv_iinc (v := (x5 + 1)) (lv' := [(3, .int (x5 + 1)), (8, .int (v16 / 32)), (7, .int ((v16 / 8) - (v16 / 8) / 4 * 4)), (6, .int v110), (5, .int v16), (0, .ref a0), (1, .int a1), (2, .int a2), (4, .int x6)]) hx hb dX12_looks_172 hl (k := 7) rfl rfl (by decide) rfl (fun ls hl => ?_)
                  refine lv_goto (tgt := 382) hx hb dX12_looks_175 (by decide) ?_
                  refine lv_iinc (v := (x6 + 1)) (lv' := [(4, .int (x6 + 1)), (3, .int (x5 + 1)), (8, .int (v16 / 32)), (7, .int ((v16 / 8) - (v16 / 8) / 4 * 4)), (6, .int v110), (5, .int v16), (0, .ref a0), (1, .int a1), (2, .int a2)]) hx hb dX12_looks_382 hl (k := 8) rfl rfl (by decide) rfl (fun ls hl => ?_)
                  refine lv_goto (tgt := 45) hx hb dX12_looks_385 (by decide) ?_
                  exact ih45 (x5 + 1) (x6 + 1) S117 _ _ _ h hI (lv_sub hl [6, 7, 8, 1, 0] rfl)
                · have h := hq_f h c115
                  refine lv_iconst (v := 1) hx hb dX12_looks_166 (by decide) ?_
                  refine lv_goto (tgt := 171) hx hb dX12_looks_167 (by decide) ?_
                  obtain ⟨S119, g118, h⟩ := hq_bind h
                  refine hq_zast hx hb hE hI (by decide) g118 dX12_looks_171 (fun H locs hI => ?_)
                  refine lv_iinc (v := (x5 + 1)) (lv' := [(3, .int (x5 + 1)), (8, .int (v16 / 32)), (7, .int ((v16 / 8) - (v16 / 8) / 4 * 4)), (6, .int v110), (5, .int v16), (0, .ref a0), (1, .int a1), (2, .int a2), (4, .int x6)]) hx hb dX12_looks_172 hl (k := 7) rfl rfl (by decide) rfl (fun ls hl => ?_)
                  refine lv_goto (tgt := 382) hx hb dX12_looks_175 (by decide) ?_
                  refine lv_iinc (v := (x6 + 1)) (lv' := [(4, .int (x6 + 1)), (3, .int (x5 + 1)), (8, .int (v16 / 32)), (7, .int ((v16 / 8) - (v16 / 8) / 4 * 4)), (6, .int v110), (5, .int v16), (0, .ref a0), (1, .int a1), (2, .int a2)]) hx hb dX12_looks_382 hl (k := 8) rfl rfl (by decide) rfl (fun ls hl => ?_)
                  refine lv_goto (tgt := 45) hx hb dX12_looks_385 (by decide) ?_
                  exact ih45 (x5 + 1) (x6 + 1) S119 _ _ _ h hI (lv_sub hl [6, 7, 8, 1, 0] rfl)
              · have h := hq_t h c114
                refine lv_iload hx hb dX12_looks_144 (lv_at hl 2 rfl) ?_
                refine lv_iload hx hb dX12_looks_146 (lv_at hl 0 rfl) ?_
                refine lv_icmp_ne (tgt := 155) hx hb dX12_looks_148 (by decide) (fun c120 => ?_) (fun c120 => ?_)
                · have h := hq_f h c120
                  refine lv_iconst (v := 0) hx hb dX12_looks_155 (by decide) ?_
                  refine lv_goto (tgt := 171) hx hb dX12_looks_156 (by decide) ?_
                  obtain ⟨S122, g121, h⟩ := hq_bind h
                  refine hq_zast hx hb hE hI (by decide) g121 dX12_looks_171 (fun H locs hI => ?_)
                  refine lv_iinc (v := (x5 + 1)) (lv' := [(3, .int (x5 + 1)), (8, .int (v16 / 32)), (7, .int ((v16 / 8) - (v16 / 8) / 4 * 4)), (6, .int v110), (5, .int v16), (0, .ref a0), (1, .int a1), (2, .int a2), (4, .int x6)]) hx hb dX12_looks_172 hl (k := 7) rfl rfl (by decide) rfl (fun ls hl => ?_)
                  refine lv_goto (tgt := 382) hx hb dX12_looks_175 (by decide) ?_
                  refine lv_iinc (v := (x6 + 1)) (lv' := [(4, .int (x6 + 1)), (3, .int (x5 + 1)), (8, .int (v16 / 32)), (7, .int ((v16 / 8) - (v16 / 8) / 4 * 4)), (6, .int v110), (5, .int v16), (0, .ref a0), (1, .int a1), (2, .int a2)]) hx hb dX12_looks_382 hl (k := 8) rfl rfl (by decide) rfl (fun ls hl => ?_)
                  refine lv_goto (tgt := 45) hx hb dX12_looks_385 (by decide) ?_
                  exact ih45 (x5 + 1) (x6 + 1) S122 _ _ _ h hI (lv_sub hl [6, 7, 8, 1, 0] rfl)
                · have h := hq_t h c120
                  refine lv_iconst (v := 1) hx hb dX12_looks_151 (by decide) ?_
                  refine lv_goto (tgt := 171) hx hb dX12_looks_152 (by decide) ?_
                  obtain ⟨S124, g123, h⟩ := hq_bind h
                  refine hq_zast hx hb hE hI (by decide) g123 dX12_looks_171 (fun H locs hI => ?_)
                  refine lv_iinc (v := (x5 + 1)) (lv' := [(3, .int (x5 + 1)), (8, .int (v16 / 32)), (7, .int ((v16 / 8) - (v16 / 8) / 4 * 4)), (6, .int v110), (5, .int v16), (0, .ref a0), (1, .int a1), (2, .int a2), (4, .int x6)]) hx hb dX12_looks_172 hl (k := 7) rfl rfl (by decide) rfl (fun ls hl => ?_)
                  refine lv_goto (tgt := 382) hx hb dX12_looks_175 (by decide) ?_
                  refine lv_iinc (v := (x6 + 1)) (lv' := [(4, .int (x6 + 1)), (3, .int (x5 + 1)), (8, .int (v16 / 32)), (7, .int ((v16 / 8) - (v16 / 8) / 4 * 4)), (6, .int v110), (5, .int v16), (0, .ref a0), (1, .int a1), (2, .int a2)]) hx hb dX12_looks_382 hl (k := 8) rfl rfl (by decide) rfl (fun ls hl => ?_)
                  refine lv_goto (tgt := 45) hx hb dX12_looks_385 (by decide) ?_
                  exact ih45 (x5 + 1) (x6 + 1) S124 _ _ _ h hI (lv_sub hl [6, 7, 8, 1, 0] rfl)
            · have h := hq_t h c113
              refine lv_iload hx hb dX12_looks_123 (lv_at hl 2 rfl) ?_
              refine lv_iload hx hb dX12_looks_125 (lv_at hl 0 rfl) ?_
              refine lv_icmp_ge (tgt := 134) hx hb dX12_looks_127 (by decide) (fun c125 => ?_) (fun c125 => ?_)
              · have h := hq_t h c125
                refine lv_iconst (v := 0) hx hb dX12_looks_134 (by decide) ?_
                refine lv_goto (tgt := 171) hx hb dX12_looks_135 (by decide) ?_
                obtain ⟨S127, g126, h⟩ := hq_bind h
                refine hq_zast hx hb hE hI (by decide) g126 dX12_looks_171 (fun H locs hI => ?_)
                refine lv_iinc (v := (x5 + 1)) (lv' := [(3, .int (x5 + 1)), (8, .int (v16 / 32)), (7, .int ((v16 / 8) - (v16 / 8) / 4 * 4)), (6, .int v110), (5, .int v16), (0, .ref a0), (1, .int a1), (2, .int a2), (4, .int x6)]) hx hb dX12_looks_172 hl (k := 7) rfl rfl (by decide) rfl (fun ls hl => ?_)
                refine lv_goto (tgt := 382) hx hb dX12_looks_175 (by decide) ?_
                refine lv_iinc (v := (x6 + 1)) (lv' := [(4, .int (x6 + 1)), (3, .int (x5 + 1)), (8, .int (v16 / 32)), (7, .int ((v16 / 8) - (v16 / 8) / 4 * 4)), (6, .int v110), (5, .int v16), (0, .ref a0), (1, .int a1), (2, .int a2)]) hx hb dX12_looks_382 hl (k := 8) rfl rfl (by decide) rfl (fun ls hl => ?_)
                refine lv_goto (tgt := 45) hx hb dX12_looks_385 (by decide) ?_
                exact ih45 (x5 + 1) (x6 + 1) S127 _ _ _ h hI (lv_sub hl [6, 7, 8, 1, 0] rfl)
              · have h := hq_f h c125
                refine lv_iconst (v := 1) hx hb dX12_looks_130 (by decide) ?_
                refine lv_goto (tgt := 171) hx hb dX12_looks_131 (by decide) ?_
                obtain ⟨S129, g128, h⟩ := hq_bind h
                refine hq_zast hx hb hE hI (by decide) g128 dX12_looks_171 (fun H locs hI => ?_)
                refine lv_iinc (v := (x5 + 1)) (lv' := [(3, .int (x5 + 1)), (8, .int (v16 / 32)), (7, .int ((v16 / 8) - (v16 / 8) / 4 * 4)), (6, .int v110), (5, .int v16), (0, .ref a0), (1, .int a1), (2, .int a2), (4, .int x6)]) hx hb dX12_looks_172 hl (k := 7) rfl rfl (by decide) rfl (fun ls hl => ?_)
                refine lv_goto (tgt := 382) hx hb dX12_looks_175 (by decide) ?_
                refine lv_iinc (v := (x6 + 1)) (lv' := [(4, .int (x6 + 1)), (3, .int (x5 + 1)), (8, .int (v16 / 32)), (7, .int ((v16 / 8) - (v16 / 8) / 4 * 4)), (6, .int v110), (5, .int v16), (0, .ref a0), (1, .int a1), (2, .int a2)]) hx hb dX12_looks_382 hl (k := 8) rfl rfl (by decide) rfl (fun ls hl => ?_)
                refine lv_goto (tgt := 45) hx hb dX12_looks_385 (by decide) ?_
                exact ih45 (x5 + 1) (x6 + 1) S129 _ _ _ h hI (lv_sub hl [6, 7, 8, 1, 0] rfl)
    exact hL45 FU 0 (335 + (140 * a1)) S2 _ _ _ h hI (lv_sub hl [2, 3, 4, 1, 0] rfl)
  have hL2 : ∀ (n2 : Nat) (x130 : Int32) (S131 : HSt) (H : Heap) (locs : List Loc) (ls : Array Slot), (f_X12_looks_L2 a0 (f_X12_looks_K27 a0 a1 a2) n2) x130 S131 = some res → hqX D kA HB S.2 S131 H locs → lv_has ls 9 [(0, .ref a0), (1, .int a1), (2, .int a2), (3, .int x130)] → W p l e rm_X12_looks s m ([.ref a0, .int a1, .int a2] : List Value).toArray below meth c H locs 0 0 (MQ below (hQv D kA HB S res) ([.ref a0, .int a1, .int a2] : List Value).toArray s 0 0 (hFree HB)) (F0 m 2 ls []) := by
    intro n2
    induction n2 with
    | zero =>
      intro x130 S131 H locs ls h
      have h : (none : Option (HSt)) = some res := h
      cases h
    | succ n2 ih2 =>
      intro x130 S131 H locs ls h hI hl
      have h : f_X12_looks_B2 a0 (f_X12_looks_K27 a0 a1 a2) (f_X12_looks_L2 a0 (f_X12_looks_K27 a0 a1 a2) n2) x130 S131 = some res := h
      unfold f_X12_looks_B2 at h
      refine lv_iload_n hx hb dX12_looks_2 rfl (lv_at hl 3 rfl) ?_
      refine lv_iconst (v := 5) hx hb dX12_looks_3 (by decide) ?_
      refine lv_icmp_ge (tgt := 27) hx hb dX12_looks_4 (by decide) (fun c132 => ?_) (fun c132 => ?_)
      · have h := hq_t h c132
        exact hK27 S131 _ _ _ h hI (lv_sub hl [0, 1, 2] rfl)
      · have h := hq_f h c132
        refine lv_aload_n hx hb dX12_looks_7 rfl (lv_at hl 0 rfl) ?_
        obtain ⟨b133, g134, h⟩ := hq_bind h
        obtain ⟨fs_g134, hs_g134, hv_g134⟩ := gR_at g134
        refine hq_get hx hb hts hown hE hI hs_g134 inG12 rfl 10 (by decide) kw_954 hv_g134 dX12_looks_8 ?_
        refine lv_iload_n hx hb dX12_looks_11 rfl (lv_at hl 3 rfl) ?_
        refine lv_iconst (v := 0) hx hb dX12_looks_12 (by decide) ?_
        obtain ⟨S136, g135, h⟩ := hq_bind h
        refine hq_iast hx hb hE hI g135 dX12_looks_13 (fun H locs hI => ?_)
        refine lv_aload_n hx hb dX12_looks_14 rfl (lv_at hl 0 rfl) ?_
        obtain ⟨b137, g138, h⟩ := hq_bind h
        obtain ⟨fs_g138, hs_g138, hv_g138⟩ := gR_at g138
        refine hq_get hx hb hts hown hE hI hs_g138 inG12 rfl 11 (by decide) kw_955 hv_g138 dX12_looks_15 ?_
        refine lv_iload_n hx hb dX12_looks_18 rfl (lv_at hl 3 rfl) ?_
        refine lv_iconst (v := 0) hx hb dX12_looks_19 (by decide) ?_
        obtain ⟨S140, g139, h⟩ := hq_bind h
        refine hq_zast hx hb hE hI (by decide) g139 dX12_looks_20 (fun H locs hI => ?_)
        refine lv_iinc (v := (x130 + 1)) (lv' := [(3, .int (x130 + 1)), (0, .ref a0), (1, .int a1), (2, .int a2)]) hx hb dX12_looks_21 hl (k := 3) rfl rfl (by decide) rfl (fun ls hl => ?_)
        refine lv_goto (tgt := 2) hx hb dX12_looks_24 (by decide) ?_
        exact ih2 (x130 + 1) S140 _ _ _ h hI (lv_sub hl [1, 2, 3, 0] rfl)
  exact hL2 FU 0 S _ _ _ h hI (lv_sub hl [1, 2, 3, 0] rfl)
-- RodDipsModel.isCounted(II)Z
theorem dX12_isCounted_0 : decode cX12_isCounted 0 = .ok (.aload_n 0, 1) := by decide +kernel
theorem dX12_isCounted_1 : decode cX12_isCounted 1 = .ok (.iload_n 1, 1) := by decide +kernel
theorem dX12_isCounted_2 : decode cX12_isCounted 2 = .ok (.iload_n 2, 1) := by decide +kernel
theorem dX12_isCounted_3 : decode cX12_isCounted 3 = .ok (.invokevirtual 169, 3) := by decide +kernel
theorem dX12_isCounted_6 : decode cX12_isCounted 6 = .ok (.aload_n 0, 1) := by decide +kernel
theorem dX12_isCounted_7 : decode cX12_isCounted 7 = .ok (.getfield 22, 3) := by decide +kernel
theorem dX12_isCounted_10 : decode cX12_isCounted 10 = .ok (.iconst 0, 1) := by decide +kernel
theorem dX12_isCounted_11 : decode cX12_isCounted 11 = .ok (.iaload, 1) := by decide +kernel
theorem dX12_isCounted_12 : decode cX12_isCounted 12 = .ok (.ifCond .eq 12, 3) := by decide +kernel
theorem dX12_isCounted_15 : decode cX12_isCounted 15 = .ok (.aload_n 0, 1) := by decide +kernel
theorem dX12_isCounted_16 : decode cX12_isCounted 16 = .ok (.getfield 25, 3) := by decide +kernel
theorem dX12_isCounted_19 : decode cX12_isCounted 19 = .ok (.iconst 0, 1) := by decide +kernel
theorem dX12_isCounted_20 : decode cX12_isCounted 20 = .ok (.baload, 1) := by decide +kernel
theorem dX12_isCounted_21 : decode cX12_isCounted 21 = .ok (.ifCond .eq 16, 3) := by decide +kernel
theorem dX12_isCounted_24 : decode cX12_isCounted 24 = .ok (.aload_n 0, 1) := by decide +kernel
theorem dX12_isCounted_25 : decode cX12_isCounted 25 = .ok (.getfield 25, 3) := by decide +kernel
theorem dX12_isCounted_28 : decode cX12_isCounted 28 = .ok (.iconst 1, 1) := by decide +kernel
theorem dX12_isCounted_29 : decode cX12_isCounted 29 = .ok (.baload, 1) := by decide +kernel
theorem dX12_isCounted_30 : decode cX12_isCounted 30 = .ok (.ifCond .ne 7, 3) := by decide +kernel
theorem dX12_isCounted_33 : decode cX12_isCounted 33 = .ok (.iconst 1, 1) := by decide +kernel
theorem dX12_isCounted_34 : decode cX12_isCounted 34 = .ok (.goto 4, 3) := by decide +kernel
theorem dX12_isCounted_37 : decode cX12_isCounted 37 = .ok (.iconst 0, 1) := by decide +kernel
theorem dX12_isCounted_38 : decode cX12_isCounted 38 = .ok (.ireturn, 1) := by decide +kernel
def f_X12_isCounted_J24 (a0 : Nat) (S8 : HSt) : Option (Int32 × HSt) := (gR S8 a0 12 11).bind fun b9 => (aI S8 b9 2 1).bind fun v12 => if v12 = 0 then (some (1, S8)) else (some (0, S8))
def f_X12_isCounted (S : HSt) (a0 : Nat) (a1 : Int32) (a2 : Int32) : Option (Int32 × HSt) := if gC S a0 = some 12 then ((f_X12_looks S a0 a1 a2).bind fun S3 => (gR S3 a0 12 10).bind fun b4 => (aI S3 b4 0 0).bind fun v7 => if v7 = 0 then ((f_X12_isCounted_J24 a0) S3) else ((gR S3 a0 12 11).bind fun b15 => (aI S3 b15 2 0).bind fun v18 => if v18 = 0 then (some (0, S3)) else ((f_X12_isCounted_J24 a0) S3))) else none
abbrev rm_X12_isCounted : Room := { frames := 4, cells := 0, slots := 0, locals := 92 }
abbrev w_X12_isCounted : List Cond := Cond.code yX12_isCounted cX12_isCounted 3 (Option.some FieldType.boolean) :: lwG
theorem yd_X12_isCounted : yX12_isCounted.cls ≠ "java/lang/invoke/MethodHandle" ∧ yX12_isCounted.cls ≠ "java/lang/invoke/VarHandle" ∧ (parseMethodDescriptor yX12_isCounted.desc).map (fun d => d.parameters.length) = some 2 := by decide +kernel
theorem ye_X12_isCounted : yX12_isCounted.cls = RX12 ∧ yX12_isCounted.cls ≠ "java/lang/invoke/MethodHandle" ∧ yX12_isCounted.cls ≠ "java/lang/invoke/VarHandle" ∧ (parseMethodDescriptor yX12_isCounted.desc).map (fun d => d.parameters.length) = some 2 := by decide +kernel
set_option maxHeartbeats 4000000 in
set_option maxRecDepth 100000 in
theorem c_X12_isCounted (l : Launch) (D : va_G) (kA ρ : Nat → Nat) (HB : Heap) (S : HSt) (a0 : Nat) (a1 : Int32) (a2 : Int32) (res : Int32 × HSt) (h : f_X12_isCounted S a0 a1 a2 = some res) : Met l yX12_isCounted w_X12_isCounted rm_X12_isCounted (hPc D kA ρ HB S [.ref a0, .int a1, .int a2]) (hQi D kA HB S res) 0 0 (hFree HB) := by
  refine Met.ofW (cc := cX12_isCounted) (maxL := 3) (ret := (Option.some FieldType.boolean)) (by decide) rfl ?_
  intro p e s m args below meth c s₁ B hml hv
  obtain ⟨rfl, hE, h0⟩ := hv
  have hx := B.exec
  have hb := B.bytes
  have hr := B.returns
  have hts0 := atoms_spec (ws := w_X12_isCounted) B.pre
  have hts : ∀ w ∈ lwG, w.before _ s = true := fun w hw => hts0 w (List.mem_cons_of_mem _ hw)
  have hown : s.vm.findClass RX12 = some m.cls := findClass_of_methodNamed B.named
  have hlocks := B.notSynchronized
  have hI : hqX D kA HB S.2 S s.heap [] := ⟨h0, Nat.le_refl _, fun _ q => absurd q List.not_mem_nil⟩
  have hl := lv_entry ([.ref a0, .int a1, .int a2]) (n := 3) (Nat.le_of_ble_eq_true rfl)
  rw [lg_entry_eq]
  generalize (lg_sl ([.ref a0, .int a1, .int a2]) ++ List.replicate (3 - (lg_sl ([.ref a0, .int a1, .int a2])).length) Slot.unset).toArray = ls at hl ⊢
  have hl : lv_has ls 3 [(0, .ref a0), (1, .int a1), (2, .int a2)] := hl
  unfold f_X12_isCounted at h
  refine lv_aload_n hx hb dX12_isCounted_0 rfl (lv_at hl 0 rfl) ?_
  refine lv_iload_n hx hb dX12_isCounted_1 rfl (lv_at hl 1 rfl) ?_
  refine lv_iload_n hx hb dX12_isCounted_2 rfl (lv_at hl 2 rfl) ?_
  obtain ⟨g2, h⟩ := hq_g h
  obtain ⟨S3, g1, h⟩ := hq_bind h
  refine hq_callv hI (va_runV (As := [.int a1, .int a2]) (rest := []) ⟨hx, hb, hml, hown, hts⟩ (c_X12_looks l D kA ρ HB S a0 a1 a2 _ g1) (cwV 2 hts (gdIn (List.forall_mem_cons.mpr ⟨kw_1145, (List.forall_mem_cons.mpr ⟨kw_1147, (List.forall_mem_cons.mpr ⟨ks_51, (List.forall_mem_cons.mpr ⟨kw_6, (fun _ h => absurd h List.not_mem_nil)⟩)⟩)⟩)⟩) kw_1148) rfl rfl rfl ye_X12_looks ⟨Nat.le_of_ble_eq_true rfl, Nat.le_of_ble_eq_true rfl⟩) (hq_preC hE hI g2 rfl _) rfl rfl hl.1 rfl (lv_room (Nat.le_of_ble_eq_true rfl)) dX12_isCounted_3 ⟨Nat.le_of_ble_eq_true rfl, Nat.le_of_ble_eq_true rfl⟩) (fun H locs hI => ?_)
  refine lv_aload_n hx hb dX12_isCounted_6 rfl (lv_at hl 0 rfl) ?_
  obtain ⟨b4, g5, h⟩ := hq_bind h
  obtain ⟨fs_g5, hs_g5, hv_g5⟩ := gR_at g5
  refine hq_get hx hb hts hown hE hI hs_g5 inG12 rfl 10 (by decide) kw_954 hv_g5 dX12_isCounted_7 ?_
  refine lv_iconst (v := 0) hx hb dX12_isCounted_10 (by decide) ?_
  obtain ⟨v7, g6, h⟩ := hq_bind h
  refine hq_iald hx hb hE hI g6 dX12_isCounted_11 ?_
  have hJ24 : ∀ (S8 : HSt) (H : Heap) (locs : List Loc) (ls : Array Slot), (f_X12_isCounted_J24 a0) S8 = some res → hqX D kA HB S.2 S8 H locs → lv_has ls 3 [(0, .ref a0)] → W p l e rm_X12_isCounted s m ([.ref a0, .int a1, .int a2] : List Value).toArray below meth c H locs 0 0 (MQ below (hQi D kA HB S res) ([.ref a0, .int a1, .int a2] : List Value).toArray s 0 0 (hFree HB)) (F0 m 24 ls []) := by
    intro S8 H locs ls h hI hl
    unfold f_X12_isCounted_J24 at h
    refine lv_aload_n hx hb dX12_isCounted_24 rfl (lv_at hl 0 rfl) ?_
    obtain ⟨b9, g10, h⟩ := hq_bind h
    obtain ⟨fs_g10, hs_g10, hv_g10⟩ := gR_at g10
    refine hq_get hx hb hts hown hE hI hs_g10 inG12 rfl 11 (by decide) kw_955 hv_g10 dX12_isCounted_25 ?_
    refine lv_iconst (v := 1) hx hb dX12_isCounted_28 (by decide) ?_
    obtain ⟨v12, g11, h⟩ := hq_bind h
    refine hq_zald hx hb hE hI g11 dX12_isCounted_29 ?_
    refine lv_if_ne (tgt := 37) hx hb dX12_isCounted_30 (by decide) (fun c13 => ?_) (fun c13 => ?_)
    · have h := hq_f h c13
      refine lv_iconst (v := 0) hx hb dX12_isCounted_37 (by decide) ?_
      exact hq_zret hx hb hr hlocks h0 hI (by decide) h dX12_isCounted_38
    · have h := hq_t h c13
      refine lv_iconst (v := 1) hx hb dX12_isCounted_33 (by decide) ?_
      refine lv_goto (tgt := 38) hx hb dX12_isCounted_34 (by decide) ?_
      exact hq_zret hx hb hr hlocks h0 hI (by decide) h dX12_isCounted_38
  refine lv_if_eq (tgt := 24) hx hb dX12_isCounted_12 (by decide) (fun c14 => ?_) (fun c14 => ?_)
  · have h := hq_t h c14
    exact hJ24 S3 _ _ _ h hI (lv_sub hl [0] rfl)
  · have h := hq_f h c14
    refine lv_aload_n hx hb dX12_isCounted_15 rfl (lv_at hl 0 rfl) ?_
    obtain ⟨b15, g16, h⟩ := hq_bind h
    obtain ⟨fs_g16, hs_g16, hv_g16⟩ := gR_at g16
    refine hq_get hx hb hts hown hE hI hs_g16 inG12 rfl 11 (by decide) kw_955 hv_g16 dX12_isCounted_16 ?_
    refine lv_iconst (v := 0) hx hb dX12_isCounted_19 (by decide) ?_
    obtain ⟨v18, g17, h⟩ := hq_bind h
    refine hq_zald hx hb hE hI g17 dX12_isCounted_20 ?_
    refine lv_if_eq (tgt := 37) hx hb dX12_isCounted_21 (by decide) (fun c19 => ?_) (fun c19 => ?_)
    · have h := hq_t h c19
      refine lv_iconst (v := 0) hx hb dX12_isCounted_37 (by decide) ?_
      exact hq_zret hx hb hr hlocks h0 hI (by decide) h dX12_isCounted_38
    · have h := hq_f h c19
      exact hJ24 S3 _ _ _ h hI (lv_sub hl [0] rfl)
-- RodDipsModel.counted(I)I
theorem dX12_counted_0 : decode cX12_counted 0 = .ok (.iconst 0, 1) := by decide +kernel
theorem dX12_counted_1 : decode cX12_counted 1 = .ok (.istore_n 2, 1) := by decide +kernel
theorem dX12_counted_2 : decode cX12_counted 2 = .ok (.iconst 0, 1) := by decide +kernel
theorem dX12_counted_3 : decode cX12_counted 3 = .ok (.istore_n 3, 1) := by decide +kernel
theorem dX12_counted_4 : decode cX12_counted 4 = .ok (.iload_n 3, 1) := by decide +kernel
theorem dX12_counted_5 : decode cX12_counted 5 = .ok (.aload_n 0, 1) := by decide +kernel
theorem dX12_counted_6 : decode cX12_counted 6 = .ok (.getfield 9, 3) := by decide +kernel
theorem dX12_counted_9 : decode cX12_counted 9 = .ok (.iconst 1, 1) := by decide +kernel
theorem dX12_counted_10 : decode cX12_counted 10 = .ok (.iaload, 1) := by decide +kernel
theorem dX12_counted_11 : decode cX12_counted 11 = .ok (.if_icmp .ge 28, 3) := by decide +kernel
theorem dX12_counted_14 : decode cX12_counted 14 = .ok (.iload_n 2, 1) := by decide +kernel
theorem dX12_counted_15 : decode cX12_counted 15 = .ok (.aload_n 0, 1) := by decide +kernel
theorem dX12_counted_16 : decode cX12_counted 16 = .ok (.iload_n 1, 1) := by decide +kernel
theorem dX12_counted_17 : decode cX12_counted 17 = .ok (.iload_n 3, 1) := by decide +kernel
theorem dX12_counted_18 : decode cX12_counted 18 = .ok (.invokevirtual 173, 3) := by decide +kernel
theorem dX12_counted_21 : decode cX12_counted 21 = .ok (.ifCond .eq 9, 3) := by decide +kernel
theorem dX12_counted_24 : decode cX12_counted 24 = .ok (.iconst 1, 1) := by decide +kernel
theorem dX12_counted_25 : decode cX12_counted 25 = .ok (.iload_n 3, 1) := by decide +kernel
theorem dX12_counted_26 : decode cX12_counted 26 = .ok (.ishl, 1) := by decide +kernel
theorem dX12_counted_27 : decode cX12_counted 27 = .ok (.goto 4, 3) := by decide +kernel
theorem dX12_counted_30 : decode cX12_counted 30 = .ok (.iconst 0, 1) := by decide +kernel
theorem dX12_counted_31 : decode cX12_counted 31 = .ok (.ior, 1) := by decide +kernel
theorem dX12_counted_32 : decode cX12_counted 32 = .ok (.istore_n 2, 1) := by decide +kernel
theorem dX12_counted_33 : decode cX12_counted 33 = .ok (.iinc 3 1, 3) := by decide +kernel
theorem dX12_counted_36 : decode cX12_counted 36 = .ok (.goto (-32), 3) := by decide +kernel
theorem dX12_counted_39 : decode cX12_counted 39 = .ok (.iload_n 2, 1) := by decide +kernel
theorem dX12_counted_40 : decode cX12_counted 40 = .ok (.ireturn, 1) := by decide +kernel
def f_X12_counted_K39 (x1 : Int32) (S2 : HSt) : Option (Int32 × HSt) := some (x1, S2)
def f_X12_counted_B4 (a0 : Nat) (a1 : Int32) (kx39 : (Int32 → HSt → Option (Int32 × HSt))) (kb4 : (Int32 → Int32 → HSt → Option (Int32 × HSt))) (x3 : Int32) (x4 : Int32) (S5 : HSt) : Option (Int32 × HSt) := (gR S5 a0 12 1).bind fun b6 => (aI S5 b6 0 1).bind fun v9 => if v9 ≤ x4 then (kx39 x3 S5) else (if gC S5 a0 = some 12 then (bd2 (f_X12_isCounted S5 a0 a1 x4) fun v14 S13 => if v14 = 0 then (kb4 (x3 ||| 0) (x4 + 1) S13) else (kb4 (x3 ||| (1 <<< (x4 &&& 31))) (x4 + 1) S13)) else none)
def f_X12_counted_L4 (a0 : Nat) (a1 : Int32) (kx39 : (Int32 → HSt → Option (Int32 × HSt))) : Nat → Int32 → Int32 → HSt → Option (Int32 × HSt)
  | 0, _, _, _ => none
  | n + 1, x3, x4, S => f_X12_counted_B4 a0 a1 kx39 (f_X12_counted_L4 a0 a1 kx39 n) x3 x4 S
def f_X12_counted (S : HSt) (a0 : Nat) (a1 : Int32) : Option (Int32 × HSt) := (f_X12_counted_L4 a0 a1 f_X12_counted_K39 FU) 0 0 S
abbrev rm_X12_counted : Room := { frames := 5, cells := 0, slots := 0, locals := 114 }
abbrev w_X12_counted : List Cond := Cond.code yX12_counted cX12_counted 4 (Option.some FieldType.int) :: lwG
theorem yd_X12_counted : yX12_counted.cls ≠ "java/lang/invoke/MethodHandle" ∧ yX12_counted.cls ≠ "java/lang/invoke/VarHandle" ∧ (parseMethodDescriptor yX12_counted.desc).map (fun d => d.parameters.length) = some 1 := by decide +kernel
theorem ye_X12_counted : yX12_counted.cls = RX12 ∧ yX12_counted.cls ≠ "java/lang/invoke/MethodHandle" ∧ yX12_counted.cls ≠ "java/lang/invoke/VarHandle" ∧ (parseMethodDescriptor yX12_counted.desc).map (fun d => d.parameters.length) = some 1 := by decide +kernel
set_option maxHeartbeats 4000000 in
set_option maxRecDepth 100000 in
theorem c_X12_counted (l : Launch) (D : va_G) (kA ρ : Nat → Nat) (HB : Heap) (S : HSt) (a0 : Nat) (a1 : Int32) (res : Int32 × HSt) (h : f_X12_counted S a0 a1 = some res) : Met l yX12_counted w_X12_counted rm_X12_counted (hPc D kA ρ HB S [.ref a0, .int a1]) (hQi D kA HB S res) 0 0 (hFree HB) := by
  refine Met.ofW (cc := cX12_counted) (maxL := 4) (ret := (Option.some FieldType.int)) (by decide) rfl ?_
  intro p e s m args below meth c s₁ B hml hv
  obtain ⟨rfl, hE, h0⟩ := hv
  have hx := B.exec
  have hb := B.bytes
  have hr := B.returns
  have hts0 := atoms_spec (ws := w_X12_counted) B.pre
  have hts : ∀ w ∈ lwG, w.before _ s = true := fun w hw => hts0 w (List.mem_cons_of_mem _ hw)
  have hown : s.vm.findClass RX12 = some m.cls := findClass_of_methodNamed B.named
  have hlocks := B.notSynchronized
  have hI : hqX D kA HB S.2 S s.heap [] := ⟨h0, Nat.le_refl _, fun _ q => absurd q List.not_mem_nil⟩
  have hl := lv_entry ([.ref a0, .int a1]) (n := 4) (Nat.le_of_ble_eq_true rfl)
  rw [lg_entry_eq]
  generalize (lg_sl ([.ref a0, .int a1]) ++ List.replicate (4 - (lg_sl ([.ref a0, .int a1])).length) Slot.unset).toArray = ls at hl ⊢
  have hl : lv_has ls 4 [(0, .ref a0), (1, .int a1)] := hl
  unfold f_X12_counted at h
  refine lv_iconst (v := 0) hx hb dX12_counted_0 (by decide) ?_
  refine lv_istore_n (lv' := [(2, .int 0), (0, .ref a0), (1, .int a1)]) hx hb dX12_counted_1 rfl hl (by decide) rfl (fun ls hl => ?_)
  refine lv_iconst (v := 0) hx hb dX12_counted_2 (by decide) ?_
  refine lv_istore_n (lv' := [(3, .int 0), (2, .int 0), (0, .ref a0), (1, .int a1)]) hx hb dX12_counted_3 rfl hl (by decide) rfl (fun ls hl => ?_)
  have hK39 : ∀ (x1 : Int32) (S2 : HSt) (H : Heap) (locs : List Loc) (ls : Array Slot), f_X12_counted_K39 x1 S2 = some res → hqX D kA HB S.2 S2 H locs → lv_has ls 4 [(2, .int x1)] → W p l e rm_X12_counted s m ([.ref a0, .int a1] : List Value).toArray below meth c H locs 0 0 (MQ below (hQi D kA HB S res) ([.ref a0, .int a1] : List Value).toArray s 0 0 (hFree HB)) (F0 m 39 ls []) := by
    intro x1 S2 H locs ls h hI hl
    unfold f_X12_counted_K39 at h
    refine lv_iload_n hx hb dX12_counted_39 rfl (lv_at hl 0 rfl) ?_
    exact hq_iret hx hb hr hlocks h0 hI h dX12_counted_40
  have hL4 : ∀ (n4 : Nat) (x3 : Int32) (x4 : Int32) (S5 : HSt) (H : Heap) (locs : List Loc) (ls : Array Slot), (f_X12_counted_L4 a0 a1 f_X12_counted_K39 n4) x3 x4 S5 = some res → hqX D kA HB S.2 S5 H locs → lv_has ls 4 [(0, .ref a0), (1, .int a1), (2, .int x3), (3, .int x4)] → W p l e rm_X12_counted s m ([.ref a0, .int a1] : List Value).toArray below meth c H locs 0 0 (MQ below (hQi D kA HB S res) ([.ref a0, .int a1] : List Value).toArray s 0 0 (hFree HB)) (F0 m 4 ls []) := by
    intro n4
    induction n4 with
    | zero =>
      intro x3 x4 S5 H locs ls h
      have h : (none : Option (Int32 × HSt)) = some res := h
      cases h
    | succ n4 ih4 =>
      intro x3 x4 S5 H locs ls h hI hl
      have h : f_X12_counted_B4 a0 a1 f_X12_counted_K39 (f_X12_counted_L4 a0 a1 f_X12_counted_K39 n4) x3 x4 S5 = some res := h
      unfold f_X12_counted_B4 at h
      refine lv_iload_n hx hb dX12_counted_4 rfl (lv_at hl 3 rfl) ?_
      refine lv_aload_n hx hb dX12_counted_5 rfl (lv_at hl 0 rfl) ?_
      obtain ⟨b6, g7, h⟩ := hq_bind h
      obtain ⟨fs_g7, hs_g7, hv_g7⟩ := gR_at g7
      refine hq_get hx hb hts hown hE hI hs_g7 inG12 rfl 1 (by decide) kw_945 hv_g7 dX12_counted_6 ?_
      refine lv_iconst (v := 1) hx hb dX12_counted_9 (by decide) ?_
      obtain ⟨v9, g8, h⟩ := hq_bind h
      refine hq_iald hx hb hE hI g8 dX12_counted_10 ?_
      refine lv_icmp_ge (tgt := 39) hx hb dX12_counted_11 (by decide) (fun c10 => ?_) (fun c10 => ?_)
      · have h := hq_t h c10
        exact hK39 x3 S5 _ _ _ h hI (lv_sub hl [2] rfl)
      · have h := hq_f h c10
        refine lv_iload_n hx hb dX12_counted_14 rfl (lv_at hl 2 rfl) ?_
        refine lv_aload_n hx hb dX12_counted_15 rfl (lv_at hl 0 rfl) ?_
        refine lv_iload_n hx hb dX12_counted_16 rfl (lv_at hl 1 rfl) ?_
        refine lv_iload_n hx hb dX12_counted_17 rfl (lv_at hl 3 rfl) ?_
        obtain ⟨g12, h⟩ := hq_g h
        obtain ⟨v14, S13, g11, h⟩ := hq_bd2 h
        refine hq_calli hI (va_runV (As := [.int a1, .int x4]) (rest := [.int x3]) ⟨hx, hb, hml, hown, hts⟩ (c_X12_isCounted l D kA ρ HB S5 a0 a1 x4 _ g11) (cwV 2 hts (gdIn (List.forall_mem_cons.mpr ⟨kw_1141, (List.forall_mem_cons.mpr ⟨kw_1143, (List.forall_mem_cons.mpr ⟨ks_50, (List.forall_mem_cons.mpr ⟨kw_6, (fun _ h => absurd h List.not_mem_nil)⟩)⟩)⟩)⟩) kw_1144) rfl rfl rfl ye_X12_isCounted ⟨Nat.le_of_ble_eq_true rfl, Nat.le_of_ble_eq_true rfl⟩) (hq_preC hE hI g12 rfl _) rfl rfl hl.1 rfl (lv_room (Nat.le_of_ble_eq_true rfl)) dX12_counted_18 ⟨Nat.le_of_ble_eq_true rfl, Nat.le_of_ble_eq_true rfl⟩) (fun H locs hI => ?_)
        refine lv_if_eq (tgt := 30) hx hb dX12_counted_21 (by decide) (fun c15 => ?_) (fun c15 => ?_)
        · have h := hq_t h c15
          refine lv_iconst (v := 0) hx hb dX12_counted_30 (by decide) ?_
          refine lv_ior hx hb dX12_counted_31 ?_
          refine lv_istore_n (lv' := [(2, .int (x3 ||| 0)), (0, .ref a0), (1, .int a1), (3, .int x4)]) hx hb dX12_counted_32 rfl hl (by decide) rfl (fun ls hl => ?_)
          refine lv_iinc (v := (x4 + 1)) (lv' := [(3, .int (x4 + 1)), (2, .int (x3 ||| 0)), (0, .ref a0), (1, .int a1)]) hx hb dX12_counted_33 hl (k := 3) rfl rfl (by decide) rfl (fun ls hl => ?_)
          refine lv_goto (tgt := 4) hx hb dX12_counted_36 (by decide) ?_
          exact ih4 (x3 ||| 0) (x4 + 1) S13 _ _ _ h hI (lv_sub hl [2, 3, 1, 0] rfl)
        · have h := hq_f h c15
          refine lv_iconst (v := 1) hx hb dX12_counted_24 (by decide) ?_
          refine lv_iload_n hx hb dX12_counted_25 rfl (lv_at hl 3 rfl) ?_
          refine lv_ishl hx hb dX12_counted_26 ?_
          refine lv_goto (tgt := 31) hx hb dX12_counted_27 (by decide) ?_
          refine lv_ior hx hb dX12_counted_31 ?_
          refine lv_istore_n (lv' := [(2, .int (x3 ||| (1 <<< (x4 &&& 31)))), (0, .ref a0), (1, .int a1), (3, .int x4)]) hx hb dX12_counted_32 rfl hl (by decide) rfl (fun ls hl => ?_)
          refine lv_iinc (v := (x4 + 1)) (lv' := [(3, .int (x4 + 1)), (2, .int (x3 ||| (1 <<< (x4 &&& 31)))), (0, .ref a0), (1, .int a1)]) hx hb dX12_counted_33 hl (k := 3) rfl rfl (by decide) rfl (fun ls hl => ?_)
          refine lv_goto (tgt := 4) hx hb dX12_counted_36 (by decide) ?_
          exact ih4 (x3 ||| (1 <<< (x4 &&& 31))) (x4 + 1) S13 _ _ _ h hI (lv_sub hl [2, 3, 1, 0] rfl)
  exact hL4 FU 0 0 S _ _ _ h hI (lv_sub hl [2, 3, 1, 0] rfl)
-- RodDipsModel.hitsOf(II)I
theorem dX12_hitsOf_0 : decode cX12_hitsOf 0 = .ok (.iconst 0, 1) := by decide +kernel
theorem dX12_hitsOf_1 : decode cX12_hitsOf 1 = .ok (.istore_n 3, 1) := by decide +kernel
theorem dX12_hitsOf_2 : decode cX12_hitsOf 2 = .ok (.iconst 0, 1) := by decide +kernel
theorem dX12_hitsOf_3 : decode cX12_hitsOf 3 = .ok (.istore 4, 2) := by decide +kernel
theorem dX12_hitsOf_5 : decode cX12_hitsOf 5 = .ok (.iload 4, 2) := by decide +kernel
theorem dX12_hitsOf_7 : decode cX12_hitsOf 7 = .ok (.aload_n 0, 1) := by decide +kernel
theorem dX12_hitsOf_8 : decode cX12_hitsOf 8 = .ok (.getfield 9, 3) := by decide +kernel
theorem dX12_hitsOf_11 : decode cX12_hitsOf 11 = .ok (.iconst 1, 1) := by decide +kernel
theorem dX12_hitsOf_12 : decode cX12_hitsOf 12 = .ok (.iaload, 1) := by decide +kernel
theorem dX12_hitsOf_13 : decode cX12_hitsOf 13 = .ok (.if_icmp .ge 40, 3) := by decide +kernel
theorem dX12_hitsOf_16 : decode cX12_hitsOf 16 = .ok (.iload_n 3, 1) := by decide +kernel
theorem dX12_hitsOf_17 : decode cX12_hitsOf 17 = .ok (.iload_n 1, 1) := by decide +kernel
theorem dX12_hitsOf_18 : decode cX12_hitsOf 18 = .ok (.iload 4, 2) := by decide +kernel
theorem dX12_hitsOf_20 : decode cX12_hitsOf 20 = .ok (.ishr, 1) := by decide +kernel
theorem dX12_hitsOf_21 : decode cX12_hitsOf 21 = .ok (.iconst 1, 1) := by decide +kernel
theorem dX12_hitsOf_22 : decode cX12_hitsOf 22 = .ok (.iand, 1) := by decide +kernel
theorem dX12_hitsOf_23 : decode cX12_hitsOf 23 = .ok (.iconst 1, 1) := by decide +kernel
theorem dX12_hitsOf_24 : decode cX12_hitsOf 24 = .ok (.if_icmp .ne 20, 3) := by decide +kernel
theorem dX12_hitsOf_27 : decode cX12_hitsOf 27 = .ok (.aload_n 0, 1) := by decide +kernel
theorem dX12_hitsOf_28 : decode cX12_hitsOf 28 = .ok (.iload 4, 2) := by decide +kernel
theorem dX12_hitsOf_30 : decode cX12_hitsOf 30 = .ok (.invokevirtual 57, 3) := by decide +kernel
theorem dX12_hitsOf_33 : decode cX12_hitsOf 33 = .ok (.iload_n 2, 1) := by decide +kernel
theorem dX12_hitsOf_34 : decode cX12_hitsOf 34 = .ok (.if_icmp .gt 10, 3) := by decide +kernel
theorem dX12_hitsOf_37 : decode cX12_hitsOf 37 = .ok (.iconst 1, 1) := by decide +kernel
theorem dX12_hitsOf_38 : decode cX12_hitsOf 38 = .ok (.iload 4, 2) := by decide +kernel
theorem dX12_hitsOf_40 : decode cX12_hitsOf 40 = .ok (.ishl, 1) := by decide +kernel
theorem dX12_hitsOf_41 : decode cX12_hitsOf 41 = .ok (.goto 4, 3) := by decide +kernel
theorem dX12_hitsOf_44 : decode cX12_hitsOf 44 = .ok (.iconst 0, 1) := by decide +kernel
theorem dX12_hitsOf_45 : decode cX12_hitsOf 45 = .ok (.ior, 1) := by decide +kernel
theorem dX12_hitsOf_46 : decode cX12_hitsOf 46 = .ok (.istore_n 3, 1) := by decide +kernel
theorem dX12_hitsOf_47 : decode cX12_hitsOf 47 = .ok (.iinc 4 1, 3) := by decide +kernel
theorem dX12_hitsOf_50 : decode cX12_hitsOf 50 = .ok (.goto (-45), 3) := by decide +kernel
theorem dX12_hitsOf_53 : decode cX12_hitsOf 53 = .ok (.iload_n 3, 1) := by decide +kernel
theorem dX12_hitsOf_54 : decode cX12_hitsOf 54 = .ok (.ireturn, 1) := by decide +kernel
def f_X12_hitsOf_K53 (x1 : Int32) (S2 : HSt) : Option (Int32 × HSt) := some (x1, S2)
def f_X12_hitsOf_B5 (a0 : Nat) (a1 : Int32) (a2 : Int32) (kx53 : (Int32 → HSt → Option (Int32 × HSt))) (kb5 : (Int32 → Int32 → HSt → Option (Int32 × HSt))) (x3 : Int32) (x4 : Int32) (S5 : HSt) : Option (Int32 × HSt) := (gR S5 a0 12 1).bind fun b6 => (aI S5 b6 0 1).bind fun v9 => if v9 ≤ x4 then (kx53 x3 S5) else (if ((a1 >>> (x4 &&& 31)) &&& 1) = 1 then (if gC S5 a0 = some 12 then (bd2 (f_X12_nearOf S5 a0 x4) fun v15 S14 => if a2 < v15 then (kb5 (x3 ||| 0) (x4 + 1) S14) else (kb5 (x3 ||| (1 <<< (x4 &&& 31))) (x4 + 1) S14)) else none) else (kb5 (x3 ||| 0) (x4 + 1) S5))
def f_X12_hitsOf_L5 (a0 : Nat) (a1 : Int32) (a2 : Int32) (kx53 : (Int32 → HSt → Option (Int32 × HSt))) : Nat → Int32 → Int32 → HSt → Option (Int32 × HSt)
  | 0, _, _, _ => none
  | n + 1, x3, x4, S => f_X12_hitsOf_B5 a0 a1 a2 kx53 (f_X12_hitsOf_L5 a0 a1 a2 kx53 n) x3 x4 S
def f_X12_hitsOf (S : HSt) (a0 : Nat) (a1 : Int32) (a2 : Int32) : Option (Int32 × HSt) := (f_X12_hitsOf_L5 a0 a1 a2 f_X12_hitsOf_K53 FU) 0 0 S
abbrev rm_X12_hitsOf : Room := { frames := 2, cells := 0, slots := 0, locals := 41 }
abbrev w_X12_hitsOf : List Cond := Cond.code yX12_hitsOf cX12_hitsOf 5 (Option.some FieldType.int) :: lwG
theorem yd_X12_hitsOf : yX12_hitsOf.cls ≠ "java/lang/invoke/MethodHandle" ∧ yX12_hitsOf.cls ≠ "java/lang/invoke/VarHandle" ∧ (parseMethodDescriptor yX12_hitsOf.desc).map (fun d => d.parameters.length) = some 2 := by decide +kernel
theorem ye_X12_hitsOf : yX12_hitsOf.cls = RX12 ∧ yX12_hitsOf.cls ≠ "java/lang/invoke/MethodHandle" ∧ yX12_hitsOf.cls ≠ "java/lang/invoke/VarHandle" ∧ (parseMethodDescriptor yX12_hitsOf.desc).map (fun d => d.parameters.length) = some 2 := by decide +kernel
set_option maxHeartbeats 4000000 in
set_option maxRecDepth 100000 in
theorem c_X12_hitsOf (l : Launch) (D : va_G) (kA ρ : Nat → Nat) (HB : Heap) (S : HSt) (a0 : Nat) (a1 : Int32) (a2 : Int32) (res : Int32 × HSt) (h : f_X12_hitsOf S a0 a1 a2 = some res) : Met l yX12_hitsOf w_X12_hitsOf rm_X12_hitsOf (hPc D kA ρ HB S [.ref a0, .int a1, .int a2]) (hQi D kA HB S res) 0 0 (hFree HB) := by
  refine Met.ofW (cc := cX12_hitsOf) (maxL := 5) (ret := (Option.some FieldType.int)) (by decide) rfl ?_
  intro p e s m args below meth c s₁ B hml hv
  obtain ⟨rfl, hE, h0⟩ := hv
  have hx := B.exec
  have hb := B.bytes
  have hr := B.returns
  have hts0 := atoms_spec (ws := w_X12_hitsOf) B.pre
  have hts : ∀ w ∈ lwG, w.before _ s = true := fun w hw => hts0 w (List.mem_cons_of_mem _ hw)
  have hown : s.vm.findClass RX12 = some m.cls := findClass_of_methodNamed B.named
  have hlocks := B.notSynchronized
  have hI : hqX D kA HB S.2 S s.heap [] := ⟨h0, Nat.le_refl _, fun _ q => absurd q List.not_mem_nil⟩
  have hl := lv_entry ([.ref a0, .int a1, .int a2]) (n := 5) (Nat.le_of_ble_eq_true rfl)
  rw [lg_entry_eq]
  generalize (lg_sl ([.ref a0, .int a1, .int a2]) ++ List.replicate (5 - (lg_sl ([.ref a0, .int a1, .int a2])).length) Slot.unset).toArray = ls at hl ⊢
  have hl : lv_has ls 5 [(0, .ref a0), (1, .int a1), (2, .int a2)] := hl
  unfold f_X12_hitsOf at h
  refine lv_iconst (v := 0) hx hb dX12_hitsOf_0 (by decide) ?_
  refine lv_istore_n (lv' := [(3, .int 0), (0, .ref a0), (1, .int a1), (2, .int a2)]) hx hb dX12_hitsOf_1 rfl hl (by decide) rfl (fun ls hl => ?_)
  refine lv_iconst (v := 0) hx hb dX12_hitsOf_2 (by decide) ?_
  refine lv_istore (lv' := [(4, .int 0), (3, .int 0), (0, .ref a0), (1, .int a1), (2, .int a2)]) hx hb dX12_hitsOf_3 hl (by decide) rfl (fun ls hl => ?_)
  have hK53 : ∀ (x1 : Int32) (S2 : HSt) (H : Heap) (locs : List Loc) (ls : Array Slot), f_X12_hitsOf_K53 x1 S2 = some res → hqX D kA HB S.2 S2 H locs → lv_has ls 5 [(3, .int x1)] → W p l e rm_X12_hitsOf s m ([.ref a0, .int a1, .int a2] : List Value).toArray below meth c H locs 0 0 (MQ below (hQi D kA HB S res) ([.ref a0, .int a1, .int a2] : List Value).toArray s 0 0 (hFree HB)) (F0 m 53 ls []) := by
    intro x1 S2 H locs ls h hI hl
    unfold f_X12_hitsOf_K53 at h
    refine lv_iload_n hx hb dX12_hitsOf_53 rfl (lv_at hl 0 rfl) ?_
    exact hq_iret hx hb hr hlocks h0 hI h dX12_hitsOf_54
  have hL5 : ∀ (n5 : Nat) (x3 : Int32) (x4 : Int32) (S5 : HSt) (H : Heap) (locs : List Loc) (ls : Array Slot), (f_X12_hitsOf_L5 a0 a1 a2 f_X12_hitsOf_K53 n5) x3 x4 S5 = some res → hqX D kA HB S.2 S5 H locs → lv_has ls 5 [(0, .ref a0), (1, .int a1), (2, .int a2), (3, .int x3), (4, .int x4)] → W p l e rm_X12_hitsOf s m ([.ref a0, .int a1, .int a2] : List Value).toArray below meth c H locs 0 0 (MQ below (hQi D kA HB S res) ([.ref a0, .int a1, .int a2] : List Value).toArray s 0 0 (hFree HB)) (F0 m 5 ls []) := by
    intro n5
    induction n5 with
    | zero =>
      intro x3 x4 S5 H locs ls h
      have h : (none : Option (Int32 × HSt)) = some res := h
      cases h
    | succ n5 ih5 =>
      intro x3 x4 S5 H locs ls h hI hl
      have h : f_X12_hitsOf_B5 a0 a1 a2 f_X12_hitsOf_K53 (f_X12_hitsOf_L5 a0 a1 a2 f_X12_hitsOf_K53 n5) x3 x4 S5 = some res := h
      unfold f_X12_hitsOf_B5 at h
      refine lv_iload hx hb dX12_hitsOf_5 (lv_at hl 4 rfl) ?_
      refine lv_aload_n hx hb dX12_hitsOf_7 rfl (lv_at hl 0 rfl) ?_
      obtain ⟨b6, g7, h⟩ := hq_bind h
      obtain ⟨fs_g7, hs_g7, hv_g7⟩ := gR_at g7
      refine hq_get hx hb hts hown hE hI hs_g7 inG12 rfl 1 (by decide) kw_945 hv_g7 dX12_hitsOf_8 ?_
      refine lv_iconst (v := 1) hx hb dX12_hitsOf_11 (by decide) ?_
      obtain ⟨v9, g8, h⟩ := hq_bind h
      refine hq_iald hx hb hE hI g8 dX12_hitsOf_12 ?_
      refine lv_icmp_ge (tgt := 53) hx hb dX12_hitsOf_13 (by decide) (fun c10 => ?_) (fun c10 => ?_)
      · have h := hq_t h c10
        exact hK53 x3 S5 _ _ _ h hI (lv_sub hl [3] rfl)
      · have h := hq_f h c10
        refine lv_iload_n hx hb dX12_hitsOf_16 rfl (lv_at hl 3 rfl) ?_
        refine lv_iload_n hx hb dX12_hitsOf_17 rfl (lv_at hl 1 rfl) ?_
        refine lv_iload hx hb dX12_hitsOf_18 (lv_at hl 4 rfl) ?_
        refine lv_ishr hx hb dX12_hitsOf_20 ?_
        refine lv_iconst (v := 1) hx hb dX12_hitsOf_21 (by decide) ?_
        refine lv_iand hx hb dX12_hitsOf_22 ?_
        refine lv_iconst (v := 1) hx hb dX12_hitsOf_23 (by decide) ?_
        refine lv_icmp_ne (tgt := 44) hx hb dX12_hitsOf_24 (by decide) (fun c11 => ?_) (fun c11 => ?_)
        · have h := hq_f h c11
          refine lv_iconst (v := 0) hx hb dX12_hitsOf_44 (by decide) ?_
          refine lv_ior hx hb dX12_hitsOf_45 ?_
          refine lv_istore_n (lv' := [(3, .int (x3 ||| 0)), (0, .ref a0), (1, .int a1), (2, .int a2), (4, .int x4)]) hx hb dX12_hitsOf_46 rfl hl (by decide) rfl (fun ls hl => ?_)
          refine lv_iinc (v := (x4 + 1)) (lv' := [(4, .int (x4 + 1)), (3, .int (x3 ||| 0)), (0, .ref a0), (1, .int a1), (2, .int a2)]) hx hb dX12_hitsOf_47 hl (k := 4) rfl rfl (by decide) rfl (fun ls hl => ?_)
          refine lv_goto (tgt := 5) hx hb dX12_hitsOf_50 (by decide) ?_
          exact ih5 (x3 ||| 0) (x4 + 1) S5 _ _ _ h hI (lv_sub hl [2, 3, 4, 1, 0] rfl)
        · have h := hq_t h c11
          refine lv_aload_n hx hb dX12_hitsOf_27 rfl (lv_at hl 0 rfl) ?_
          refine lv_iload hx hb dX12_hitsOf_28 (lv_at hl 4 rfl) ?_
          obtain ⟨g13, h⟩ := hq_g h
          obtain ⟨v15, S14, g12, h⟩ := hq_bd2 h
          refine hq_calli hI (va_runV (As := [.int x4]) (rest := [.int x3]) ⟨hx, hb, hml, hown, hts⟩ (c_X12_nearOf l D kA ρ HB S5 a0 x4 _ g12) (cwV 1 hts (gdIn (List.forall_mem_cons.mpr ⟨kw_1036, (List.forall_mem_cons.mpr ⟨kw_1038, (List.forall_mem_cons.mpr ⟨ks_32, (List.forall_mem_cons.mpr ⟨kw_6, (fun _ h => absurd h List.not_mem_nil)⟩)⟩)⟩)⟩) kw_1039) rfl rfl rfl ye_X12_nearOf ⟨Nat.le_of_ble_eq_true rfl, Nat.le_of_ble_eq_true rfl⟩) (hq_preC hE hI g13 rfl _) rfl rfl hl.1 rfl (lv_room (Nat.le_of_ble_eq_true rfl)) dX12_hitsOf_30 ⟨Nat.le_of_ble_eq_true rfl, Nat.le_of_ble_eq_true rfl⟩) (fun H locs hI => ?_)
          refine lv_iload_n hx hb dX12_hitsOf_33 rfl (lv_at hl 2 rfl) ?_
          refine lv_icmp_gt (tgt := 44) hx hb dX12_hitsOf_34 (by decide) (fun c16 => ?_) (fun c16 => ?_)
          · have h := hq_t h c16
            refine lv_iconst (v := 0) hx hb dX12_hitsOf_44 (by decide) ?_
            refine lv_ior hx hb dX12_hitsOf_45 ?_
            refine lv_istore_n (lv' := [(3, .int (x3 ||| 0)), (0, .ref a0), (1, .int a1), (2, .int a2), (4, .int x4)]) hx hb dX12_hitsOf_46 rfl hl (by decide) rfl (fun ls hl => ?_)
            refine lv_iinc (v := (x4 + 1)) (lv' := [(4, .int (x4 + 1)), (3, .int (x3 ||| 0)), (0, .ref a0), (1, .int a1), (2, .int a2)]) hx hb dX12_hitsOf_47 hl (k := 4) rfl rfl (by decide) rfl (fun ls hl => ?_)
            refine lv_goto (tgt := 5) hx hb dX12_hitsOf_50 (by decide) ?_
            exact ih5 (x3 ||| 0) (x4 + 1) S14 _ _ _ h hI (lv_sub hl [2, 3, 4, 1, 0] rfl)
          · have h := hq_f h c16
            refine lv_iconst (v := 1) hx hb dX12_hitsOf_37 (by decide) ?_
            refine lv_iload hx hb dX12_hitsOf_38 (lv_at hl 4 rfl) ?_
            refine lv_ishl hx hb dX12_hitsOf_40 ?_
            refine lv_goto (tgt := 45) hx hb dX12_hitsOf_41 (by decide) ?_
            refine lv_ior hx hb dX12_hitsOf_45 ?_
            refine lv_istore_n (lv' := [(3, .int (x3 ||| (1 <<< (x4 &&& 31)))), (0, .ref a0), (1, .int a1), (2, .int a2), (4, .int x4)]) hx hb dX12_hitsOf_46 rfl hl (by decide) rfl (fun ls hl => ?_)
            refine lv_iinc (v := (x4 + 1)) (lv' := [(4, .int (x4 + 1)), (3, .int (x3 ||| (1 <<< (x4 &&& 31)))), (0, .ref a0), (1, .int a1), (2, .int a2)]) hx hb dX12_hitsOf_47 hl (k := 4) rfl rfl (by decide) rfl (fun ls hl => ?_)
            refine lv_goto (tgt := 5) hx hb dX12_hitsOf_50 (by decide) ?_
            exact ih5 (x3 ||| (1 <<< (x4 &&& 31))) (x4 + 1) S14 _ _ _ h hI (lv_sub hl [2, 3, 4, 1, 0] rfl)
  exact hL5 FU 0 0 S _ _ _ h hI (lv_sub hl [2, 3, 4, 1, 0] rfl)
-- RodDipsModel.ofMan(II)I
theorem dX12_ofMan_0 : decode cX12_ofMan 0 = .ok (.iconst 0, 1) := by decide +kernel
theorem dX12_ofMan_1 : decode cX12_ofMan 1 = .ok (.istore_n 3, 1) := by decide +kernel
theorem dX12_ofMan_2 : decode cX12_ofMan 2 = .ok (.iconst 0, 1) := by decide +kernel
theorem dX12_ofMan_3 : decode cX12_ofMan 3 = .ok (.istore 4, 2) := by decide +kernel
theorem dX12_ofMan_5 : decode cX12_ofMan 5 = .ok (.iload 4, 2) := by decide +kernel
theorem dX12_ofMan_7 : decode cX12_ofMan 7 = .ok (.aload_n 0, 1) := by decide +kernel
theorem dX12_ofMan_8 : decode cX12_ofMan 8 = .ok (.getfield 9, 3) := by decide +kernel
theorem dX12_ofMan_11 : decode cX12_ofMan 11 = .ok (.iconst 1, 1) := by decide +kernel
theorem dX12_ofMan_12 : decode cX12_ofMan 12 = .ok (.iaload, 1) := by decide +kernel
theorem dX12_ofMan_13 : decode cX12_ofMan 13 = .ok (.if_icmp .ge 45, 3) := by decide +kernel
theorem dX12_ofMan_16 : decode cX12_ofMan 16 = .ok (.iload_n 3, 1) := by decide +kernel
theorem dX12_ofMan_17 : decode cX12_ofMan 17 = .ok (.iload_n 1, 1) := by decide +kernel
theorem dX12_ofMan_18 : decode cX12_ofMan 18 = .ok (.iload 4, 2) := by decide +kernel
theorem dX12_ofMan_20 : decode cX12_ofMan 20 = .ok (.ishr, 1) := by decide +kernel
theorem dX12_ofMan_21 : decode cX12_ofMan 21 = .ok (.iconst 1, 1) := by decide +kernel
theorem dX12_ofMan_22 : decode cX12_ofMan 22 = .ok (.iand, 1) := by decide +kernel
theorem dX12_ofMan_23 : decode cX12_ofMan 23 = .ok (.iconst 1, 1) := by decide +kernel
theorem dX12_ofMan_24 : decode cX12_ofMan 24 = .ok (.if_icmp .ne 25, 3) := by decide +kernel
theorem dX12_ofMan_27 : decode cX12_ofMan 27 = .ok (.aload_n 0, 1) := by decide +kernel
theorem dX12_ofMan_28 : decode cX12_ofMan 28 = .ok (.getfield 9, 3) := by decide +kernel
theorem dX12_ofMan_31 : decode cX12_ofMan 31 = .ok (.sipush 130, 3) := by decide +kernel
theorem dX12_ofMan_34 : decode cX12_ofMan 34 = .ok (.iload 4, 2) := by decide +kernel
theorem dX12_ofMan_36 : decode cX12_ofMan 36 = .ok (.iadd, 1) := by decide +kernel
theorem dX12_ofMan_37 : decode cX12_ofMan 37 = .ok (.iaload, 1) := by decide +kernel
theorem dX12_ofMan_38 : decode cX12_ofMan 38 = .ok (.iload_n 2, 1) := by decide +kernel
theorem dX12_ofMan_39 : decode cX12_ofMan 39 = .ok (.if_icmp .ne 10, 3) := by decide +kernel
theorem dX12_ofMan_42 : decode cX12_ofMan 42 = .ok (.iconst 1, 1) := by decide +kernel
theorem dX12_ofMan_43 : decode cX12_ofMan 43 = .ok (.iload 4, 2) := by decide +kernel
theorem dX12_ofMan_45 : decode cX12_ofMan 45 = .ok (.ishl, 1) := by decide +kernel
theorem dX12_ofMan_46 : decode cX12_ofMan 46 = .ok (.goto 4, 3) := by decide +kernel
theorem dX12_ofMan_49 : decode cX12_ofMan 49 = .ok (.iconst 0, 1) := by decide +kernel
theorem dX12_ofMan_50 : decode cX12_ofMan 50 = .ok (.ior, 1) := by decide +kernel
theorem dX12_ofMan_51 : decode cX12_ofMan 51 = .ok (.istore_n 3, 1) := by decide +kernel
theorem dX12_ofMan_52 : decode cX12_ofMan 52 = .ok (.iinc 4 1, 3) := by decide +kernel
theorem dX12_ofMan_55 : decode cX12_ofMan 55 = .ok (.goto (-50), 3) := by decide +kernel
theorem dX12_ofMan_58 : decode cX12_ofMan 58 = .ok (.iload_n 3, 1) := by decide +kernel
theorem dX12_ofMan_59 : decode cX12_ofMan 59 = .ok (.ireturn, 1) := by decide +kernel
def f_X12_ofMan_K58 (x1 : Int32) (S2 : HSt) : Option (Int32 × HSt) := some (x1, S2)
def f_X12_ofMan_B5 (a0 : Nat) (a1 : Int32) (a2 : Int32) (kx58 : (Int32 → HSt → Option (Int32 × HSt))) (kb5 : (Int32 → Int32 → HSt → Option (Int32 × HSt))) (x3 : Int32) (x4 : Int32) (S5 : HSt) : Option (Int32 × HSt) := (gR S5 a0 12 1).bind fun b6 => (aI S5 b6 0 1).bind fun v9 => if v9 ≤ x4 then (kx58 x3 S5) else (if ((a1 >>> (x4 &&& 31)) &&& 1) = 1 then ((gR S5 a0 12 1).bind fun b12 => (aI S5 b12 0 (130 + x4)).bind fun v15 => if v15 = a2 then (kb5 (x3 ||| (1 <<< (x4 &&& 31))) (x4 + 1) S5) else (kb5 (x3 ||| 0) (x4 + 1) S5)) else (kb5 (x3 ||| 0) (x4 + 1) S5))
def f_X12_ofMan_L5 (a0 : Nat) (a1 : Int32) (a2 : Int32) (kx58 : (Int32 → HSt → Option (Int32 × HSt))) : Nat → Int32 → Int32 → HSt → Option (Int32 × HSt)
  | 0, _, _, _ => none
  | n + 1, x3, x4, S => f_X12_ofMan_B5 a0 a1 a2 kx58 (f_X12_ofMan_L5 a0 a1 a2 kx58 n) x3 x4 S
def f_X12_ofMan (S : HSt) (a0 : Nat) (a1 : Int32) (a2 : Int32) : Option (Int32 × HSt) := (f_X12_ofMan_L5 a0 a1 a2 f_X12_ofMan_K58 FU) 0 0 S
abbrev rm_X12_ofMan : Room := { frames := 0, cells := 0, slots := 0, locals := 0 }
abbrev w_X12_ofMan : List Cond := Cond.code yX12_ofMan cX12_ofMan 5 (Option.some FieldType.int) :: lwG
theorem yd_X12_ofMan : yX12_ofMan.cls ≠ "java/lang/invoke/MethodHandle" ∧ yX12_ofMan.cls ≠ "java/lang/invoke/VarHandle" ∧ (parseMethodDescriptor yX12_ofMan.desc).map (fun d => d.parameters.length) = some 2 := by decide +kernel
theorem ye_X12_ofMan : yX12_ofMan.cls = RX12 ∧ yX12_ofMan.cls ≠ "java/lang/invoke/MethodHandle" ∧ yX12_ofMan.cls ≠ "java/lang/invoke/VarHandle" ∧ (parseMethodDescriptor yX12_ofMan.desc).map (fun d => d.parameters.length) = some 2 := by decide +kernel
set_option maxHeartbeats 4000000 in
set_option maxRecDepth 100000 in
theorem c_X12_ofMan (l : Launch) (D : va_G) (kA ρ : Nat → Nat) (HB : Heap) (S : HSt) (a0 : Nat) (a1 : Int32) (a2 : Int32) (res : Int32 × HSt) (h : f_X12_ofMan S a0 a1 a2 = some res) : Met l yX12_ofMan w_X12_ofMan rm_X12_ofMan (hPc D kA ρ HB S [.ref a0, .int a1, .int a2]) (hQi D kA HB S res) 0 0 (hFree HB) := by
  refine Met.ofW (cc := cX12_ofMan) (maxL := 5) (ret := (Option.some FieldType.int)) (by decide) rfl ?_
  intro p e s m args below meth c s₁ B hml hv
  obtain ⟨rfl, hE, h0⟩ := hv
  have hx := B.exec
  have hb := B.bytes
  have hr := B.returns
  have hts0 := atoms_spec (ws := w_X12_ofMan) B.pre
  have hts : ∀ w ∈ lwG, w.before _ s = true := fun w hw => hts0 w (List.mem_cons_of_mem _ hw)
  have hown : s.vm.findClass RX12 = some m.cls := findClass_of_methodNamed B.named
  have hlocks := B.notSynchronized
  have hI : hqX D kA HB S.2 S s.heap [] := ⟨h0, Nat.le_refl _, fun _ q => absurd q List.not_mem_nil⟩
  have hl := lv_entry ([.ref a0, .int a1, .int a2]) (n := 5) (Nat.le_of_ble_eq_true rfl)
  rw [lg_entry_eq]
  generalize (lg_sl ([.ref a0, .int a1, .int a2]) ++ List.replicate (5 - (lg_sl ([.ref a0, .int a1, .int a2])).length) Slot.unset).toArray = ls at hl ⊢
  have hl : lv_has ls 5 [(0, .ref a0), (1, .int a1), (2, .int a2)] := hl
  unfold f_X12_ofMan at h
  refine lv_iconst (v := 0) hx hb dX12_ofMan_0 (by decide) ?_
  refine lv_istore_n (lv' := [(3, .int 0), (0, .ref a0), (1, .int a1), (2, .int a2)]) hx hb dX12_ofMan_1 rfl hl (by decide) rfl (fun ls hl => ?_)
  refine lv_iconst (v := 0) hx hb dX12_ofMan_2 (by decide) ?_
  refine lv_istore (lv' := [(4, .int 0), (3, .int 0), (0, .ref a0), (1, .int a1), (2, .int a2)]) hx hb dX12_ofMan_3 hl (by decide) rfl (fun ls hl => ?_)
  have hK58 : ∀ (x1 : Int32) (S2 : HSt) (H : Heap) (locs : List Loc) (ls : Array Slot), f_X12_ofMan_K58 x1 S2 = some res → hqX D kA HB S.2 S2 H locs → lv_has ls 5 [(3, .int x1)] → W p l e rm_X12_ofMan s m ([.ref a0, .int a1, .int a2] : List Value).toArray below meth c H locs 0 0 (MQ below (hQi D kA HB S res) ([.ref a0, .int a1, .int a2] : List Value).toArray s 0 0 (hFree HB)) (F0 m 58 ls []) := by
    intro x1 S2 H locs ls h hI hl
    unfold f_X12_ofMan_K58 at h
    refine lv_iload_n hx hb dX12_ofMan_58 rfl (lv_at hl 0 rfl) ?_
    exact hq_iret hx hb hr hlocks h0 hI h dX12_ofMan_59
  have hL5 : ∀ (n5 : Nat) (x3 : Int32) (x4 : Int32) (S5 : HSt) (H : Heap) (locs : List Loc) (ls : Array Slot), (f_X12_ofMan_L5 a0 a1 a2 f_X12_ofMan_K58 n5) x3 x4 S5 = some res → hqX D kA HB S.2 S5 H locs → lv_has ls 5 [(0, .ref a0), (1, .int a1), (2, .int a2), (3, .int x3), (4, .int x4)] → W p l e rm_X12_ofMan s m ([.ref a0, .int a1, .int a2] : List Value).toArray below meth c H locs 0 0 (MQ below (hQi D kA HB S res) ([.ref a0, .int a1, .int a2] : List Value).toArray s 0 0 (hFree HB)) (F0 m 5 ls []) := by
    intro n5
    induction n5 with
    | zero =>
      intro x3 x4 S5 H locs ls h
      have h : (none : Option (Int32 × HSt)) = some res := h
      cases h
    | succ n5 ih5 =>
      intro x3 x4 S5 H locs ls h hI hl
      have h : f_X12_ofMan_B5 a0 a1 a2 f_X12_ofMan_K58 (f_X12_ofMan_L5 a0 a1 a2 f_X12_ofMan_K58 n5) x3 x4 S5 = some res := h
      unfold f_X12_ofMan_B5 at h
      refine lv_iload hx hb dX12_ofMan_5 (lv_at hl 4 rfl) ?_
      refine lv_aload_n hx hb dX12_ofMan_7 rfl (lv_at hl 0 rfl) ?_
      obtain ⟨b6, g7, h⟩ := hq_bind h
      obtain ⟨fs_g7, hs_g7, hv_g7⟩ := gR_at g7
      refine hq_get hx hb hts hown hE hI hs_g7 inG12 rfl 1 (by decide) kw_945 hv_g7 dX12_ofMan_8 ?_
      refine lv_iconst (v := 1) hx hb dX12_ofMan_11 (by decide) ?_
      obtain ⟨v9, g8, h⟩ := hq_bind h
      refine hq_iald hx hb hE hI g8 dX12_ofMan_12 ?_
      refine lv_icmp_ge (tgt := 58) hx hb dX12_ofMan_13 (by decide) (fun c10 => ?_) (fun c10 => ?_)
      · have h := hq_t h c10
        exact hK58 x3 S5 _ _ _ h hI (lv_sub hl [3] rfl)
      · have h := hq_f h c10
        refine lv_iload_n hx hb dX12_ofMan_16 rfl (lv_at hl 3 rfl) ?_
        refine lv_iload_n hx hb dX12_ofMan_17 rfl (lv_at hl 1 rfl) ?_
        refine lv_iload hx hb dX12_ofMan_18 (lv_at hl 4 rfl) ?_
        refine lv_ishr hx hb dX12_ofMan_20 ?_
        refine lv_iconst (v := 1) hx hb dX12_ofMan_21 (by decide) ?_
        refine lv_iand hx hb dX12_ofMan_22 ?_
        refine lv_iconst (v := 1) hx hb dX12_ofMan_23 (by decide) ?_
        refine lv_icmp_ne (tgt := 49) hx hb dX12_ofMan_24 (by decide) (fun c11 => ?_) (fun c11 => ?_)
        · have h := hq_f h c11
          refine lv_iconst (v := 0) hx hb dX12_ofMan_49 (by decide) ?_
          refine lv_ior hx hb dX12_ofMan_50 ?_
          refine lv_istore_n (lv' := [(3, .int (x3 ||| 0)), (0, .ref a0), (1, .int a1), (2, .int a2), (4, .int x4)]) hx hb dX12_ofMan_51 rfl hl (by decide) rfl (fun ls hl => ?_)
          refine lv_iinc (v := (x4 + 1)) (lv' := [(4, .int (x4 + 1)), (3, .int (x3 ||| 0)), (0, .ref a0), (1, .int a1), (2, .int a2)]) hx hb dX12_ofMan_52 hl (k := 4) rfl rfl (by decide) rfl (fun ls hl => ?_)
          refine lv_goto (tgt := 5) hx hb dX12_ofMan_55 (by decide) ?_
          exact ih5 (x3 ||| 0) (x4 + 1) S5 _ _ _ h hI (lv_sub hl [2, 3, 4, 1, 0] rfl)
        · have h := hq_t h c11
          refine lv_aload_n hx hb dX12_ofMan_27 rfl (lv_at hl 0 rfl) ?_
          obtain ⟨b12, g13, h⟩ := hq_bind h
          obtain ⟨fs_g13, hs_g13, hv_g13⟩ := gR_at g13
          refine hq_get hx hb hts hown hE hI hs_g13 inG12 rfl 1 (by decide) kw_945 hv_g13 dX12_ofMan_28 ?_
          refine lv_sipush (v := 130) hx hb dX12_ofMan_31 (by decide) ?_
          refine lv_iload hx hb dX12_ofMan_34 (lv_at hl 4 rfl) ?_
          refine lv_iadd hx hb dX12_ofMan_36 ?_
          obtain ⟨v15, g14, h⟩ := hq_bind h
          refine hq_iald hx hb hE hI g14 dX12_ofMan_37 ?_
          refine lv_iload_n hx hb dX12_ofMan_38 rfl (lv_at hl 2 rfl) ?_
          refine lv_icmp_ne (tgt := 49) hx hb dX12_ofMan_39 (by decide) (fun c16 => ?_) (fun c16 => ?_)
          · have h := hq_f h c16
            refine lv_iconst (v := 0) hx hb dX12_ofMan_49 (by decide) ?_
            refine lv_ior hx hb dX12_ofMan_50 ?_
            refine lv_istore_n (lv' := [(3, .int (x3 ||| 0)), (0, .ref a0), (1, .int a1), (2, .int a2), (4, .int x4)]) hx hb dX12_ofMan_51 rfl hl (by decide) rfl (fun ls hl => ?_)
            refine lv_iinc (v := (x4 + 1)) (lv' := [(4, .int (x4 + 1)), (3, .int (x3 ||| 0)), (0, .ref a0), (1, .int a1), (2, .int a2)]) hx hb dX12_ofMan_52 hl (k := 4) rfl rfl (by decide) rfl (fun ls hl => ?_)
            refine lv_goto (tgt := 5) hx hb dX12_ofMan_55 (by decide) ?_
            exact ih5 (x3 ||| 0) (x4 + 1) S5 _ _ _ h hI (lv_sub hl [2, 3, 4, 1, 0] rfl)
          · have h := hq_t h c16
            refine lv_iconst (v := 1) hx hb dX12_ofMan_42 (by decide) ?_
            refine lv_iload hx hb dX12_ofMan_43 (lv_at hl 4 rfl) ?_
            refine lv_ishl hx hb dX12_ofMan_45 ?_
            refine lv_goto (tgt := 50) hx hb dX12_ofMan_46 (by decide) ?_
            refine lv_ior hx hb dX12_ofMan_50 ?_
            refine lv_istore_n (lv' := [(3, .int (x3 ||| (1 <<< (x4 &&& 31)))), (0, .ref a0), (1, .int a1), (2, .int a2), (4, .int x4)]) hx hb dX12_ofMan_51 rfl hl (by decide) rfl (fun ls hl => ?_)
            refine lv_iinc (v := (x4 + 1)) (lv' := [(4, .int (x4 + 1)), (3, .int (x3 ||| (1 <<< (x4 &&& 31)))), (0, .ref a0), (1, .int a1), (2, .int a2)]) hx hb dX12_ofMan_52 hl (k := 4) rfl rfl (by decide) rfl (fun ls hl => ?_)
            refine lv_goto (tgt := 5) hx hb dX12_ofMan_55 (by decide) ?_
            exact ih5 (x3 ||| (1 <<< (x4 &&& 31))) (x4 + 1) S5 _ _ _ h hI (lv_sub hl [2, 3, 4, 1, 0] rfl)
  exact hL5 FU 0 0 S _ _ _ h hI (lv_sub hl [2, 3, 4, 1, 0] rfl)
-- RodDipsModel.told(II)I
theorem dX12_told_0 : decode cX12_told 0 = .ok (.aload_n 0, 1) := by decide +kernel
theorem dX12_told_1 : decode cX12_told 1 = .ok (.iload_n 1, 1) := by decide +kernel
theorem dX12_told_2 : decode cX12_told 2 = .ok (.invokevirtual 177, 3) := by decide +kernel
theorem dX12_told_5 : decode cX12_told 5 = .ok (.ifCond .ne 5, 3) := by decide +kernel
theorem dX12_told_8 : decode cX12_told 8 = .ok (.iconst (-1), 1) := by decide +kernel
theorem dX12_told_9 : decode cX12_told 9 = .ok (.ireturn, 1) := by decide +kernel
theorem dX12_told_10 : decode cX12_told 10 = .ok (.iload_n 2, 1) := by decide +kernel
theorem dX12_told_11 : decode cX12_told 11 = .ok (.tableswitch 77 0 3 #[29, 40, 51, 57], 29) := by decide +kernel
theorem dX12_told_40 : decode cX12_told 40 = .ok (.aload_n 0, 1) := by decide +kernel
theorem dX12_told_41 : decode cX12_told 41 = .ok (.getfield 9, 3) := by decide +kernel
theorem dX12_told_44 : decode cX12_told 44 = .ok (.sipush 310, 3) := by decide +kernel
theorem dX12_told_47 : decode cX12_told 47 = .ok (.iload_n 1, 1) := by decide +kernel
theorem dX12_told_48 : decode cX12_told 48 = .ok (.iadd, 1) := by decide +kernel
theorem dX12_told_49 : decode cX12_told 49 = .ok (.iaload, 1) := by decide +kernel
theorem dX12_told_50 : decode cX12_told 50 = .ok (.ireturn, 1) := by decide +kernel
theorem dX12_told_51 : decode cX12_told 51 = .ok (.aload_n 0, 1) := by decide +kernel
theorem dX12_told_52 : decode cX12_told 52 = .ok (.getfield 9, 3) := by decide +kernel
theorem dX12_told_55 : decode cX12_told 55 = .ok (.sipush 315, 3) := by decide +kernel
theorem dX12_told_58 : decode cX12_told 58 = .ok (.iload_n 1, 1) := by decide +kernel
theorem dX12_told_59 : decode cX12_told 59 = .ok (.iadd, 1) := by decide +kernel
theorem dX12_told_60 : decode cX12_told 60 = .ok (.iaload, 1) := by decide +kernel
theorem dX12_told_61 : decode cX12_told 61 = .ok (.ireturn, 1) := by decide +kernel
theorem dX12_told_62 : decode cX12_told 62 = .ok (.aload_n 0, 1) := by decide +kernel
theorem dX12_told_63 : decode cX12_told 63 = .ok (.iload_n 1, 1) := by decide +kernel
theorem dX12_told_64 : decode cX12_told 64 = .ok (.invokevirtual 180, 3) := by decide +kernel
theorem dX12_told_67 : decode cX12_told 67 = .ok (.ireturn, 1) := by decide +kernel
theorem dX12_told_68 : decode cX12_told 68 = .ok (.aload_n 0, 1) := by decide +kernel
theorem dX12_told_69 : decode cX12_told 69 = .ok (.aload_n 0, 1) := by decide +kernel
theorem dX12_told_70 : decode cX12_told 70 = .ok (.iload_n 1, 1) := by decide +kernel
theorem dX12_told_71 : decode cX12_told 71 = .ok (.invokevirtual 180, 3) := by decide +kernel
theorem dX12_told_74 : decode cX12_told 74 = .ok (.aload_n 0, 1) := by decide +kernel
theorem dX12_told_75 : decode cX12_told 75 = .ok (.getfield 9, 3) := by decide +kernel
theorem dX12_told_78 : decode cX12_told 78 = .ok (.sipush 310, 3) := by decide +kernel
theorem dX12_told_81 : decode cX12_told 81 = .ok (.iload_n 1, 1) := by decide +kernel
theorem dX12_told_82 : decode cX12_told 82 = .ok (.iadd, 1) := by decide +kernel
theorem dX12_told_83 : decode cX12_told 83 = .ok (.iaload, 1) := by decide +kernel
theorem dX12_told_84 : decode cX12_told 84 = .ok (.invokevirtual 183, 3) := by decide +kernel
theorem dX12_told_87 : decode cX12_told 87 = .ok (.ireturn, 1) := by decide +kernel
theorem dX12_told_88 : decode cX12_told 88 = .ok (.iconst (-1), 1) := by decide +kernel
theorem dX12_told_89 : decode cX12_told 89 = .ok (.ireturn, 1) := by decide +kernel
def f_X12_told (S : HSt) (a0 : Nat) (a1 : Int32) (a2 : Int32) : Option (Int32 × HSt) := if gC S a0 = some 12 then (bd2 (f_X12_isPlan S a0 a1) fun v4 S3 => if v4 = 0 then (some ((-1), S3)) else (if a2 = 0 then ((gR S3 a0 12 1).bind fun b10 => (aI S3 b10 0 (310 + a1)).bind fun v13 => some (v13, S3)) else (if a2 = 1 then ((gR S3 a0 12 1).bind fun b14 => (aI S3 b14 0 (315 + a1)).bind fun v17 => some (v17, S3)) else (if a2 = 2 then (if gC S3 a0 = some 12 then (bd2 (f_X12_counted S3 a0 a1) fun v21 S20 => some (v21, S20)) else none) else (if a2 = 3 then (if gC S3 a0 = some 12 then (bd2 (f_X12_counted S3 a0 a1) fun v25 S24 => (gR S24 a0 12 1).bind fun b26 => (aI S24 b26 0 (310 + a1)).bind fun v29 => if gC S24 a0 = some 12 then (bd2 (f_X12_hitsOf S24 a0 v25 v29) fun v33 S32 => some (v33, S32)) else none) else none) else (some ((-1), S3))))))) else none
abbrev rm_X12_told : Room := { frames := 6, cells := 0, slots := 0, locals := 137 }
abbrev w_X12_told : List Cond := Cond.code yX12_told cX12_told 3 (Option.some FieldType.int) :: lwG
theorem yd_X12_told : yX12_told.cls ≠ "java/lang/invoke/MethodHandle" ∧ yX12_told.cls ≠ "java/lang/invoke/VarHandle" ∧ (parseMethodDescriptor yX12_told.desc).map (fun d => d.parameters.length) = some 2 := by decide +kernel
theorem ye_X12_told : yX12_told.cls = RX12 ∧ yX12_told.cls ≠ "java/lang/invoke/MethodHandle" ∧ yX12_told.cls ≠ "java/lang/invoke/VarHandle" ∧ (parseMethodDescriptor yX12_told.desc).map (fun d => d.parameters.length) = some 2 := by decide +kernel
set_option maxHeartbeats 4000000 in
set_option maxRecDepth 100000 in
theorem c_X12_told (l : Launch) (D : va_G) (kA ρ : Nat → Nat) (HB : Heap) (S : HSt) (a0 : Nat) (a1 : Int32) (a2 : Int32) (res : Int32 × HSt) (h : f_X12_told S a0 a1 a2 = some res) : Met l yX12_told w_X12_told rm_X12_told (hPc D kA ρ HB S [.ref a0, .int a1, .int a2]) (hQi D kA HB S res) 0 0 (hFree HB) := by
  refine Met.ofW (cc := cX12_told) (maxL := 3) (ret := (Option.some FieldType.int)) (by decide) rfl ?_
  intro p e s m args below meth c s₁ B hml hv
  obtain ⟨rfl, hE, h0⟩ := hv
  have hx := B.exec
  have hb := B.bytes
  have hr := B.returns
  have hts0 := atoms_spec (ws := w_X12_told) B.pre
  have hts : ∀ w ∈ lwG, w.before _ s = true := fun w hw => hts0 w (List.mem_cons_of_mem _ hw)
  have hown : s.vm.findClass RX12 = some m.cls := findClass_of_methodNamed B.named
  have hlocks := B.notSynchronized
  have hI : hqX D kA HB S.2 S s.heap [] := ⟨h0, Nat.le_refl _, fun _ q => absurd q List.not_mem_nil⟩
  have hl := lv_entry ([.ref a0, .int a1, .int a2]) (n := 3) (Nat.le_of_ble_eq_true rfl)
  rw [lg_entry_eq]
  generalize (lg_sl ([.ref a0, .int a1, .int a2]) ++ List.replicate (3 - (lg_sl ([.ref a0, .int a1, .int a2])).length) Slot.unset).toArray = ls at hl ⊢
  have hl : lv_has ls 3 [(0, .ref a0), (1, .int a1), (2, .int a2)] := hl
  unfold f_X12_told at h
  refine lv_aload_n hx hb dX12_told_0 rfl (lv_at hl 0 rfl) ?_
  refine lv_iload_n hx hb dX12_told_1 rfl (lv_at hl 1 rfl) ?_
  obtain ⟨g2, h⟩ := hq_g h
  obtain ⟨v4, S3, g1, h⟩ := hq_bd2 h
  refine hq_calli hI (va_runV (As := [.int a1]) (rest := []) ⟨hx, hb, hml, hown, hts⟩ (c_X12_isPlan l D kA ρ HB S a0 a1 _ g1) (cwV 1 hts (gdIn (List.forall_mem_cons.mpr ⟨kw_1133, (List.forall_mem_cons.mpr ⟨kw_1135, (List.forall_mem_cons.mpr ⟨ks_48, (List.forall_mem_cons.mpr ⟨kw_6, (fun _ h => absurd h List.not_mem_nil)⟩)⟩)⟩)⟩) kw_1136) rfl rfl rfl ye_X12_isPlan ⟨Nat.le_of_ble_eq_true rfl, Nat.le_of_ble_eq_true rfl⟩) (hq_preC hE hI g2 rfl _) rfl rfl hl.1 rfl (lv_room (Nat.le_of_ble_eq_true rfl)) dX12_told_2 ⟨Nat.le_of_ble_eq_true rfl, Nat.le_of_ble_eq_true rfl⟩) (fun H locs hI => ?_)
  refine lv_if_ne (tgt := 10) hx hb dX12_told_5 (by decide) (fun c5 => ?_) (fun c5 => ?_)
  · have h := hq_f h c5
    refine lv_iload_n hx hb dX12_told_10 rfl (lv_at hl 2 rfl) ?_
    by_cases c6 : a2 = 0
    · have h := hq_t h c6
      refine lv_tableIn (tgt := 40) hx hb dX12_told_11 (by rw [c6]; decide) (by rw [c6]; decide) (by rw [c6]; rfl) (by decide) ?_
      refine lv_aload_n hx hb dX12_told_40 rfl (lv_at hl 0 rfl) ?_
      obtain ⟨b10, g11, h⟩ := hq_bind h
      obtain ⟨fs_g11, hs_g11, hv_g11⟩ := gR_at g11
      refine hq_get hx hb hts hown hE hI hs_g11 inG12 rfl 1 (by decide) kw_945 hv_g11 dX12_told_41 ?_
      refine lv_sipush (v := 310) hx hb dX12_told_44 (by decide) ?_
      refine lv_iload_n hx hb dX12_told_47 rfl (lv_at hl 1 rfl) ?_
      refine lv_iadd hx hb dX12_told_48 ?_
      obtain ⟨v13, g12, h⟩ := hq_bind h
      refine hq_iald hx hb hE hI g12 dX12_told_49 ?_
      exact hq_iret hx hb hr hlocks h0 hI h dX12_told_50
    have h := hq_f h c6
    by_cases c7 : a2 = 1
    · have h := hq_t h c7
      refine lv_tableIn (tgt := 51) hx hb dX12_told_11 (by rw [c7]; decide) (by rw [c7]; decide) (by rw [c7]; rfl) (by decide) ?_
      refine lv_aload_n hx hb dX12_told_51 rfl (lv_at hl 0 rfl) ?_
      obtain ⟨b14, g15, h⟩ := hq_bind h
      obtain ⟨fs_g15, hs_g15, hv_g15⟩ := gR_at g15
      refine hq_get hx hb hts hown hE hI hs_g15 inG12 rfl 1 (by decide) kw_945 hv_g15 dX12_told_52 ?_
      refine lv_sipush (v := 315) hx hb dX12_told_55 (by decide) ?_
      refine lv_iload_n hx hb dX12_told_58 rfl (lv_at hl 1 rfl) ?_
      refine lv_iadd hx hb dX12_told_59 ?_
      obtain ⟨v17, g16, h⟩ := hq_bind h
      refine hq_iald hx hb hE hI g16 dX12_told_60 ?_
      exact hq_iret hx hb hr hlocks h0 hI h dX12_told_61
    have h := hq_f h c7
    by_cases c8 : a2 = 2
    · have h := hq_t h c8
      refine lv_tableIn (tgt := 62) hx hb dX12_told_11 (by rw [c8]; decide) (by rw [c8]; decide) (by rw [c8]; rfl) (by decide) ?_
      refine lv_aload_n hx hb dX12_told_62 rfl (lv_at hl 0 rfl) ?_
      refine lv_iload_n hx hb dX12_told_63 rfl (lv_at hl 1 rfl) ?_
      obtain ⟨g19, h⟩ := hq_g h
      obtain ⟨v21, S20, g18, h⟩ := hq_bd2 h
      refine hq_calli hI (va_runV (As := [.int a1]) (rest := []) ⟨hx, hb, hml, hown, hts⟩ (c_X12_counted l D kA ρ HB S3 a0 a1 _ g18) (cwV 1 hts (gdIn (List.forall_mem_cons.mpr ⟨kw_1137, (List.forall_mem_cons.mpr ⟨kw_1139, (List.forall_mem_cons.mpr ⟨ks_49, (List.forall_mem_cons.mpr ⟨kw_6, (fun _ h => absurd h List.not_mem_nil)⟩)⟩)⟩)⟩) kw_1140) rfl rfl rfl ye_X12_counted ⟨Nat.le_of_ble_eq_true rfl, Nat.le_of_ble_eq_true rfl⟩) (hq_preC hE hI g19 rfl _) rfl rfl hl.1 rfl (lv_room (Nat.le_of_ble_eq_true rfl)) dX12_told_64 ⟨Nat.le_of_ble_eq_true rfl, Nat.le_of_ble_eq_true rfl⟩) (fun H locs hI => ?_)
      exact hq_iret hx hb hr hlocks h0 hI h dX12_told_67
    have h := hq_f h c8
    by_cases c9 : a2 = 3
    · have h := hq_t h c9
      refine lv_tableIn (tgt := 68) hx hb dX12_told_11 (by rw [c9]; decide) (by rw [c9]; decide) (by rw [c9]; rfl) (by decide) ?_
      refine lv_aload_n hx hb dX12_told_68 rfl (lv_at hl 0 rfl) ?_
      refine lv_aload_n hx hb dX12_told_69 rfl (lv_at hl 0 rfl) ?_
      refine lv_iload_n hx hb dX12_told_70 rfl (lv_at hl 1 rfl) ?_
      obtain ⟨g23, h⟩ := hq_g h
      obtain ⟨v25, S24, g22, h⟩ := hq_bd2 h
      refine hq_calli hI (va_runV (As := [.int a1]) (rest := [.ref a0]) ⟨hx, hb, hml, hown, hts⟩ (c_X12_counted l D kA ρ HB S3 a0 a1 _ g22) (cwV 1 hts (gdIn (List.forall_mem_cons.mpr ⟨kw_1137, (List.forall_mem_cons.mpr ⟨kw_1139, (List.forall_mem_cons.mpr ⟨ks_49, (List.forall_mem_cons.mpr ⟨kw_6, (fun _ h => absurd h List.not_mem_nil)⟩)⟩)⟩)⟩) kw_1140) rfl rfl rfl ye_X12_counted ⟨Nat.le_of_ble_eq_true rfl, Nat.le_of_ble_eq_true rfl⟩) (hq_preC hE hI g23 rfl _) rfl rfl hl.1 rfl (lv_room (Nat.le_of_ble_eq_true rfl)) dX12_told_71 ⟨Nat.le_of_ble_eq_true rfl, Nat.le_of_ble_eq_true rfl⟩) (fun H locs hI => ?_)
      refine lv_aload_n hx hb dX12_told_74 rfl (lv_at hl 0 rfl) ?_
      obtain ⟨b26, g27, h⟩ := hq_bind h
      obtain ⟨fs_g27, hs_g27, hv_g27⟩ := gR_at g27
      refine hq_get hx hb hts hown hE hI hs_g27 inG12 rfl 1 (by decide) kw_945 hv_g27 dX12_told_75 ?_
      refine lv_sipush (v := 310) hx hb dX12_told_78 (by decide) ?_
      refine lv_iload_n hx hb dX12_told_81 rfl (lv_at hl 1 rfl) ?_
      refine lv_iadd hx hb dX12_told_82 ?_
      obtain ⟨v29, g28, h⟩ := hq_bind h
      refine hq_iald hx hb hE hI g28 dX12_told_83 ?_
      obtain ⟨g31, h⟩ := hq_g h
      obtain ⟨v33, S32, g30, h⟩ := hq_bd2 h
      refine hq_calli hI (va_runV (As := [.int v25, .int v29]) (rest := []) ⟨hx, hb, hml, hown, hts⟩ (c_X12_hitsOf l D kA ρ HB S24 a0 v25 v29 _ g30) (cwV 2 hts (gdIn (List.forall_mem_cons.mpr ⟨kw_1157, (List.forall_mem_cons.mpr ⟨kw_1159, (List.forall_mem_cons.mpr ⟨ks_54, (List.forall_mem_cons.mpr ⟨kw_6, (fun _ h => absurd h List.not_mem_nil)⟩)⟩)⟩)⟩) kw_1160) rfl rfl rfl ye_X12_hitsOf ⟨Nat.le_of_ble_eq_true rfl, Nat.le_of_ble_eq_true rfl⟩) (hq_preC hE hI g31 rfl _) rfl rfl hl.1 rfl (lv_room (Nat.le_of_ble_eq_true rfl)) dX12_told_84 ⟨Nat.le_of_ble_eq_true rfl, Nat.le_of_ble_eq_true rfl⟩) (fun H locs hI => ?_)
      exact hq_iret hx hb hr hlocks h0 hI h dX12_told_87
    have h := hq_f h c9
    have t_c6 := lv_neT c6 (a := 0) (by decide)
    have t_c7 := lv_neT c7 (a := 1) (by decide)
    have t_c8 := lv_neT c8 (a := 2) (by decide)
    have t_c9 := lv_neT c9 (a := 3) (by decide)
    refine lv_tableOut (tgt := 88) hx hb dX12_told_11 (by omega) (by decide) ?_
    refine lv_iconst (v := (-1)) hx hb dX12_told_88 (by decide) ?_
    exact hq_iret hx hb hr hlocks h0 hI h dX12_told_89
  · have h := hq_t h c5
    refine lv_iconst (v := (-1)) hx hb dX12_told_8 (by decide) ?_
    exact hq_iret hx hb hr hlocks h0 hI h dX12_told_9
-- RodDipsModel.passing(I)I
theorem dX12_passing_0 : decode cX12_passing 0 = .ok (.aload_n 0, 1) := by decide +kernel
theorem dX12_passing_1 : decode cX12_passing 1 = .ok (.aload_n 0, 1) := by decide +kernel
theorem dX12_passing_2 : decode cX12_passing 2 = .ok (.iload_n 1, 1) := by decide +kernel
theorem dX12_passing_3 : decode cX12_passing 3 = .ok (.invokevirtual 180, 3) := by decide +kernel
theorem dX12_passing_6 : decode cX12_passing 6 = .ok (.aload_n 0, 1) := by decide +kernel
theorem dX12_passing_7 : decode cX12_passing 7 = .ok (.getfield 9, 3) := by decide +kernel
theorem dX12_passing_10 : decode cX12_passing 10 = .ok (.sipush 310, 3) := by decide +kernel
theorem dX12_passing_13 : decode cX12_passing 13 = .ok (.iload_n 1, 1) := by decide +kernel
theorem dX12_passing_14 : decode cX12_passing 14 = .ok (.iadd, 1) := by decide +kernel
theorem dX12_passing_15 : decode cX12_passing 15 = .ok (.iaload, 1) := by decide +kernel
theorem dX12_passing_16 : decode cX12_passing 16 = .ok (.invokevirtual 183, 3) := by decide +kernel
theorem dX12_passing_19 : decode cX12_passing 19 = .ok (.istore_n 2, 1) := by decide +kernel
theorem dX12_passing_20 : decode cX12_passing 20 = .ok (.iconst 0, 1) := by decide +kernel
theorem dX12_passing_21 : decode cX12_passing 21 = .ok (.istore_n 3, 1) := by decide +kernel
theorem dX12_passing_22 : decode cX12_passing 22 = .ok (.iconst 0, 1) := by decide +kernel
theorem dX12_passing_23 : decode cX12_passing 23 = .ok (.istore 4, 2) := by decide +kernel
theorem dX12_passing_25 : decode cX12_passing 25 = .ok (.iload 4, 2) := by decide +kernel
theorem dX12_passing_27 : decode cX12_passing 27 = .ok (.bipush 6, 2) := by decide +kernel
theorem dX12_passing_29 : decode cX12_passing 29 = .ok (.if_icmp .ge 43, 3) := by decide +kernel
theorem dX12_passing_32 : decode cX12_passing 32 = .ok (.iload_n 3, 1) := by decide +kernel
theorem dX12_passing_33 : decode cX12_passing 33 = .ok (.aload_n 0, 1) := by decide +kernel
theorem dX12_passing_34 : decode cX12_passing 34 = .ok (.iload_n 2, 1) := by decide +kernel
theorem dX12_passing_35 : decode cX12_passing 35 = .ok (.iload 4, 2) := by decide +kernel
theorem dX12_passing_37 : decode cX12_passing 37 = .ok (.invokevirtual 187, 3) := by decide +kernel
theorem dX12_passing_40 : decode cX12_passing 40 = .ok (.invokestatic 190, 3) := by decide +kernel
theorem dX12_passing_43 : decode cX12_passing 43 = .ok (.aload_n 0, 1) := by decide +kernel
theorem dX12_passing_44 : decode cX12_passing 44 = .ok (.getfield 9, 3) := by decide +kernel
theorem dX12_passing_47 : decode cX12_passing 47 = .ok (.sipush 315, 3) := by decide +kernel
theorem dX12_passing_50 : decode cX12_passing 50 = .ok (.iload_n 1, 1) := by decide +kernel
theorem dX12_passing_51 : decode cX12_passing 51 = .ok (.iadd, 1) := by decide +kernel
theorem dX12_passing_52 : decode cX12_passing 52 = .ok (.iaload, 1) := by decide +kernel
theorem dX12_passing_53 : decode cX12_passing 53 = .ok (.if_icmp .lt 10, 3) := by decide +kernel
theorem dX12_passing_56 : decode cX12_passing 56 = .ok (.iconst 1, 1) := by decide +kernel
theorem dX12_passing_57 : decode cX12_passing 57 = .ok (.iload 4, 2) := by decide +kernel
theorem dX12_passing_59 : decode cX12_passing 59 = .ok (.ishl, 1) := by decide +kernel
theorem dX12_passing_60 : decode cX12_passing 60 = .ok (.goto 4, 3) := by decide +kernel
theorem dX12_passing_63 : decode cX12_passing 63 = .ok (.iconst 0, 1) := by decide +kernel
theorem dX12_passing_64 : decode cX12_passing 64 = .ok (.ior, 1) := by decide +kernel
theorem dX12_passing_65 : decode cX12_passing 65 = .ok (.istore_n 3, 1) := by decide +kernel
theorem dX12_passing_66 : decode cX12_passing 66 = .ok (.iinc 4 1, 3) := by decide +kernel
theorem dX12_passing_69 : decode cX12_passing 69 = .ok (.goto (-44), 3) := by decide +kernel
theorem dX12_passing_72 : decode cX12_passing 72 = .ok (.iload_n 3, 1) := by decide +kernel
theorem dX12_passing_73 : decode cX12_passing 73 = .ok (.ireturn, 1) := by decide +kernel
def f_X12_passing_K72 (x13 : Int32) (S14 : HSt) : Option (Int32 × HSt) := some (x13, S14)
def f_X12_passing_B25 (a0 : Nat) (a1 : Int32) (v12 : Int32) (kx72 : (Int32 → HSt → Option (Int32 × HSt))) (kb25 : (Int32 → Int32 → HSt → Option (Int32 × HSt))) (x15 : Int32) (x16 : Int32) (S17 : HSt) : Option (Int32 × HSt) := if 6 ≤ x16 then (kx72 x15 S17) else (if gC S17 a0 = some 12 then (bd2 (f_X12_ofMan S17 a0 v12 x16) fun v22 S21 => bd2 (f_X12_count1 S21 v22) fun v25 S24 => (gR S24 a0 12 1).bind fun b26 => (aI S24 b26 0 (315 + a1)).bind fun v29 => if v25 < v29 then (kb25 (x15 ||| 0) (x16 + 1) S24) else (kb25 (x15 ||| (1 <<< (x16 &&& 31))) (x16 + 1) S24)) else none)
def f_X12_passing_L25 (a0 : Nat) (a1 : Int32) (v12 : Int32) (kx72 : (Int32 → HSt → Option (Int32 × HSt))) : Nat → Int32 → Int32 → HSt → Option (Int32 × HSt)
  | 0, _, _, _ => none
  | n + 1, x15, x16, S => f_X12_passing_B25 a0 a1 v12 kx72 (f_X12_passing_L25 a0 a1 v12 kx72 n) x15 x16 S
def f_X12_passing (S : HSt) (a0 : Nat) (a1 : Int32) : Option (Int32 × HSt) := if gC S a0 = some 12 then (bd2 (f_X12_counted S a0 a1) fun v4 S3 => (gR S3 a0 12 1).bind fun b5 => (aI S3 b5 0 (310 + a1)).bind fun v8 => if gC S3 a0 = some 12 then (bd2 (f_X12_hitsOf S3 a0 v4 v8) fun v12 S11 => (f_X12_passing_L25 a0 a1 v12 f_X12_passing_K72 FU) 0 0 S11) else none) else none
abbrev rm_X12_passing : Room := { frames := 6, cells := 0, slots := 0, locals := 137 }
abbrev w_X12_passing : List Cond := Cond.code yX12_passing cX12_passing 5 (Option.some FieldType.int) :: lwG
theorem yd_X12_passing : yX12_passing.cls ≠ "java/lang/invoke/MethodHandle" ∧ yX12_passing.cls ≠ "java/lang/invoke/VarHandle" ∧ (parseMethodDescriptor yX12_passing.desc).map (fun d => d.parameters.length) = some 1 := by decide +kernel
theorem ye_X12_passing : yX12_passing.cls = RX12 ∧ yX12_passing.cls ≠ "java/lang/invoke/MethodHandle" ∧ yX12_passing.cls ≠ "java/lang/invoke/VarHandle" ∧ (parseMethodDescriptor yX12_passing.desc).map (fun d => d.parameters.length) = some 1 := by decide +kernel
set_option maxHeartbeats 4000000 in
set_option maxRecDepth 100000 in
theorem c_X12_passing (l : Launch) (D : va_G) (kA ρ : Nat → Nat) (HB : Heap) (S : HSt) (a0 : Nat) (a1 : Int32) (res : Int32 × HSt) (h : f_X12_passing S a0 a1 = some res) : Met l yX12_passing w_X12_passing rm_X12_passing (hPc D kA ρ HB S [.ref a0, .int a1]) (hQi D kA HB S res) 0 0 (hFree HB) := by
  refine Met.ofW (cc := cX12_passing) (maxL := 5) (ret := (Option.some FieldType.int)) (by decide) rfl ?_
  intro p e s m args below meth c s₁ B hml hv
  obtain ⟨rfl, hE, h0⟩ := hv
  have hx := B.exec
  have hb := B.bytes
  have hr := B.returns
  have hts0 := atoms_spec (ws := w_X12_passing) B.pre
  have hts : ∀ w ∈ lwG, w.before _ s = true := fun w hw => hts0 w (List.mem_cons_of_mem _ hw)
  have hown : s.vm.findClass RX12 = some m.cls := findClass_of_methodNamed B.named
  have hlocks := B.notSynchronized
  have hI : hqX D kA HB S.2 S s.heap [] := ⟨h0, Nat.le_refl _, fun _ q => absurd q List.not_mem_nil⟩
  have hl := lv_entry ([.ref a0, .int a1]) (n := 5) (Nat.le_of_ble_eq_true rfl)
  rw [lg_entry_eq]
  generalize (lg_sl ([.ref a0, .int a1]) ++ List.replicate (5 - (lg_sl ([.ref a0, .int a1])).length) Slot.unset).toArray = ls at hl ⊢
  have hl : lv_has ls 5 [(0, .ref a0), (1, .int a1)] := hl
  unfold f_X12_passing at h
  refine lv_aload_n hx hb dX12_passing_0 rfl (lv_at hl 0 rfl) ?_
  refine lv_aload_n hx hb dX12_passing_1 rfl (lv_at hl 0 rfl) ?_
  refine lv_iload_n hx hb dX12_passing_2 rfl (lv_at hl 1 rfl) ?_
  obtain ⟨g2, h⟩ := hq_g h
  obtain ⟨v4, S3, g1, h⟩ := hq_bd2 h
  refine hq_calli hI (va_runV (As := [.int a1]) (rest := [.ref a0]) ⟨hx, hb, hml, hown, hts⟩ (c_X12_counted l D kA ρ HB S a0 a1 _ g1) (cwV 1 hts (gdIn (List.forall_mem_cons.mpr ⟨kw_1137, (List.forall_mem_cons.mpr ⟨kw_1139, (List.forall_mem_cons.mpr ⟨ks_49, (List.forall_mem_cons.mpr ⟨kw_6, (fun _ h => absurd h List.not_mem_nil)⟩)⟩)⟩)⟩) kw_1140) rfl rfl rfl ye_X12_counted ⟨Nat.le_of_ble_eq_true rfl, Nat.le_of_ble_eq_true rfl⟩) (hq_preC hE hI g2 rfl _) rfl rfl hl.1 rfl (lv_room (Nat.le_of_ble_eq_true rfl)) dX12_passing_3 ⟨Nat.le_of_ble_eq_true rfl, Nat.le_of_ble_eq_true rfl⟩) (fun H locs hI => ?_)
  refine lv_aload_n hx hb dX12_passing_6 rfl (lv_at hl 0 rfl) ?_
  obtain ⟨b5, g6, h⟩ := hq_bind h
  obtain ⟨fs_g6, hs_g6, hv_g6⟩ := gR_at g6
  refine hq_get hx hb hts hown hE hI hs_g6 inG12 rfl 1 (by decide) kw_945 hv_g6 dX12_passing_7 ?_
  refine lv_sipush (v := 310) hx hb dX12_passing_10 (by decide) ?_
  refine lv_iload_n hx hb dX12_passing_13 rfl (lv_at hl 1 rfl) ?_
  refine lv_iadd hx hb dX12_passing_14 ?_
  obtain ⟨v8, g7, h⟩ := hq_bind h
  refine hq_iald hx hb hE hI g7 dX12_passing_15 ?_
  obtain ⟨g10, h⟩ := hq_g h
  obtain ⟨v12, S11, g9, h⟩ := hq_bd2 h
  refine hq_calli hI (va_runV (As := [.int v4, .int v8]) (rest := []) ⟨hx, hb, hml, hown, hts⟩ (c_X12_hitsOf l D kA ρ HB S3 a0 v4 v8 _ g9) (cwV 2 hts (gdIn (List.forall_mem_cons.mpr ⟨kw_1157, (List.forall_mem_cons.mpr ⟨kw_1159, (List.forall_mem_cons.mpr ⟨ks_54, (List.forall_mem_cons.mpr ⟨kw_6, (fun _ h => absurd h List.not_mem_nil)⟩)⟩)⟩)⟩) kw_1160) rfl rfl rfl ye_X12_hitsOf ⟨Nat.le_of_ble_eq_true rfl, Nat.le_of_ble_eq_true rfl⟩) (hq_preC hE hI g10 rfl _) rfl rfl hl.1 rfl (lv_room (Nat.le_of_ble_eq_true rfl)) dX12_passing_16 ⟨Nat.le_of_ble_eq_true rfl, Nat.le_of_ble_eq_true rfl⟩) (fun H locs hI => ?_)
  refine lv_istore_n (lv' := [(2, .int v12), (0, .ref a0), (1, .int a1)]) hx hb dX12_passing_19 rfl hl (by decide) rfl (fun ls hl => ?_)
  refine lv_iconst (v := 0) hx hb dX12_passing_20 (by decide) ?_
  refine lv_istore_n (lv' := [(3, .int 0), (2, .int v12), (0, .ref a0), (1, .int a1)]) hx hb dX12_passing_21 rfl hl (by decide) rfl (fun ls hl => ?_)
  refine lv_iconst (v := 0) hx hb dX12_passing_22 (by decide) ?_
  refine lv_istore (lv' := [(4, .int 0), (3, .int 0), (2, .int v12), (0, .ref a0), (1, .int a1)]) hx hb dX12_passing_23 hl (by decide) rfl (fun ls hl => ?_)
  have hK72 : ∀ (x13 : Int32) (S14 : HSt) (H : Heap) (locs : List Loc) (ls : Array Slot), f_X12_passing_K72 x13 S14 = some res → hqX D kA HB S.2 S14 H locs → lv_has ls 5 [(3, .int x13)] → W p l e rm_X12_passing s m ([.ref a0, .int a1] : List Value).toArray below meth c H locs 0 0 (MQ below (hQi D kA HB S res) ([.ref a0, .int a1] : List Value).toArray s 0 0 (hFree HB)) (F0 m 72 ls []) := by
    intro x13 S14 H locs ls h hI hl
    unfold f_X12_passing_K72 at h
    refine lv_iload_n hx hb dX12_passing_72 rfl (lv_at hl 0 rfl) ?_
    exact hq_iret hx hb hr hlocks h0 hI h dX12_passing_73
  have hL25 : ∀ (n25 : Nat) (x15 : Int32) (x16 : Int32) (S17 : HSt) (H : Heap) (locs : List Loc) (ls : Array Slot), (f_X12_passing_L25 a0 a1 v12 f_X12_passing_K72 n25) x15 x16 S17 = some res → hqX D kA HB S.2 S17 H locs → lv_has ls 5 [(0, .ref a0), (1, .int a1), (2, .int v12), (3, .int x15), (4, .int x16)] → W p l e rm_X12_passing s m ([.ref a0, .int a1] : List Value).toArray below meth c H locs 0 0 (MQ below (hQi D kA HB S res) ([.ref a0, .int a1] : List Value).toArray s 0 0 (hFree HB)) (F0 m 25 ls []) := by
    intro n25
    induction n25 with
    | zero =>
      intro x15 x16 S17 H locs ls h
      have h : (none : Option (Int32 × HSt)) = some res := h
      cases h
    | succ n25 ih25 =>
      intro x15 x16 S17 H locs ls h hI hl
      have h : f_X12_passing_B25 a0 a1 v12 f_X12_passing_K72 (f_X12_passing_L25 a0 a1 v12 f_X12_passing_K72 n25) x15 x16 S17 = some res := h
      unfold f_X12_passing_B25 at h
      refine lv_iload hx hb dX12_passing_25 (lv_at hl 4 rfl) ?_
      refine lv_bipush (v := 6) hx hb dX12_passing_27 (by decide) ?_
      refine lv_icmp_ge (tgt := 72) hx hb dX12_passing_29 (by decide) (fun c18 => ?_) (fun c18 => ?_)
      · have h := hq_t h c18
        exact hK72 x15 S17 _ _ _ h hI (lv_sub hl [3] rfl)
      · have h := hq_f h c18
        refine lv_iload_n hx hb dX12_passing_32 rfl (lv_at hl 3 rfl) ?_
        refine lv_aload_n hx hb dX12_passing_33 rfl (lv_at hl 0 rfl) ?_
        refine lv_iload_n hx hb dX12_passing_34 rfl (lv_at hl 2 rfl) ?_
        refine lv_iload hx hb dX12_passing_35 (lv_at hl 4 rfl) ?_
        obtain ⟨g20, h⟩ := hq_g h
        obtain ⟨v22, S21, g19, h⟩ := hq_bd2 h
        refine hq_calli hI (va_runV (As := [.int v12, .int x16]) (rest := [.int x15]) ⟨hx, hb, hml, hown, hts⟩ (c_X12_ofMan l D kA ρ HB S17 a0 v12 x16 _ g19) (cwV 2 hts (gdIn (List.forall_mem_cons.mpr ⟨kw_1169, (List.forall_mem_cons.mpr ⟨kw_1171, (List.forall_mem_cons.mpr ⟨ks_56, (List.forall_mem_cons.mpr ⟨kw_6, (fun _ h => absurd h List.not_mem_nil)⟩)⟩)⟩)⟩) kw_1172) rfl rfl rfl ye_X12_ofMan ⟨Nat.le_of_ble_eq_true rfl, Nat.le_of_ble_eq_true rfl⟩) (hq_preC hE hI g20 rfl _) rfl rfl hl.1 rfl (lv_room (Nat.le_of_ble_eq_true rfl)) dX12_passing_37 ⟨Nat.le_of_ble_eq_true rfl, Nat.le_of_ble_eq_true rfl⟩) (fun H locs hI => ?_)
        obtain ⟨v25, S24, g23, h⟩ := hq_bd2 h
        refine hq_calli hI (va_runS (As := [.int v22]) (rest := [.int x15]) ⟨hx, hb, hml, hown, hts⟩ (c_X12_count1 l D kA ρ HB S21 v22 _ g23) (va_cwS 1 hts (gdIn (List.forall_mem_cons.mpr ⟨kw_1173, (List.forall_mem_cons.mpr ⟨kw_1174, (List.forall_mem_cons.mpr ⟨kw_6, (fun _ h => absurd h List.not_mem_nil)⟩)⟩)⟩) kw_1175) rfl rfl rfl yd_X12_count1 ⟨Nat.le_of_ble_eq_true rfl, Nat.le_of_ble_eq_true rfl⟩) (hq_preS hE hI _) rfl rfl hl.1 rfl (lv_room (Nat.le_of_ble_eq_true rfl)) dX12_passing_40 ⟨Nat.le_of_ble_eq_true rfl, Nat.le_of_ble_eq_true rfl⟩) (fun H locs hI => ?_)
        refine lv_aload_n hx hb dX12_passing_43 rfl (lv_at hl 0 rfl) ?_
        obtain ⟨b26, g27, h⟩ := hq_bind h
        obtain ⟨fs_g27, hs_g27, hv_g27⟩ := gR_at g27
        refine hq_get hx hb hts hown hE hI hs_g27 inG12 rfl 1 (by decide) kw_945 hv_g27 dX12_passing_44 ?_
        refine lv_sipush (v := 315) hx hb dX12_passing_47 (by decide) ?_
        refine lv_iload_n hx hb dX12_passing_50 rfl (lv_at hl 1 rfl) ?_
        refine lv_iadd hx hb dX12_passing_51 ?_
        obtain ⟨v29, g28, h⟩ := hq_bind h
        refine hq_iald hx hb hE hI g28 dX12_passing_52 ?_
        refine lv_icmp_lt (tgt := 63) hx hb dX12_passing_53 (by decide) (fun c30 => ?_) (fun c30 => ?_)
        · have h := hq_t h c30
          refine lv_iconst (v := 0) hx hb dX12_passing_63 (by decide) ?_
          refine lv_ior hx hb dX12_passing_64 ?_
          refine lv_istore_n (lv' := [(3, .int (x15 ||| 0)), (0, .ref a0), (1, .int a1), (2, .int v12), (4, .int x16)]) hx hb dX12_passing_65 rfl hl (by decide) rfl (fun ls hl => ?_)
          refine lv_iinc (v := (x16 + 1)) (lv' := [(4, .int (x16 + 1)), (3, .int (x15 ||| 0)), (0, .ref a0), (1, .int a1), (2, .int v12)]) hx hb dX12_passing_66 hl (k := 4) rfl rfl (by decide) rfl (fun ls hl => ?_)
          refine lv_goto (tgt := 25) hx hb dX12_passing_69 (by decide) ?_
          exact ih25 (x15 ||| 0) (x16 + 1) S24 _ _ _ h hI (lv_sub hl [2, 3, 4, 1, 0] rfl)
        · have h := hq_f h c30
          refine lv_iconst (v := 1) hx hb dX12_passing_56 (by decide) ?_
          refine lv_iload hx hb dX12_passing_57 (lv_at hl 4 rfl) ?_
          refine lv_ishl hx hb dX12_passing_59 ?_
          refine lv_goto (tgt := 64) hx hb dX12_passing_60 (by decide) ?_
          refine lv_ior hx hb dX12_passing_64 ?_
          refine lv_istore_n (lv' := [(3, .int (x15 ||| (1 <<< (x16 &&& 31)))), (0, .ref a0), (1, .int a1), (2, .int v12), (4, .int x16)]) hx hb dX12_passing_65 rfl hl (by decide) rfl (fun ls hl => ?_)
          refine lv_iinc (v := (x16 + 1)) (lv' := [(4, .int (x16 + 1)), (3, .int (x15 ||| (1 <<< (x16 &&& 31)))), (0, .ref a0), (1, .int a1), (2, .int v12)]) hx hb dX12_passing_66 hl (k := 4) rfl rfl (by decide) rfl (fun ls hl => ?_)
          refine lv_goto (tgt := 25) hx hb dX12_passing_69 (by decide) ?_
          exact ih25 (x15 ||| (1 <<< (x16 &&& 31))) (x16 + 1) S24 _ _ _ h hI (lv_sub hl [2, 3, 4, 1, 0] rfl)
  exact hL25 FU 0 0 S11 _ _ _ h hI (lv_sub hl [3, 4, 2, 1, 0] rfl)
-- RodDipsModel.passes(I)I
theorem dX12_passes_0 : decode cX12_passes 0 = .ok (.aload_n 0, 1) := by decide +kernel
theorem dX12_passes_1 : decode cX12_passes 1 = .ok (.iload_n 1, 1) := by decide +kernel
theorem dX12_passes_2 : decode cX12_passes 2 = .ok (.invokevirtual 177, 3) := by decide +kernel
theorem dX12_passes_5 : decode cX12_passes 5 = .ok (.ifCond .eq 11, 3) := by decide +kernel
theorem dX12_passes_8 : decode cX12_passes 8 = .ok (.aload_n 0, 1) := by decide +kernel
theorem dX12_passes_9 : decode cX12_passes 9 = .ok (.iload_n 1, 1) := by decide +kernel
theorem dX12_passes_10 : decode cX12_passes 10 = .ok (.invokevirtual 193, 3) := by decide +kernel
theorem dX12_passes_13 : decode cX12_passes 13 = .ok (.goto 4, 3) := by decide +kernel
theorem dX12_passes_16 : decode cX12_passes 16 = .ok (.iconst (-1), 1) := by decide +kernel
theorem dX12_passes_17 : decode cX12_passes 17 = .ok (.ireturn, 1) := by decide +kernel
def f_X12_passes (S : HSt) (a0 : Nat) (a1 : Int32) : Option (Int32 × HSt) := if gC S a0 = some 12 then (bd2 (f_X12_isPlan S a0 a1) fun v4 S3 => if v4 = 0 then (some ((-1), S3)) else (if gC S3 a0 = some 12 then (bd2 (f_X12_passing S3 a0 a1) fun v9 S8 => some (v9, S8)) else none)) else none
abbrev rm_X12_passes : Room := { frames := 7, cells := 0, slots := 0, locals := 161 }
abbrev w_X12_passes : List Cond := Cond.code yX12_passes cX12_passes 2 (Option.some FieldType.int) :: lwG
theorem yd_X12_passes : yX12_passes.cls ≠ "java/lang/invoke/MethodHandle" ∧ yX12_passes.cls ≠ "java/lang/invoke/VarHandle" ∧ (parseMethodDescriptor yX12_passes.desc).map (fun d => d.parameters.length) = some 1 := by decide +kernel
theorem ye_X12_passes : yX12_passes.cls = RX12 ∧ yX12_passes.cls ≠ "java/lang/invoke/MethodHandle" ∧ yX12_passes.cls ≠ "java/lang/invoke/VarHandle" ∧ (parseMethodDescriptor yX12_passes.desc).map (fun d => d.parameters.length) = some 1 := by decide +kernel
set_option maxHeartbeats 4000000 in
set_option maxRecDepth 100000 in
theorem c_X12_passes (l : Launch) (D : va_G) (kA ρ : Nat → Nat) (HB : Heap) (S : HSt) (a0 : Nat) (a1 : Int32) (res : Int32 × HSt) (h : f_X12_passes S a0 a1 = some res) : Met l yX12_passes w_X12_passes rm_X12_passes (hPc D kA ρ HB S [.ref a0, .int a1]) (hQi D kA HB S res) 0 0 (hFree HB) := by
  refine Met.ofW (cc := cX12_passes) (maxL := 2) (ret := (Option.some FieldType.int)) (by decide) rfl ?_
  intro p e s m args below meth c s₁ B hml hv
  obtain ⟨rfl, hE, h0⟩ := hv
  have hx := B.exec
  have hb := B.bytes
  have hr := B.returns
  have hts0 := atoms_spec (ws := w_X12_passes) B.pre
  have hts : ∀ w ∈ lwG, w.before _ s = true := fun w hw => hts0 w (List.mem_cons_of_mem _ hw)
  have hown : s.vm.findClass RX12 = some m.cls := findClass_of_methodNamed B.named
  have hlocks := B.notSynchronized
  have hI : hqX D kA HB S.2 S s.heap [] := ⟨h0, Nat.le_refl _, fun _ q => absurd q List.not_mem_nil⟩
  have hl := lv_entry ([.ref a0, .int a1]) (n := 2) (Nat.le_of_ble_eq_true rfl)
  rw [lg_entry_eq]
  generalize (lg_sl ([.ref a0, .int a1]) ++ List.replicate (2 - (lg_sl ([.ref a0, .int a1])).length) Slot.unset).toArray = ls at hl ⊢
  have hl : lv_has ls 2 [(0, .ref a0), (1, .int a1)] := hl
  unfold f_X12_passes at h
  refine lv_aload_n hx hb dX12_passes_0 rfl (lv_at hl 0 rfl) ?_
  refine lv_iload_n hx hb dX12_passes_1 rfl (lv_at hl 1 rfl) ?_
  obtain ⟨g2, h⟩ := hq_g h
  obtain ⟨v4, S3, g1, h⟩ := hq_bd2 h
  refine hq_calli hI (va_runV (As := [.int a1]) (rest := []) ⟨hx, hb, hml, hown, hts⟩ (c_X12_isPlan l D kA ρ HB S a0 a1 _ g1) (cwV 1 hts (gdIn (List.forall_mem_cons.mpr ⟨kw_1133, (List.forall_mem_cons.mpr ⟨kw_1135, (List.forall_mem_cons.mpr ⟨ks_48, (List.forall_mem_cons.mpr ⟨kw_6, (fun _ h => absurd h List.not_mem_nil)⟩)⟩)⟩)⟩) kw_1136) rfl rfl rfl ye_X12_isPlan ⟨Nat.le_of_ble_eq_true rfl, Nat.le_of_ble_eq_true rfl⟩) (hq_preC hE hI g2 rfl _) rfl rfl hl.1 rfl (lv_room (Nat.le_of_ble_eq_true rfl)) dX12_passes_2 ⟨Nat.le_of_ble_eq_true rfl, Nat.le_of_ble_eq_true rfl⟩) (fun H locs hI => ?_)
  refine lv_if_eq (tgt := 16) hx hb dX12_passes_5 (by decide) (fun c5 => ?_) (fun c5 => ?_)
  · have h := hq_t h c5
    refine lv_iconst (v := (-1)) hx hb dX12_passes_16 (by decide) ?_
    exact hq_iret hx hb hr hlocks h0 hI h dX12_passes_17
  · have h := hq_f h c5
    refine lv_aload_n hx hb dX12_passes_8 rfl (lv_at hl 0 rfl) ?_
    refine lv_iload_n hx hb dX12_passes_9 rfl (lv_at hl 1 rfl) ?_
    obtain ⟨g7, h⟩ := hq_g h
    obtain ⟨v9, S8, g6, h⟩ := hq_bd2 h
    refine hq_calli hI (va_runV (As := [.int a1]) (rest := []) ⟨hx, hb, hml, hown, hts⟩ (c_X12_passing l D kA ρ HB S3 a0 a1 _ g6) (cwV 1 hts (gdIn (List.forall_mem_cons.mpr ⟨kw_1165, (List.forall_mem_cons.mpr ⟨kw_1167, (List.forall_mem_cons.mpr ⟨ks_55, (List.forall_mem_cons.mpr ⟨kw_6, (fun _ h => absurd h List.not_mem_nil)⟩)⟩)⟩)⟩) kw_1168) rfl rfl rfl ye_X12_passing ⟨Nat.le_of_ble_eq_true rfl, Nat.le_of_ble_eq_true rfl⟩) (hq_preC hE hI g7 rfl _) rfl rfl hl.1 rfl (lv_room (Nat.le_of_ble_eq_true rfl)) dX12_passes_10 ⟨Nat.le_of_ble_eq_true rfl, Nat.le_of_ble_eq_true rfl⟩) (fun H locs hI => ?_)
    refine lv_goto (tgt := 17) hx hb dX12_passes_13 (by decide) ?_
    exact hq_iret hx hb hr hlocks h0 hI h dX12_passes_17
-- RodDipsModel.divisor(JJ)J
theorem dX12_divisor_0 : decode cX12_divisor 0 = .ok (.lload_n 0, 1) := by decide +kernel
theorem dX12_divisor_1 : decode cX12_divisor 1 = .ok (.lstore 4, 2) := by decide +kernel
theorem dX12_divisor_3 : decode cX12_divisor 3 = .ok (.lload_n 2, 1) := by decide +kernel
theorem dX12_divisor_4 : decode cX12_divisor 4 = .ok (.lstore 6, 2) := by decide +kernel
theorem dX12_divisor_6 : decode cX12_divisor 6 = .ok (.lload 6, 2) := by decide +kernel
theorem dX12_divisor_8 : decode cX12_divisor 8 = .ok (.lconst 0, 1) := by decide +kernel
theorem dX12_divisor_9 : decode cX12_divisor 9 = .ok (.lcmp, 1) := by decide +kernel
theorem dX12_divisor_10 : decode cX12_divisor 10 = .ok (.ifCond .eq 21, 3) := by decide +kernel
theorem dX12_divisor_13 : decode cX12_divisor 13 = .ok (.lload 4, 2) := by decide +kernel
theorem dX12_divisor_15 : decode cX12_divisor 15 = .ok (.lload 6, 2) := by decide +kernel
theorem dX12_divisor_17 : decode cX12_divisor 17 = .ok (.lrem, 1) := by decide +kernel
theorem dX12_divisor_18 : decode cX12_divisor 18 = .ok (.lstore 8, 2) := by decide +kernel
theorem dX12_divisor_20 : decode cX12_divisor 20 = .ok (.lload 6, 2) := by decide +kernel
theorem dX12_divisor_22 : decode cX12_divisor 22 = .ok (.lstore 4, 2) := by decide +kernel
theorem dX12_divisor_24 : decode cX12_divisor 24 = .ok (.lload 8, 2) := by decide +kernel
theorem dX12_divisor_26 : decode cX12_divisor 26 = .ok (.lstore 6, 2) := by decide +kernel
theorem dX12_divisor_28 : decode cX12_divisor 28 = .ok (.goto (-22), 3) := by decide +kernel
theorem dX12_divisor_31 : decode cX12_divisor 31 = .ok (.lload 4, 2) := by decide +kernel
theorem dX12_divisor_33 : decode cX12_divisor 33 = .ok (.lreturn, 1) := by decide +kernel
def f_X12_divisor_K31 (x1 : Int64) (S2 : HSt) : Option (Int64 × HSt) := some (x1, S2)
def f_X12_divisor_B6 (kx31 : (Int64 → HSt → Option (Int64 × HSt))) (kb6 : (Int64 → Int64 → HSt → Option (Int64 × HSt))) (x3 : Int64) (x4 : Int64) (S5 : HSt) : Option (Int64 × HSt) := if (lg_cmp x4 0) = 0 then (kx31 x3 S5) else (if ¬ x4 = 0 then (kb6 x4 (x3 - x3 / x4 * x4) S5) else none)
def f_X12_divisor_L6 (kx31 : (Int64 → HSt → Option (Int64 × HSt))) : Nat → Int64 → Int64 → HSt → Option (Int64 × HSt)
  | 0, _, _, _ => none
  | n + 1, x3, x4, S => f_X12_divisor_B6 kx31 (f_X12_divisor_L6 kx31 n) x3 x4 S
def f_X12_divisor (S : HSt) (a0 : Int64) (a1 : Int64) : Option (Int64 × HSt) := (f_X12_divisor_L6 f_X12_divisor_K31 FU) a0 a1 S
abbrev rm_X12_divisor : Room := { frames := 0, cells := 0, slots := 0, locals := 0 }
abbrev w_X12_divisor : List Cond := Cond.code yX12_divisor cX12_divisor 10 (Option.some FieldType.long) :: lwG
theorem yd_X12_divisor : yX12_divisor.cls ≠ "java/lang/invoke/MethodHandle" ∧ yX12_divisor.cls ≠ "java/lang/invoke/VarHandle" ∧ (parseMethodDescriptor yX12_divisor.desc).map (fun d => d.parameters.length) = some 2 := by decide +kernel
set_option maxHeartbeats 4000000 in
set_option maxRecDepth 100000 in
theorem c_X12_divisor (l : Launch) (D : va_G) (kA ρ : Nat → Nat) (HB : Heap) (S : HSt) (a0 : Int64) (a1 : Int64) (res : Int64 × HSt) (h : f_X12_divisor S a0 a1 = some res) : Met l yX12_divisor w_X12_divisor rm_X12_divisor (hPc D kA ρ HB S [.long a0, .long a1]) (hQl D kA HB S res) 0 0 (hFree HB) := by
  refine Met.ofW (cc := cX12_divisor) (maxL := 10) (ret := (Option.some FieldType.long)) (by decide) rfl ?_
  intro p e s m args below meth c s₁ B hml hv
  obtain ⟨rfl, hE, h0⟩ := hv
  have hx := B.exec
  have hb := B.bytes
  have hr := B.returns
  have hts0 := atoms_spec (ws := w_X12_divisor) B.pre
  have hts : ∀ w ∈ lwG, w.before _ s = true := fun w hw => hts0 w (List.mem_cons_of_mem _ hw)
  have hown : s.vm.findClass RX12 = some m.cls := findClass_of_methodNamed B.named
  have hlocks := B.notSynchronized
  have hI : hqX D kA HB S.2 S s.heap [] := ⟨h0, Nat.le_refl _, fun _ q => absurd q List.not_mem_nil⟩
  have hl := lv_entry ([.long a0, .long a1]) (n := 10) (Nat.le_of_ble_eq_true rfl)
  rw [lg_entry_eq]
  generalize (lg_sl ([.long a0, .long a1]) ++ List.replicate (10 - (lg_sl ([.long a0, .long a1])).length) Slot.unset).toArray = ls at hl ⊢
  have hl : lv_has ls 10 [(0, .long a0), (2, .long a1)] := hl
  unfold f_X12_divisor at h
  refine lv_lload_n hx hb dX12_divisor_0 rfl (lv_at hl 0 rfl) ?_
  refine lv_lstore (lv' := [(4, .long a0), (0, .long a0), (2, .long a1)]) hx hb dX12_divisor_1 hl (by decide) rfl (fun ls hl => ?_)
  refine lv_lload_n hx hb dX12_divisor_3 rfl (lv_at hl 2 rfl) ?_
  refine lv_lstore (lv' := [(6, .long a1), (4, .long a0), (0, .long a0), (2, .long a1)]) hx hb dX12_divisor_4 hl (by decide) rfl (fun ls hl => ?_)
  have hK31 : ∀ (x1 : Int64) (S2 : HSt) (H : Heap) (locs : List Loc) (ls : Array Slot), f_X12_divisor_K31 x1 S2 = some res → hqX D kA HB S.2 S2 H locs → lv_has ls 10 [(4, .long x1)] → W p l e rm_X12_divisor s m ([.long a0, .long a1] : List Value).toArray below meth c H locs 0 0 (MQ below (hQl D kA HB S res) ([.long a0, .long a1] : List Value).toArray s 0 0 (hFree HB)) (F0 m 31 ls []) := by
    intro x1 S2 H locs ls h hI hl
    unfold f_X12_divisor_K31 at h
    refine lv_lload hx hb dX12_divisor_31 (lv_at hl 0 rfl) ?_
    exact hq_lret hx hb hr hlocks h0 hI h dX12_divisor_33
  have hL6 : ∀ (n6 : Nat) (x3 : Int64) (x4 : Int64) (S5 : HSt) (H : Heap) (locs : List Loc) (ls : Array Slot), (f_X12_divisor_L6 f_X12_divisor_K31 n6) x3 x4 S5 = some res → hqX D kA HB S.2 S5 H locs → lv_has ls 10 [(4, .long x3), (6, .long x4)] → W p l e rm_X12_divisor s m ([.long a0, .long a1] : List Value).toArray below meth c H locs 0 0 (MQ below (hQl D kA HB S res) ([.long a0, .long a1] : List Value).toArray s 0 0 (hFree HB)) (F0 m 6 ls []) := by
    intro n6
    induction n6 with
    | zero =>
      intro x3 x4 S5 H locs ls h
      have h : (none : Option (Int64 × HSt)) = some res := h
      cases h
    | succ n6 ih6 =>
      intro x3 x4 S5 H locs ls h hI hl
      have h : f_X12_divisor_B6 f_X12_divisor_K31 (f_X12_divisor_L6 f_X12_divisor_K31 n6) x3 x4 S5 = some res := h
      unfold f_X12_divisor_B6 at h
      refine lv_lload hx hb dX12_divisor_6 (lv_at hl 1 rfl) ?_
      refine lv_lconst (v := 0) hx hb dX12_divisor_8 (by decide) ?_
      refine W.lcmp hx hb dX12_divisor_9 ?_
      refine lv_if_eq (tgt := 31) hx hb dX12_divisor_10 (by decide) (fun c6 => ?_) (fun c6 => ?_)
      · have h := hq_t h c6
        exact hK31 x3 S5 _ _ _ h hI (lv_sub hl [0] rfl)
      · have h := hq_f h c6
        refine lv_lload hx hb dX12_divisor_13 (lv_at hl 0 rfl) ?_
        refine lv_lload hx hb dX12_divisor_15 (lv_at hl 1 rfl) ?_
        obtain ⟨c7, h⟩ := hq_g h
        refine lv_lrem hx hb dX12_divisor_17 c7 ?_
        refine lv_lstore (lv' := [(8, .long (x3 - x3 / x4 * x4)), (4, .long x3), (6, .long x4)]) hx hb dX12_divisor_18 hl (by decide) rfl (fun ls hl => ?_)
        refine lv_lload hx hb dX12_divisor_20 (lv_at hl 2 rfl) ?_
        refine lv_lstore (lv' := [(4, .long x4), (8, .long (x3 - x3 / x4 * x4)), (6, .long x4)]) hx hb dX12_divisor_22 hl (by decide) rfl (fun ls hl => ?_)
        refine lv_lload hx hb dX12_divisor_24 (lv_at hl 1 rfl) ?_
        refine lv_lstore (lv' := [(6, .long (x3 - x3 / x4 * x4)), (4, .long x4), (8, .long (x3 - x3 / x4 * x4))]) hx hb dX12_divisor_26 hl (by decide) rfl (fun ls hl => ?_)
        refine lv_goto (tgt := 6) hx hb dX12_divisor_28 (by decide) ?_
        exact ih6 x4 (x3 - x3 / x4 * x4) S5 _ _ _ h hI (lv_sub hl [1, 0] rfl)
  exact hL6 FU a0 a1 S _ _ _ h hI (lv_sub hl [1, 0] rfl)
-- RodDipsModel.lowest(JJI)J
theorem dX12_lowest_0 : decode cX12_lowest 0 = .ok (.iload 4, 2) := by decide +kernel
theorem dX12_lowest_2 : decode cX12_lowest 2 = .ok (.ifCond .ne 7, 3) := by decide +kernel
theorem dX12_lowest_5 : decode cX12_lowest 5 = .ok (.lload_n 0, 1) := by decide +kernel
theorem dX12_lowest_6 : decode cX12_lowest 6 = .ok (.goto 4, 3) := by decide +kernel
theorem dX12_lowest_9 : decode cX12_lowest 9 = .ok (.lload_n 2, 1) := by decide +kernel
theorem dX12_lowest_10 : decode cX12_lowest 10 = .ok (.lload_n 0, 1) := by decide +kernel
theorem dX12_lowest_11 : decode cX12_lowest 11 = .ok (.lload_n 2, 1) := by decide +kernel
theorem dX12_lowest_12 : decode cX12_lowest 12 = .ok (.invokestatic 196, 3) := by decide +kernel
theorem dX12_lowest_15 : decode cX12_lowest 15 = .ok (.ldiv, 1) := by decide +kernel
theorem dX12_lowest_16 : decode cX12_lowest 16 = .ok (.lreturn, 1) := by decide +kernel
def f_X12_lowest (S : HSt) (a0 : Int64) (a1 : Int64) (a2 : Int32) : Option (Int64 × HSt) := if a2 = 0 then (bd2 (f_X12_divisor S a0 a1) fun v8 S7 => if ¬ v8 = 0 then (some (a0 / v8, S7)) else none) else (bd2 (f_X12_divisor S a0 a1) fun v4 S3 => if ¬ v4 = 0 then (some (a1 / v4, S3)) else none)
abbrev rm_X12_lowest : Room := { frames := 1, cells := 0, slots := 0, locals := 29 }
abbrev w_X12_lowest : List Cond := Cond.code yX12_lowest cX12_lowest 5 (Option.some FieldType.long) :: lwG
theorem yd_X12_lowest : yX12_lowest.cls ≠ "java/lang/invoke/MethodHandle" ∧ yX12_lowest.cls ≠ "java/lang/invoke/VarHandle" ∧ (parseMethodDescriptor yX12_lowest.desc).map (fun d => d.parameters.length) = some 3 := by decide +kernel
set_option maxHeartbeats 4000000 in
set_option maxRecDepth 100000 in
theorem c_X12_lowest (l : Launch) (D : va_G) (kA ρ : Nat → Nat) (HB : Heap) (S : HSt) (a0 : Int64) (a1 : Int64) (a2 : Int32) (res : Int64 × HSt) (h : f_X12_lowest S a0 a1 a2 = some res) : Met l yX12_lowest w_X12_lowest rm_X12_lowest (hPc D kA ρ HB S [.long a0, .long a1, .int a2]) (hQl D kA HB S res) 0 0 (hFree HB) := by
  refine Met.ofW (cc := cX12_lowest) (maxL := 5) (ret := (Option.some FieldType.long)) (by decide) rfl ?_
  intro p e s m args below meth c s₁ B hml hv
  obtain ⟨rfl, hE, h0⟩ := hv
  have hx := B.exec
  have hb := B.bytes
  have hr := B.returns
  have hts0 := atoms_spec (ws := w_X12_lowest) B.pre
  have hts : ∀ w ∈ lwG, w.before _ s = true := fun w hw => hts0 w (List.mem_cons_of_mem _ hw)
  have hown : s.vm.findClass RX12 = some m.cls := findClass_of_methodNamed B.named
  have hlocks := B.notSynchronized
  have hI : hqX D kA HB S.2 S s.heap [] := ⟨h0, Nat.le_refl _, fun _ q => absurd q List.not_mem_nil⟩
  have hl := lv_entry ([.long a0, .long a1, .int a2]) (n := 5) (Nat.le_of_ble_eq_true rfl)
  rw [lg_entry_eq]
  generalize (lg_sl ([.long a0, .long a1, .int a2]) ++ List.replicate (5 - (lg_sl ([.long a0, .long a1, .int a2])).length) Slot.unset).toArray = ls at hl ⊢
  have hl : lv_has ls 5 [(0, .long a0), (2, .long a1), (4, .int a2)] := hl
  unfold f_X12_lowest at h
  refine lv_iload hx hb dX12_lowest_0 (lv_at hl 2 rfl) ?_
  refine lv_if_ne (tgt := 9) hx hb dX12_lowest_2 (by decide) (fun c1 => ?_) (fun c1 => ?_)
  · have h := hq_f h c1
    refine lv_lload_n hx hb dX12_lowest_9 rfl (lv_at hl 1 rfl) ?_
    refine lv_lload_n hx hb dX12_lowest_10 rfl (lv_at hl 0 rfl) ?_
    refine lv_lload_n hx hb dX12_lowest_11 rfl (lv_at hl 1 rfl) ?_
    obtain ⟨v4, S3, g2, h⟩ := hq_bd2 h
    refine hq_calll hI (va_runS (As := [.long a0, .long a1]) (rest := [.long a1]) ⟨hx, hb, hml, hown, hts⟩ (c_X12_divisor l D kA ρ HB S a0 a1 _ g2) (va_cwS 2 hts (gdIn (List.forall_mem_cons.mpr ⟨kw_1188, (List.forall_mem_cons.mpr ⟨kw_1189, (List.forall_mem_cons.mpr ⟨kw_6, (fun _ h => absurd h List.not_mem_nil)⟩)⟩)⟩) kw_1190) rfl rfl rfl yd_X12_divisor ⟨Nat.le_of_ble_eq_true rfl, Nat.le_of_ble_eq_true rfl⟩) (hq_preS hE hI _) rfl rfl hl.1 rfl (lv_room (Nat.le_of_ble_eq_true rfl)) dX12_lowest_12 ⟨Nat.le_of_ble_eq_true rfl, Nat.le_of_ble_eq_true rfl⟩) (fun H locs hI => ?_)
    obtain ⟨c5, h⟩ := hq_g h
    refine lv_ldiv hx hb dX12_lowest_15 c5 ?_
    exact hq_lret hx hb hr hlocks h0 hI h dX12_lowest_16
  · have h := hq_t h c1
    refine lv_lload_n hx hb dX12_lowest_5 rfl (lv_at hl 0 rfl) ?_
    refine lv_goto (tgt := 10) hx hb dX12_lowest_6 (by decide) ?_
    refine lv_lload_n hx hb dX12_lowest_10 rfl (lv_at hl 0 rfl) ?_
    refine lv_lload_n hx hb dX12_lowest_11 rfl (lv_at hl 1 rfl) ?_
    obtain ⟨v8, S7, g6, h⟩ := hq_bd2 h
    refine hq_calll hI (va_runS (As := [.long a0, .long a1]) (rest := [.long a0]) ⟨hx, hb, hml, hown, hts⟩ (c_X12_divisor l D kA ρ HB S a0 a1 _ g6) (va_cwS 2 hts (gdIn (List.forall_mem_cons.mpr ⟨kw_1188, (List.forall_mem_cons.mpr ⟨kw_1189, (List.forall_mem_cons.mpr ⟨kw_6, (fun _ h => absurd h List.not_mem_nil)⟩)⟩)⟩) kw_1190) rfl rfl rfl yd_X12_divisor ⟨Nat.le_of_ble_eq_true rfl, Nat.le_of_ble_eq_true rfl⟩) (hq_preS hE hI _) rfl rfl hl.1 rfl (lv_room (Nat.le_of_ble_eq_true rfl)) dX12_lowest_12 ⟨Nat.le_of_ble_eq_true rfl, Nat.le_of_ble_eq_true rfl⟩) (fun H locs hI => ?_)
    obtain ⟨c9, h⟩ := hq_g h
    refine lv_ldiv hx hb dX12_lowest_15 c9 ?_
    exact hq_lret hx hb hr hlocks h0 hI h dX12_lowest_16
-- RodDipsModel.placesBy(II)I
theorem dX12_placesBy_0 : decode cX12_placesBy 0 = .ok (.iconst 0, 1) := by decide +kernel
theorem dX12_placesBy_1 : decode cX12_placesBy 1 = .ok (.istore_n 3, 1) := by decide +kernel
theorem dX12_placesBy_2 : decode cX12_placesBy 2 = .ok (.iconst 0, 1) := by decide +kernel
theorem dX12_placesBy_3 : decode cX12_placesBy 3 = .ok (.istore 4, 2) := by decide +kernel
theorem dX12_placesBy_5 : decode cX12_placesBy 5 = .ok (.iload 4, 2) := by decide +kernel
theorem dX12_placesBy_7 : decode cX12_placesBy 7 = .ok (.aload_n 0, 1) := by decide +kernel
theorem dX12_placesBy_8 : decode cX12_placesBy 8 = .ok (.getfield 9, 3) := by decide +kernel
theorem dX12_placesBy_11 : decode cX12_placesBy 11 = .ok (.iconst 0, 1) := by decide +kernel
theorem dX12_placesBy_12 : decode cX12_placesBy 12 = .ok (.iaload, 1) := by decide +kernel
theorem dX12_placesBy_13 : decode cX12_placesBy 13 = .ok (.if_icmp .ge 28, 3) := by decide +kernel
theorem dX12_placesBy_16 : decode cX12_placesBy 16 = .ok (.iload_n 3, 1) := by decide +kernel
theorem dX12_placesBy_17 : decode cX12_placesBy 17 = .ok (.iload 4, 2) := by decide +kernel
theorem dX12_placesBy_19 : decode cX12_placesBy 19 = .ok (.iload_n 1, 1) := by decide +kernel
theorem dX12_placesBy_20 : decode cX12_placesBy 20 = .ok (.isub, 1) := by decide +kernel
theorem dX12_placesBy_21 : decode cX12_placesBy 21 = .ok (.invokestatic 53, 3) := by decide +kernel
theorem dX12_placesBy_24 : decode cX12_placesBy 24 = .ok (.iload_n 2, 1) := by decide +kernel
theorem dX12_placesBy_25 : decode cX12_placesBy 25 = .ok (.if_icmp .gt 7, 3) := by decide +kernel
theorem dX12_placesBy_28 : decode cX12_placesBy 28 = .ok (.iconst 1, 1) := by decide +kernel
theorem dX12_placesBy_29 : decode cX12_placesBy 29 = .ok (.goto 4, 3) := by decide +kernel
theorem dX12_placesBy_32 : decode cX12_placesBy 32 = .ok (.iconst 0, 1) := by decide +kernel
theorem dX12_placesBy_33 : decode cX12_placesBy 33 = .ok (.iadd, 1) := by decide +kernel
theorem dX12_placesBy_34 : decode cX12_placesBy 34 = .ok (.istore_n 3, 1) := by decide +kernel
theorem dX12_placesBy_35 : decode cX12_placesBy 35 = .ok (.iinc 4 1, 3) := by decide +kernel
theorem dX12_placesBy_38 : decode cX12_placesBy 38 = .ok (.goto (-33), 3) := by decide +kernel
theorem dX12_placesBy_41 : decode cX12_placesBy 41 = .ok (.iload_n 3, 1) := by decide +kernel
theorem dX12_placesBy_42 : decode cX12_placesBy 42 = .ok (.ireturn, 1) := by decide +kernel
def f_X12_placesBy_K41 (x1 : Int32) (S2 : HSt) : Option (Int32 × HSt) := some (x1, S2)
def f_X12_placesBy_B5 (a0 : Nat) (a1 : Int32) (a2 : Int32) (kx41 : (Int32 → HSt → Option (Int32 × HSt))) (kb5 : (Int32 → Int32 → HSt → Option (Int32 × HSt))) (x3 : Int32) (x4 : Int32) (S5 : HSt) : Option (Int32 × HSt) := (gR S5 a0 12 1).bind fun b6 => (aI S5 b6 0 0).bind fun v9 => if v9 ≤ x4 then (kx41 x3 S5) else (bd2 (f_X12_size S5 (x4 - a1)) fun v13 S12 => if a2 < v13 then (kb5 (x3 + 0) (x4 + 1) S12) else (kb5 (x3 + 1) (x4 + 1) S12))
def f_X12_placesBy_L5 (a0 : Nat) (a1 : Int32) (a2 : Int32) (kx41 : (Int32 → HSt → Option (Int32 × HSt))) : Nat → Int32 → Int32 → HSt → Option (Int32 × HSt)
  | 0, _, _, _ => none
  | n + 1, x3, x4, S => f_X12_placesBy_B5 a0 a1 a2 kx41 (f_X12_placesBy_L5 a0 a1 a2 kx41 n) x3 x4 S
def f_X12_placesBy (S : HSt) (a0 : Nat) (a1 : Int32) (a2 : Int32) : Option (Int32 × HSt) := (f_X12_placesBy_L5 a0 a1 a2 f_X12_placesBy_K41 FU) 0 0 S
abbrev rm_X12_placesBy : Room := { frames := 1, cells := 0, slots := 0, locals := 20 }
abbrev w_X12_placesBy : List Cond := Cond.code yX12_placesBy cX12_placesBy 5 (Option.some FieldType.int) :: lwG
theorem yd_X12_placesBy : yX12_placesBy.cls ≠ "java/lang/invoke/MethodHandle" ∧ yX12_placesBy.cls ≠ "java/lang/invoke/VarHandle" ∧ (parseMethodDescriptor yX12_placesBy.desc).map (fun d => d.parameters.length) = some 2 := by decide +kernel
theorem ye_X12_placesBy : yX12_placesBy.cls = RX12 ∧ yX12_placesBy.cls ≠ "java/lang/invoke/MethodHandle" ∧ yX12_placesBy.cls ≠ "java/lang/invoke/VarHandle" ∧ (parseMethodDescriptor yX12_placesBy.desc).map (fun d => d.parameters.length) = some 2 := by decide +kernel
set_option maxHeartbeats 4000000 in
set_option maxRecDepth 100000 in
theorem c_X12_placesBy (l : Launch) (D : va_G) (kA ρ : Nat → Nat) (HB : Heap) (S : HSt) (a0 : Nat) (a1 : Int32) (a2 : Int32) (res : Int32 × HSt) (h : f_X12_placesBy S a0 a1 a2 = some res) : Met l yX12_placesBy w_X12_placesBy rm_X12_placesBy (hPc D kA ρ HB S [.ref a0, .int a1, .int a2]) (hQi D kA HB S res) 0 0 (hFree HB) := by
  refine Met.ofW (cc := cX12_placesBy) (maxL := 5) (ret := (Option.some FieldType.int)) (by decide) rfl ?_
  intro p e s m args below meth c s₁ B hml hv
  obtain ⟨rfl, hE, h0⟩ := hv
  have hx := B.exec
  have hb := B.bytes
  have hr := B.returns
  have hts0 := atoms_spec (ws := w_X12_placesBy) B.pre
  have hts : ∀ w ∈ lwG, w.before _ s = true := fun w hw => hts0 w (List.mem_cons_of_mem _ hw)
  have hown : s.vm.findClass RX12 = some m.cls := findClass_of_methodNamed B.named
  have hlocks := B.notSynchronized
  have hI : hqX D kA HB S.2 S s.heap [] := ⟨h0, Nat.le_refl _, fun _ q => absurd q List.not_mem_nil⟩
  have hl := lv_entry ([.ref a0, .int a1, .int a2]) (n := 5) (Nat.le_of_ble_eq_true rfl)
  rw [lg_entry_eq]
  generalize (lg_sl ([.ref a0, .int a1, .int a2]) ++ List.replicate (5 - (lg_sl ([.ref a0, .int a1, .int a2])).length) Slot.unset).toArray = ls at hl ⊢
  have hl : lv_has ls 5 [(0, .ref a0), (1, .int a1), (2, .int a2)] := hl
  unfold f_X12_placesBy at h
  refine lv_iconst (v := 0) hx hb dX12_placesBy_0 (by decide) ?_
  refine lv_istore_n (lv' := [(3, .int 0), (0, .ref a0), (1, .int a1), (2, .int a2)]) hx hb dX12_placesBy_1 rfl hl (by decide) rfl (fun ls hl => ?_)
  refine lv_iconst (v := 0) hx hb dX12_placesBy_2 (by decide) ?_
  refine lv_istore (lv' := [(4, .int 0), (3, .int 0), (0, .ref a0), (1, .int a1), (2, .int a2)]) hx hb dX12_placesBy_3 hl (by decide) rfl (fun ls hl => ?_)
  have hK41 : ∀ (x1 : Int32) (S2 : HSt) (H : Heap) (locs : List Loc) (ls : Array Slot), f_X12_placesBy_K41 x1 S2 = some res → hqX D kA HB S.2 S2 H locs → lv_has ls 5 [(3, .int x1)] → W p l e rm_X12_placesBy s m ([.ref a0, .int a1, .int a2] : List Value).toArray below meth c H locs 0 0 (MQ below (hQi D kA HB S res) ([.ref a0, .int a1, .int a2] : List Value).toArray s 0 0 (hFree HB)) (F0 m 41 ls []) := by
    intro x1 S2 H locs ls h hI hl
    unfold f_X12_placesBy_K41 at h
    refine lv_iload_n hx hb dX12_placesBy_41 rfl (lv_at hl 0 rfl) ?_
    exact hq_iret hx hb hr hlocks h0 hI h dX12_placesBy_42
  have hL5 : ∀ (n5 : Nat) (x3 : Int32) (x4 : Int32) (S5 : HSt) (H : Heap) (locs : List Loc) (ls : Array Slot), (f_X12_placesBy_L5 a0 a1 a2 f_X12_placesBy_K41 n5) x3 x4 S5 = some res → hqX D kA HB S.2 S5 H locs → lv_has ls 5 [(0, .ref a0), (1, .int a1), (2, .int a2), (3, .int x3), (4, .int x4)] → W p l e rm_X12_placesBy s m ([.ref a0, .int a1, .int a2] : List Value).toArray below meth c H locs 0 0 (MQ below (hQi D kA HB S res) ([.ref a0, .int a1, .int a2] : List Value).toArray s 0 0 (hFree HB)) (F0 m 5 ls []) := by
    intro n5
    induction n5 with
    | zero =>
      intro x3 x4 S5 H locs ls h
      have h : (none : Option (Int32 × HSt)) = some res := h
      cases h
    | succ n5 ih5 =>
      intro x3 x4 S5 H locs ls h hI hl
      have h : f_X12_placesBy_B5 a0 a1 a2 f_X12_placesBy_K41 (f_X12_placesBy_L5 a0 a1 a2 f_X12_placesBy_K41 n5) x3 x4 S5 = some res := h
      unfold f_X12_placesBy_B5 at h
      refine lv_iload hx hb dX12_placesBy_5 (lv_at hl 4 rfl) ?_
      refine lv_aload_n hx hb dX12_placesBy_7 rfl (lv_at hl 0 rfl) ?_
      obtain ⟨b6, g7, h⟩ := hq_bind h
      obtain ⟨fs_g7, hs_g7, hv_g7⟩ := gR_at g7
      refine hq_get hx hb hts hown hE hI hs_g7 inG12 rfl 1 (by decide) kw_945 hv_g7 dX12_placesBy_8 ?_
      refine lv_iconst (v := 0) hx hb dX12_placesBy_11 (by decide) ?_
      obtain ⟨v9, g8, h⟩ := hq_bind h
      refine hq_iald hx hb hE hI g8 dX12_placesBy_12 ?_
      refine lv_icmp_ge (tgt := 41) hx hb dX12_placesBy_13 (by decide) (fun c10 => ?_) (fun c10 => ?_)
      · have h := hq_t h c10
        exact hK41 x3 S5 _ _ _ h hI (lv_sub hl [3] rfl)
      · have h := hq_f h c10
        refine lv_iload_n hx hb dX12_placesBy_16 rfl (lv_at hl 3 rfl) ?_
        refine lv_iload hx hb dX12_placesBy_17 (lv_at hl 4 rfl) ?_
        refine lv_iload_n hx hb dX12_placesBy_19 rfl (lv_at hl 1 rfl) ?_
        refine lv_isub hx hb dX12_placesBy_20 ?_
        obtain ⟨v13, S12, g11, h⟩ := hq_bd2 h
        refine hq_calli hI (va_runS (As := [.int (x4 - a1)]) (rest := [.int x3]) ⟨hx, hb, hml, hown, hts⟩ (c_X12_size l D kA ρ HB S5 (x4 - a1) _ g11) (va_cwS 1 hts (gdIn (List.forall_mem_cons.mpr ⟨kw_1040, (List.forall_mem_cons.mpr ⟨kw_1041, (List.forall_mem_cons.mpr ⟨kw_6, (fun _ h => absurd h List.not_mem_nil)⟩)⟩)⟩) kw_1042) rfl rfl rfl yd_X12_size ⟨Nat.le_of_ble_eq_true rfl, Nat.le_of_ble_eq_true rfl⟩) (hq_preS hE hI _) rfl rfl hl.1 rfl (lv_room (Nat.le_of_ble_eq_true rfl)) dX12_placesBy_21 ⟨Nat.le_of_ble_eq_true rfl, Nat.le_of_ble_eq_true rfl⟩) (fun H locs hI => ?_)
        refine lv_iload_n hx hb dX12_placesBy_24 rfl (lv_at hl 2 rfl) ?_
        refine lv_icmp_gt (tgt := 32) hx hb dX12_placesBy_25 (by decide) (fun c14 => ?_) (fun c14 => ?_)
        · have h := hq_t h c14
          refine lv_iconst (v := 0) hx hb dX12_placesBy_32 (by decide) ?_
          refine lv_iadd hx hb dX12_placesBy_33 ?_
          refine lv_istore_n (lv' := [(3, .int (x3 + 0)), (0, .ref a0), (1, .int a1), (2, .int a2), (4, .int x4)]) hx hb dX12_placesBy_34 rfl hl (by decide) rfl (fun ls hl => ?_)
          refine lv_iinc (v := (x4 + 1)) (lv' := [(4, .int (x4 + 1)), (3, .int (x3 + 0)), (0, .ref a0), (1, .int a1), (2, .int a2)]) hx hb dX12_placesBy_35 hl (k := 4) rfl rfl (by decide) rfl (fun ls hl => ?_)
          refine lv_goto (tgt := 5) hx hb dX12_placesBy_38 (by decide) ?_
          exact ih5 (x3 + 0) (x4 + 1) S12 _ _ _ h hI (lv_sub hl [2, 3, 4, 1, 0] rfl)
        · have h := hq_f h c14
          refine lv_iconst (v := 1) hx hb dX12_placesBy_28 (by decide) ?_
          refine lv_goto (tgt := 33) hx hb dX12_placesBy_29 (by decide) ?_
          refine lv_iadd hx hb dX12_placesBy_33 ?_
          refine lv_istore_n (lv' := [(3, .int (x3 + 1)), (0, .ref a0), (1, .int a1), (2, .int a2), (4, .int x4)]) hx hb dX12_placesBy_34 rfl hl (by decide) rfl (fun ls hl => ?_)
          refine lv_iinc (v := (x4 + 1)) (lv' := [(4, .int (x4 + 1)), (3, .int (x3 + 1)), (0, .ref a0), (1, .int a1), (2, .int a2)]) hx hb dX12_placesBy_35 hl (k := 4) rfl rfl (by decide) rfl (fun ls hl => ?_)
          refine lv_goto (tgt := 5) hx hb dX12_placesBy_38 (by decide) ?_
          exact ih5 (x3 + 1) (x4 + 1) S12 _ _ _ h hI (lv_sub hl [2, 3, 4, 1, 0] rfl)
  exact hL5 FU 0 0 S _ _ _ h hI (lv_sub hl [2, 3, 4, 1, 0] rfl)
-- RodDipsModel.chance(III)J
theorem dX12_chance_0 : decode cX12_chance 0 = .ok (.aload_n 0, 1) := by decide +kernel
theorem dX12_chance_1 : decode cX12_chance 1 = .ok (.iload_n 1, 1) := by decide +kernel
theorem dX12_chance_2 : decode cX12_chance 2 = .ok (.invokevirtual 177, 3) := by decide +kernel
theorem dX12_chance_5 : decode cX12_chance 5 = .ok (.ifCond .eq 20, 3) := by decide +kernel
theorem dX12_chance_8 : decode cX12_chance 8 = .ok (.aload_n 0, 1) := by decide +kernel
theorem dX12_chance_9 : decode cX12_chance 9 = .ok (.iload_n 2, 1) := by decide +kernel
theorem dX12_chance_10 : decode cX12_chance 10 = .ok (.invokevirtual 50, 3) := by decide +kernel
theorem dX12_chance_13 : decode cX12_chance 13 = .ok (.ifCond .eq 12, 3) := by decide +kernel
theorem dX12_chance_16 : decode cX12_chance 16 = .ok (.iload_n 3, 1) := by decide +kernel
theorem dX12_chance_17 : decode cX12_chance 17 = .ok (.iconst 0, 1) := by decide +kernel
theorem dX12_chance_18 : decode cX12_chance 18 = .ok (.iconst 1, 1) := by decide +kernel
theorem dX12_chance_19 : decode cX12_chance 19 = .ok (.invokestatic 39, 3) := by decide +kernel
theorem dX12_chance_22 : decode cX12_chance 22 = .ok (.ifCond .ne 7, 3) := by decide +kernel
theorem dX12_chance_25 : decode cX12_chance 25 = .ok (.ldc2_w 200, 3) := by decide +kernel
theorem dX12_chance_28 : decode cX12_chance 28 = .ok (.lreturn, 1) := by decide +kernel
theorem dX12_chance_29 : decode cX12_chance 29 = .ok (.aload_n 0, 1) := by decide +kernel
theorem dX12_chance_30 : decode cX12_chance 30 = .ok (.aload_n 0, 1) := by decide +kernel
theorem dX12_chance_31 : decode cX12_chance 31 = .ok (.getfield 9, 3) := by decide +kernel
theorem dX12_chance_34 : decode cX12_chance 34 = .ok (.sipush 250, 3) := by decide +kernel
theorem dX12_chance_37 : decode cX12_chance 37 = .ok (.iload_n 2, 1) := by decide +kernel
theorem dX12_chance_38 : decode cX12_chance 38 = .ok (.iadd, 1) := by decide +kernel
theorem dX12_chance_39 : decode cX12_chance 39 = .ok (.iaload, 1) := by decide +kernel
theorem dX12_chance_40 : decode cX12_chance 40 = .ok (.aload_n 0, 1) := by decide +kernel
theorem dX12_chance_41 : decode cX12_chance 41 = .ok (.getfield 9, 3) := by decide +kernel
theorem dX12_chance_44 : decode cX12_chance 44 = .ok (.sipush 310, 3) := by decide +kernel
theorem dX12_chance_47 : decode cX12_chance 47 = .ok (.iload_n 1, 1) := by decide +kernel
theorem dX12_chance_48 : decode cX12_chance 48 = .ok (.iadd, 1) := by decide +kernel
theorem dX12_chance_49 : decode cX12_chance 49 = .ok (.iaload, 1) := by decide +kernel
theorem dX12_chance_50 : decode cX12_chance 50 = .ok (.invokevirtual 202, 3) := by decide +kernel
theorem dX12_chance_53 : decode cX12_chance 53 = .ok (.i2l, 1) := by decide +kernel
theorem dX12_chance_54 : decode cX12_chance 54 = .ok (.aload_n 0, 1) := by decide +kernel
theorem dX12_chance_55 : decode cX12_chance 55 = .ok (.getfield 9, 3) := by decide +kernel
theorem dX12_chance_58 : decode cX12_chance 58 = .ok (.iconst 0, 1) := by decide +kernel
theorem dX12_chance_59 : decode cX12_chance 59 = .ok (.iaload, 1) := by decide +kernel
theorem dX12_chance_60 : decode cX12_chance 60 = .ok (.i2l, 1) := by decide +kernel
theorem dX12_chance_61 : decode cX12_chance 61 = .ok (.iload_n 3, 1) := by decide +kernel
theorem dX12_chance_62 : decode cX12_chance 62 = .ok (.invokestatic 205, 3) := by decide +kernel
theorem dX12_chance_65 : decode cX12_chance 65 = .ok (.lreturn, 1) := by decide +kernel
def f_X12_chance (S : HSt) (a0 : Nat) (a1 : Int32) (a2 : Int32) (a3 : Int32) : Option (Int64 × HSt) := if gC S a0 = some 12 then (bd2 (f_X12_isPlan S a0 a1) fun v4 S3 => if v4 = 0 then (some ((-9223372036854775808), S3)) else (if gC S3 a0 = some 12 then (bd2 (f_X12_isTry S3 a0 a2) fun v9 S8 => if v9 = 0 then (some ((-9223372036854775808), S8)) else (bd2 (f_X12_in S8 a3 0 1) fun v13 S12 => if v13 = 0 then (some ((-9223372036854775808), S12)) else ((gR S12 a0 12 1).bind fun b15 => (aI S12 b15 0 (250 + a2)).bind fun v18 => (gR S12 a0 12 1).bind fun b19 => (aI S12 b19 0 (310 + a1)).bind fun v22 => if gC S12 a0 = some 12 then (bd2 (f_X12_placesBy S12 a0 v18 v22) fun v26 S25 => (gR S25 a0 12 1).bind fun b27 => (aI S25 b27 0 0).bind fun v30 => bd2 (f_X12_lowest S25 (Int32.toInt64 v26) (Int32.toInt64 v30) a3) fun v33 S32 => some (v33, S32)) else none))) else none)) else none
abbrev rm_X12_chance : Room := { frames := 2, cells := 0, slots := 0, locals := 53 }
abbrev w_X12_chance : List Cond := Cond.code yX12_chance cX12_chance 4 (Option.some FieldType.long) :: lwG
theorem yd_X12_chance : yX12_chance.cls ≠ "java/lang/invoke/MethodHandle" ∧ yX12_chance.cls ≠ "java/lang/invoke/VarHandle" ∧ (parseMethodDescriptor yX12_chance.desc).map (fun d => d.parameters.length) = some 3 := by decide +kernel
theorem ye_X12_chance : yX12_chance.cls = RX12 ∧ yX12_chance.cls ≠ "java/lang/invoke/MethodHandle" ∧ yX12_chance.cls ≠ "java/lang/invoke/VarHandle" ∧ (parseMethodDescriptor yX12_chance.desc).map (fun d => d.parameters.length) = some 3 := by decide +kernel
set_option maxHeartbeats 4000000 in
set_option maxRecDepth 100000 in
theorem c_X12_chance (l : Launch) (D : va_G) (kA ρ : Nat → Nat) (HB : Heap) (S : HSt) (a0 : Nat) (a1 : Int32) (a2 : Int32) (a3 : Int32) (res : Int64 × HSt) (h : f_X12_chance S a0 a1 a2 a3 = some res) : Met l yX12_chance w_X12_chance rm_X12_chance (hPc D kA ρ HB S [.ref a0, .int a1, .int a2, .int a3]) (hQl D kA HB S res) 0 0 (hFree HB) := by
  refine Met.ofW (cc := cX12_chance) (maxL := 4) (ret := (Option.some FieldType.long)) (by decide) rfl ?_
  intro p e s m args below meth c s₁ B hml hv
  obtain ⟨rfl, hE, h0⟩ := hv
  have hx := B.exec
  have hb := B.bytes
  have hr := B.returns
  have hts0 := atoms_spec (ws := w_X12_chance) B.pre
  have hts : ∀ w ∈ lwG, w.before _ s = true := fun w hw => hts0 w (List.mem_cons_of_mem _ hw)
  have hown : s.vm.findClass RX12 = some m.cls := findClass_of_methodNamed B.named
  have hlocks := B.notSynchronized
  have hI : hqX D kA HB S.2 S s.heap [] := ⟨h0, Nat.le_refl _, fun _ q => absurd q List.not_mem_nil⟩
  have hl := lv_entry ([.ref a0, .int a1, .int a2, .int a3]) (n := 4) (Nat.le_of_ble_eq_true rfl)
  rw [lg_entry_eq]
  generalize (lg_sl ([.ref a0, .int a1, .int a2, .int a3]) ++ List.replicate (4 - (lg_sl ([.ref a0, .int a1, .int a2, .int a3])).length) Slot.unset).toArray = ls at hl ⊢
  have hl : lv_has ls 4 [(0, .ref a0), (1, .int a1), (2, .int a2), (3, .int a3)] := hl
  unfold f_X12_chance at h
  refine lv_aload_n hx hb dX12_chance_0 rfl (lv_at hl 0 rfl) ?_
  refine lv_iload_n hx hb dX12_chance_1 rfl (lv_at hl 1 rfl) ?_
  obtain ⟨g2, h⟩ := hq_g h
  obtain ⟨v4, S3, g1, h⟩ := hq_bd2 h
  refine hq_calli hI (va_runV (As := [.int a1]) (rest := []) ⟨hx, hb, hml, hown, hts⟩ (c_X12_isPlan l D kA ρ HB S a0 a1 _ g1) (cwV 1 hts (gdIn (List.forall_mem_cons.mpr ⟨kw_1133, (List.forall_mem_cons.mpr ⟨kw_1135, (List.forall_mem_cons.mpr ⟨ks_48, (List.forall_mem_cons.mpr ⟨kw_6, (fun _ h => absurd h List.not_mem_nil)⟩)⟩)⟩)⟩) kw_1136) rfl rfl rfl ye_X12_isPlan ⟨Nat.le_of_ble_eq_true rfl, Nat.le_of_ble_eq_true rfl⟩) (hq_preC hE hI g2 rfl _) rfl rfl hl.1 rfl (lv_room (Nat.le_of_ble_eq_true rfl)) dX12_chance_2 ⟨Nat.le_of_ble_eq_true rfl, Nat.le_of_ble_eq_true rfl⟩) (fun H locs hI => ?_)
  refine lv_if_eq (tgt := 25) hx hb dX12_chance_5 (by decide) (fun c5 => ?_) (fun c5 => ?_)
  · have h := hq_t h c5
    refine lv_ldc2 (v := (-9223372036854775808)) hx hb hown (hts _ kw_1180) dX12_chance_25 ?_
    exact hq_lret hx hb hr hlocks h0 hI h dX12_chance_28
  · have h := hq_f h c5
    refine lv_aload_n hx hb dX12_chance_8 rfl (lv_at hl 0 rfl) ?_
    refine lv_iload_n hx hb dX12_chance_9 rfl (lv_at hl 2 rfl) ?_
    obtain ⟨g7, h⟩ := hq_g h
    obtain ⟨v9, S8, g6, h⟩ := hq_bd2 h
    refine hq_calli hI (va_runV (As := [.int a2]) (rest := []) ⟨hx, hb, hml, hown, hts⟩ (c_X12_isTry l D kA ρ HB S3 a0 a2 _ g6) (cwV 1 hts (gdIn (List.forall_mem_cons.mpr ⟨kw_1028, (List.forall_mem_cons.mpr ⟨kw_1030, (List.forall_mem_cons.mpr ⟨ks_31, (List.forall_mem_cons.mpr ⟨kw_6, (fun _ h => absurd h List.not_mem_nil)⟩)⟩)⟩)⟩) kw_1031) rfl rfl rfl ye_X12_isTry ⟨Nat.le_of_ble_eq_true rfl, Nat.le_of_ble_eq_true rfl⟩) (hq_preC hE hI g7 rfl _) rfl rfl hl.1 rfl (lv_room (Nat.le_of_ble_eq_true rfl)) dX12_chance_10 ⟨Nat.le_of_ble_eq_true rfl, Nat.le_of_ble_eq_true rfl⟩) (fun H locs hI => ?_)
    refine lv_if_eq (tgt := 25) hx hb dX12_chance_13 (by decide) (fun c10 => ?_) (fun c10 => ?_)
    · have h := hq_t h c10
      refine lv_ldc2 (v := (-9223372036854775808)) hx hb hown (hts _ kw_1180) dX12_chance_25 ?_
      exact hq_lret hx hb hr hlocks h0 hI h dX12_chance_28
    · have h := hq_f h c10
      refine lv_iload_n hx hb dX12_chance_16 rfl (lv_at hl 3 rfl) ?_
      refine lv_iconst (v := 0) hx hb dX12_chance_17 (by decide) ?_
      refine lv_iconst (v := 1) hx hb dX12_chance_18 (by decide) ?_
      obtain ⟨v13, S12, g11, h⟩ := hq_bd2 h
      refine hq_calli hI (va_runS (As := [.int a3, .int 0, .int 1]) (rest := []) ⟨hx, hb, hml, hown, hts⟩ (c_X12_in l D kA ρ HB S8 a3 0 1 _ g11) (va_cwS 3 hts (gdIn (List.forall_mem_cons.mpr ⟨kw_1010, (List.forall_mem_cons.mpr ⟨kw_1011, (List.forall_mem_cons.mpr ⟨kw_6, (fun _ h => absurd h List.not_mem_nil)⟩)⟩)⟩) kw_1012) rfl rfl rfl yd_X12_in ⟨Nat.le_of_ble_eq_true rfl, Nat.le_of_ble_eq_true rfl⟩) (hq_preS hE hI _) rfl rfl hl.1 rfl (lv_room (Nat.le_of_ble_eq_true rfl)) dX12_chance_19 ⟨Nat.le_of_ble_eq_true rfl, Nat.le_of_ble_eq_true rfl⟩) (fun H locs hI => ?_)
      refine lv_if_ne (tgt := 29) hx hb dX12_chance_22 (by decide) (fun c14 => ?_) (fun c14 => ?_)
      · have h := hq_f h c14
        refine lv_aload_n hx hb dX12_chance_29 rfl (lv_at hl 0 rfl) ?_
        refine lv_aload_n hx hb dX12_chance_30 rfl (lv_at hl 0 rfl) ?_
        obtain ⟨b15, g16, h⟩ := hq_bind h
        obtain ⟨fs_g16, hs_g16, hv_g16⟩ := gR_at g16
        refine hq_get hx hb hts hown hE hI hs_g16 inG12 rfl 1 (by decide) kw_945 hv_g16 dX12_chance_31 ?_
        refine lv_sipush (v := 250) hx hb dX12_chance_34 (by decide) ?_
        refine lv_iload_n hx hb dX12_chance_37 rfl (lv_at hl 2 rfl) ?_
        refine lv_iadd hx hb dX12_chance_38 ?_
        obtain ⟨v18, g17, h⟩ := hq_bind h
        refine hq_iald hx hb hE hI g17 dX12_chance_39 ?_
        refine lv_aload_n hx hb dX12_chance_40 rfl (lv_at hl 0 rfl) ?_
        obtain ⟨b19, g20, h⟩ := hq_bind h
        obtain ⟨fs_g20, hs_g20, hv_g20⟩ := gR_at g20
        refine hq_get hx hb hts hown hE hI hs_g20 inG12 rfl 1 (by decide) kw_945 hv_g20 dX12_chance_41 ?_
        refine lv_sipush (v := 310) hx hb dX12_chance_44 (by decide) ?_
        refine lv_iload_n hx hb dX12_chance_47 rfl (lv_at hl 1 rfl) ?_
        refine lv_iadd hx hb dX12_chance_48 ?_
        obtain ⟨v22, g21, h⟩ := hq_bind h
        refine hq_iald hx hb hE hI g21 dX12_chance_49 ?_
        obtain ⟨g24, h⟩ := hq_g h
        obtain ⟨v26, S25, g23, h⟩ := hq_bd2 h
        refine hq_calli hI (va_runV (As := [.int v18, .int v22]) (rest := []) ⟨hx, hb, hml, hown, hts⟩ (c_X12_placesBy l D kA ρ HB S12 a0 v18 v22 _ g23) (cwV 2 hts (gdIn (List.forall_mem_cons.mpr ⟨kw_1181, (List.forall_mem_cons.mpr ⟨kw_1183, (List.forall_mem_cons.mpr ⟨ks_57, (List.forall_mem_cons.mpr ⟨kw_6, (fun _ h => absurd h List.not_mem_nil)⟩)⟩)⟩)⟩) kw_1184) rfl rfl rfl ye_X12_placesBy ⟨Nat.le_of_ble_eq_true rfl, Nat.le_of_ble_eq_true rfl⟩) (hq_preC hE hI g24 rfl _) rfl rfl hl.1 rfl (lv_room (Nat.le_of_ble_eq_true rfl)) dX12_chance_50 ⟨Nat.le_of_ble_eq_true rfl, Nat.le_of_ble_eq_true rfl⟩) (fun H locs hI => ?_)
        refine lv_i2l (v := Int32.toInt64 v26) hx hb dX12_chance_53 rfl ?_
        refine lv_aload_n hx hb dX12_chance_54 rfl (lv_at hl 0 rfl) ?_
        obtain ⟨b27, g28, h⟩ := hq_bind h
        obtain ⟨fs_g28, hs_g28, hv_g28⟩ := gR_at g28
        refine hq_get hx hb hts hown hE hI hs_g28 inG12 rfl 1 (by decide) kw_945 hv_g28 dX12_chance_55 ?_
        refine lv_iconst (v := 0) hx hb dX12_chance_58 (by decide) ?_
        obtain ⟨v30, g29, h⟩ := hq_bind h
        refine hq_iald hx hb hE hI g29 dX12_chance_59 ?_
        refine lv_i2l (v := Int32.toInt64 v30) hx hb dX12_chance_60 rfl ?_
        refine lv_iload_n hx hb dX12_chance_61 rfl (lv_at hl 3 rfl) ?_
        obtain ⟨v33, S32, g31, h⟩ := hq_bd2 h
        refine hq_calll hI (va_runS (As := [.long (Int32.toInt64 v26), .long (Int32.toInt64 v30), .int a3]) (rest := []) ⟨hx, hb, hml, hown, hts⟩ (c_X12_lowest l D kA ρ HB S25 (Int32.toInt64 v26) (Int32.toInt64 v30) a3 _ g31) (va_cwS 3 hts (gdIn (List.forall_mem_cons.mpr ⟨kw_1185, (List.forall_mem_cons.mpr ⟨kw_1186, (List.forall_mem_cons.mpr ⟨kw_6, (fun _ h => absurd h List.not_mem_nil)⟩)⟩)⟩) kw_1187) rfl rfl rfl yd_X12_lowest ⟨Nat.le_of_ble_eq_true rfl, Nat.le_of_ble_eq_true rfl⟩) (hq_preS hE hI _) rfl rfl hl.1 rfl (lv_room (Nat.le_of_ble_eq_true rfl)) dX12_chance_62 ⟨Nat.le_of_ble_eq_true rfl, Nat.le_of_ble_eq_true rfl⟩) (fun H locs hI => ?_)
        exact hq_lret hx hb hr hlocks h0 hI h dX12_chance_65
      · have h := hq_t h c14
        refine lv_ldc2 (v := (-9223372036854775808)) hx hb hown (hts _ kw_1180) dX12_chance_25 ?_
        exact hq_lret hx hb hr hlocks h0 hI h dX12_chance_28
-- RodDipsModel.counts(II)V
theorem dX12_counts_0 : decode cX12_counts 0 = .ok (.iconst 0, 1) := by decide +kernel
theorem dX12_counts_1 : decode cX12_counts 1 = .ok (.istore_n 3, 1) := by decide +kernel
theorem dX12_counts_2 : decode cX12_counts 2 = .ok (.iload_n 3, 1) := by decide +kernel
theorem dX12_counts_3 : decode cX12_counts 3 = .ok (.bipush 11, 2) := by decide +kernel
theorem dX12_counts_5 : decode cX12_counts 5 = .ok (.if_icmp .ge 16, 3) := by decide +kernel
theorem dX12_counts_8 : decode cX12_counts 8 = .ok (.aload_n 0, 1) := by decide +kernel
theorem dX12_counts_9 : decode cX12_counts 9 = .ok (.getfield 28, 3) := by decide +kernel
theorem dX12_counts_12 : decode cX12_counts 12 = .ok (.iload_n 3, 1) := by decide +kernel
theorem dX12_counts_13 : decode cX12_counts 13 = .ok (.lconst 0, 1) := by decide +kernel
theorem dX12_counts_14 : decode cX12_counts 14 = .ok (.lastore, 1) := by decide +kernel
theorem dX12_counts_15 : decode cX12_counts 15 = .ok (.iinc 3 1, 3) := by decide +kernel
theorem dX12_counts_18 : decode cX12_counts 18 = .ok (.goto (-16), 3) := by decide +kernel
theorem dX12_counts_21 : decode cX12_counts 21 = .ok (.aload_n 0, 1) := by decide +kernel
theorem dX12_counts_22 : decode cX12_counts 22 = .ok (.getfield 28, 3) := by decide +kernel
theorem dX12_counts_25 : decode cX12_counts 25 = .ok (.iconst 0, 1) := by decide +kernel
theorem dX12_counts_26 : decode cX12_counts 26 = .ok (.lconst 1, 1) := by decide +kernel
theorem dX12_counts_27 : decode cX12_counts 27 = .ok (.lastore, 1) := by decide +kernel
theorem dX12_counts_28 : decode cX12_counts 28 = .ok (.aload_n 0, 1) := by decide +kernel
theorem dX12_counts_29 : decode cX12_counts 29 = .ok (.lconst 1, 1) := by decide +kernel
theorem dX12_counts_30 : decode cX12_counts 30 = .ok (.putfield 209, 3) := by decide +kernel
theorem dX12_counts_33 : decode cX12_counts 33 = .ok (.iconst 0, 1) := by decide +kernel
theorem dX12_counts_34 : decode cX12_counts 34 = .ok (.istore_n 3, 1) := by decide +kernel
theorem dX12_counts_35 : decode cX12_counts 35 = .ok (.iload_n 3, 1) := by decide +kernel
theorem dX12_counts_36 : decode cX12_counts 36 = .ok (.aload_n 0, 1) := by decide +kernel
theorem dX12_counts_37 : decode cX12_counts 37 = .ok (.getfield 9, 3) := by decide +kernel
theorem dX12_counts_40 : decode cX12_counts 40 = .ok (.iconst 1, 1) := by decide +kernel
theorem dX12_counts_41 : decode cX12_counts 41 = .ok (.iaload, 1) := by decide +kernel
theorem dX12_counts_42 : decode cX12_counts 42 = .ok (.if_icmp .ge 114, 3) := by decide +kernel
theorem dX12_counts_45 : decode cX12_counts 45 = .ok (.iload_n 1, 1) := by decide +kernel
theorem dX12_counts_46 : decode cX12_counts 46 = .ok (.iload_n 3, 1) := by decide +kernel
theorem dX12_counts_47 : decode cX12_counts 47 = .ok (.ishr, 1) := by decide +kernel
theorem dX12_counts_48 : decode cX12_counts 48 = .ok (.iconst 1, 1) := by decide +kernel
theorem dX12_counts_49 : decode cX12_counts 49 = .ok (.iand, 1) := by decide +kernel
theorem dX12_counts_50 : decode cX12_counts 50 = .ok (.iconst 1, 1) := by decide +kernel
theorem dX12_counts_51 : decode cX12_counts 51 = .ok (.if_icmp .ne 99, 3) := by decide +kernel
theorem dX12_counts_54 : decode cX12_counts 54 = .ok (.aload_n 0, 1) := by decide +kernel
theorem dX12_counts_55 : decode cX12_counts 55 = .ok (.aload_n 0, 1) := by decide +kernel
theorem dX12_counts_56 : decode cX12_counts 56 = .ok (.getfield 9, 3) := by decide +kernel
theorem dX12_counts_59 : decode cX12_counts 59 = .ok (.sipush 250, 3) := by decide +kernel
theorem dX12_counts_62 : decode cX12_counts 62 = .ok (.iload_n 3, 1) := by decide +kernel
theorem dX12_counts_63 : decode cX12_counts 63 = .ok (.iadd, 1) := by decide +kernel
theorem dX12_counts_64 : decode cX12_counts 64 = .ok (.iaload, 1) := by decide +kernel
theorem dX12_counts_65 : decode cX12_counts 65 = .ok (.iload_n 2, 1) := by decide +kernel
theorem dX12_counts_66 : decode cX12_counts 66 = .ok (.invokevirtual 202, 3) := by decide +kernel
theorem dX12_counts_69 : decode cX12_counts 69 = .ok (.istore 4, 2) := by decide +kernel
theorem dX12_counts_71 : decode cX12_counts 71 = .ok (.bipush 10, 2) := by decide +kernel
theorem dX12_counts_73 : decode cX12_counts 73 = .ok (.istore 5, 2) := by decide +kernel
theorem dX12_counts_75 : decode cX12_counts 75 = .ok (.iload 5, 2) := by decide +kernel
theorem dX12_counts_77 : decode cX12_counts 77 = .ok (.ifCond .lt 57, 3) := by decide +kernel
theorem dX12_counts_80 : decode cX12_counts 80 = .ok (.aload_n 0, 1) := by decide +kernel
theorem dX12_counts_81 : decode cX12_counts 81 = .ok (.getfield 28, 3) := by decide +kernel
theorem dX12_counts_84 : decode cX12_counts 84 = .ok (.iload 5, 2) := by decide +kernel
theorem dX12_counts_86 : decode cX12_counts 86 = .ok (.aload_n 0, 1) := by decide +kernel
theorem dX12_counts_87 : decode cX12_counts 87 = .ok (.getfield 28, 3) := by decide +kernel
theorem dX12_counts_90 : decode cX12_counts 90 = .ok (.iload 5, 2) := by decide +kernel
theorem dX12_counts_92 : decode cX12_counts 92 = .ok (.laload, 1) := by decide +kernel
theorem dX12_counts_93 : decode cX12_counts 93 = .ok (.aload_n 0, 1) := by decide +kernel
theorem dX12_counts_94 : decode cX12_counts 94 = .ok (.getfield 9, 3) := by decide +kernel
theorem dX12_counts_97 : decode cX12_counts 97 = .ok (.iconst 0, 1) := by decide +kernel
theorem dX12_counts_98 : decode cX12_counts 98 = .ok (.iaload, 1) := by decide +kernel
theorem dX12_counts_99 : decode cX12_counts 99 = .ok (.iload 4, 2) := by decide +kernel
theorem dX12_counts_101 : decode cX12_counts 101 = .ok (.isub, 1) := by decide +kernel
theorem dX12_counts_102 : decode cX12_counts 102 = .ok (.i2l, 1) := by decide +kernel
theorem dX12_counts_103 : decode cX12_counts 103 = .ok (.lmul, 1) := by decide +kernel
theorem dX12_counts_104 : decode cX12_counts 104 = .ok (.iload 5, 2) := by decide +kernel
theorem dX12_counts_106 : decode cX12_counts 106 = .ok (.ifCond .le 19, 3) := by decide +kernel
theorem dX12_counts_109 : decode cX12_counts 109 = .ok (.aload_n 0, 1) := by decide +kernel
theorem dX12_counts_110 : decode cX12_counts 110 = .ok (.getfield 28, 3) := by decide +kernel
theorem dX12_counts_113 : decode cX12_counts 113 = .ok (.iload 5, 2) := by decide +kernel
theorem dX12_counts_115 : decode cX12_counts 115 = .ok (.iconst 1, 1) := by decide +kernel
theorem dX12_counts_116 : decode cX12_counts 116 = .ok (.isub, 1) := by decide +kernel
theorem dX12_counts_117 : decode cX12_counts 117 = .ok (.laload, 1) := by decide +kernel
theorem dX12_counts_118 : decode cX12_counts 118 = .ok (.iload 4, 2) := by decide +kernel
theorem dX12_counts_120 : decode cX12_counts 120 = .ok (.i2l, 1) := by decide +kernel
theorem dX12_counts_121 : decode cX12_counts 121 = .ok (.lmul, 1) := by decide +kernel
theorem dX12_counts_122 : decode cX12_counts 122 = .ok (.goto 4, 3) := by decide +kernel
theorem dX12_counts_125 : decode cX12_counts 125 = .ok (.lconst 0, 1) := by decide +kernel
theorem dX12_counts_126 : decode cX12_counts 126 = .ok (.ladd, 1) := by decide +kernel
theorem dX12_counts_127 : decode cX12_counts 127 = .ok (.lastore, 1) := by decide +kernel
theorem dX12_counts_128 : decode cX12_counts 128 = .ok (.iinc 5 (-1), 3) := by decide +kernel
theorem dX12_counts_131 : decode cX12_counts 131 = .ok (.goto (-56), 3) := by decide +kernel
theorem dX12_counts_134 : decode cX12_counts 134 = .ok (.aload_n 0, 1) := by decide +kernel
theorem dX12_counts_135 : decode cX12_counts 135 = .ok (.dup, 1) := by decide +kernel
theorem dX12_counts_136 : decode cX12_counts 136 = .ok (.getfield 209, 3) := by decide +kernel
theorem dX12_counts_139 : decode cX12_counts 139 = .ok (.aload_n 0, 1) := by decide +kernel
theorem dX12_counts_140 : decode cX12_counts 140 = .ok (.getfield 9, 3) := by decide +kernel
theorem dX12_counts_143 : decode cX12_counts 143 = .ok (.iconst 0, 1) := by decide +kernel
theorem dX12_counts_144 : decode cX12_counts 144 = .ok (.iaload, 1) := by decide +kernel
theorem dX12_counts_145 : decode cX12_counts 145 = .ok (.i2l, 1) := by decide +kernel
theorem dX12_counts_146 : decode cX12_counts 146 = .ok (.lmul, 1) := by decide +kernel
theorem dX12_counts_147 : decode cX12_counts 147 = .ok (.putfield 209, 3) := by decide +kernel
theorem dX12_counts_150 : decode cX12_counts 150 = .ok (.iinc 3 1, 3) := by decide +kernel
theorem dX12_counts_153 : decode cX12_counts 153 = .ok (.goto (-118), 3) := by decide +kernel
theorem dX12_counts_156 : decode cX12_counts 156 = .ok (.return_, 1) := by decide +kernel
def f_X12_counts_K156 (S8 : HSt) : Option (HSt) := some S8
def f_X12_counts_K134 (a0 : Nat) (kb35 : (Int32 → HSt → Option (HSt))) (x9 : Int32) (S25 : HSt) : Option (HSt) := (gL S25 a0 12 14).bind fun v26 => (gR S25 a0 12 1).bind fun b28 => (aI S25 b28 0 0).bind fun v31 => (pV S25 a0 12 14 (.long (v26 * (Int32.toInt64 v31)))).bind fun S32 => kb35 (x9 + 1) S32
def f_X12_counts_B75 (a0 : Nat) (v24 : Int32) (kx134 : (HSt → Option (HSt))) (kb75 : (Int32 → HSt → Option (HSt))) (x34 : Int32) (S35 : HSt) : Option (HSt) := if x34 < 0 then (kx134 S35) else ((gR S35 a0 12 13).bind fun b37 => (gR S35 a0 12 13).bind fun b39 => (aL S35 b39 x34).bind fun v42 => (gR S35 a0 12 1).bind fun b43 => (aI S35 b43 0 0).bind fun v46 => if x34 ≤ 0 then ((sL S35 b37 x34 ((v42 * (Int32.toInt64 (v46 - v24))) + 0)).bind fun S49 => kb75 (x34 + (-1)) S49) else ((gR S35 a0 12 13).bind fun b50 => (aL S35 b50 (x34 - 1)).bind fun v53 => (sL S35 b37 x34 ((v42 * (Int32.toInt64 (v46 - v24))) + (v53 * (Int32.toInt64 v24)))).bind fun S55 => kb75 (x34 + (-1)) S55))
def f_X12_counts_L75 (a0 : Nat) (v24 : Int32) (kx134 : (HSt → Option (HSt))) : Nat → Int32 → HSt → Option (HSt)
  | 0, _, _ => none
  | n + 1, x34, S => f_X12_counts_B75 a0 v24 kx134 (f_X12_counts_L75 a0 v24 kx134 n) x34 S
def f_X12_counts_B35 (a0 : Nat) (a1 : Int32) (a2 : Int32) (kx156 : (HSt → Option (HSt))) (kb35 : (Int32 → HSt → Option (HSt))) (x9 : Int32) (S10 : HSt) : Option (HSt) := (gR S10 a0 12 1).bind fun b11 => (aI S10 b11 0 1).bind fun v14 => if v14 ≤ x9 then (kx156 S10) else (if ((a1 >>> (x9 &&& 31)) &&& 1) = 1 then ((gR S10 a0 12 1).bind fun b17 => (aI S10 b17 0 (250 + x9)).bind fun v20 => if gC S10 a0 = some 12 then (bd2 (f_X12_placesBy S10 a0 v20 a2) fun v24 S23 => (f_X12_counts_L75 a0 v24 (f_X12_counts_K134 a0 kb35 x9) FU) 10 S23) else none) else (kb35 (x9 + 1) S10))
def f_X12_counts_L35 (a0 : Nat) (a1 : Int32) (a2 : Int32) (kx156 : (HSt → Option (HSt))) : Nat → Int32 → HSt → Option (HSt)
  | 0, _, _ => none
  | n + 1, x9, S => f_X12_counts_B35 a0 a1 a2 kx156 (f_X12_counts_L35 a0 a1 a2 kx156 n) x9 S
def f_X12_counts_K21 (a0 : Nat) (a1 : Int32) (a2 : Int32) (S1 : HSt) : Option (HSt) := (gR S1 a0 12 13).bind fun b2 => (sL S1 b2 0 1).bind fun S5 => (pV S5 a0 12 14 (.long 1)).bind fun S6 => (f_X12_counts_L35 a0 a1 a2 f_X12_counts_K156 FU) 0 S6
def f_X12_counts_B2 (a0 : Nat) (kx21 : (HSt → Option (HSt))) (kb2 : (Int32 → HSt → Option (HSt))) (x56 : Int32) (S57 : HSt) : Option (HSt) := if 11 ≤ x56 then (kx21 S57) else ((gR S57 a0 12 13).bind fun b59 => (sL S57 b59 x56 0).bind fun S62 => kb2 (x56 + 1) S62)
def f_X12_counts_L2 (a0 : Nat) (kx21 : (HSt → Option (HSt))) : Nat → Int32 → HSt → Option (HSt)
  | 0, _, _ => none
  | n + 1, x56, S => f_X12_counts_B2 a0 kx21 (f_X12_counts_L2 a0 kx21 n) x56 S
def f_X12_counts (S : HSt) (a0 : Nat) (a1 : Int32) (a2 : Int32) : Option (HSt) := (f_X12_counts_L2 a0 (f_X12_counts_K21 a0 a1 a2) FU) 0 S
abbrev rm_X12_counts : Room := { frames := 2, cells := 0, slots := 0, locals := 44 }
abbrev w_X12_counts : List Cond := Cond.code yX12_counts cX12_counts 6 none :: lwG
theorem yd_X12_counts : yX12_counts.cls ≠ "java/lang/invoke/MethodHandle" ∧ yX12_counts.cls ≠ "java/lang/invoke/VarHandle" ∧ (parseMethodDescriptor yX12_counts.desc).map (fun d => d.parameters.length) = some 2 := by decide +kernel
theorem ye_X12_counts : yX12_counts.cls = RX12 ∧ yX12_counts.cls ≠ "java/lang/invoke/MethodHandle" ∧ yX12_counts.cls ≠ "java/lang/invoke/VarHandle" ∧ (parseMethodDescriptor yX12_counts.desc).map (fun d => d.parameters.length) = some 2 := by decide +kernel
set_option maxHeartbeats 4000000 in
set_option maxRecDepth 100000 in
theorem c_X12_counts (l : Launch) (D : va_G) (kA ρ : Nat → Nat) (HB : Heap) (S : HSt) (a0 : Nat) (a1 : Int32) (a2 : Int32) (res : HSt) (h : f_X12_counts S a0 a1 a2 = some res) : Met l yX12_counts w_X12_counts rm_X12_counts (hPc D kA ρ HB S [.ref a0, .int a1, .int a2]) (hQv D kA HB S res) 0 0 (hFree HB) := by
  refine Met.ofW (cc := cX12_counts) (maxL := 6) (ret := none) (by decide) rfl ?_
  intro p e s m args below meth c s₁ B hml hv
  obtain ⟨rfl, hE, h0⟩ := hv
  have hx := B.exec
  have hb := B.bytes
  have hr := B.returns
  have hts0 := atoms_spec (ws := w_X12_counts) B.pre
  have hts : ∀ w ∈ lwG, w.before _ s = true := fun w hw => hts0 w (List.mem_cons_of_mem _ hw)
  have hown : s.vm.findClass RX12 = some m.cls := findClass_of_methodNamed B.named
  have hlocks := B.notSynchronized
  have hI : hqX D kA HB S.2 S s.heap [] := ⟨h0, Nat.le_refl _, fun _ q => absurd q List.not_mem_nil⟩
  have hl := lv_entry ([.ref a0, .int a1, .int a2]) (n := 6) (Nat.le_of_ble_eq_true rfl)
  rw [lg_entry_eq]
  generalize (lg_sl ([.ref a0, .int a1, .int a2]) ++ List.replicate (6 - (lg_sl ([.ref a0, .int a1, .int a2])).length) Slot.unset).toArray = ls at hl ⊢
  have hl : lv_has ls 6 [(0, .ref a0), (1, .int a1), (2, .int a2)] := hl
  unfold f_X12_counts at h
  refine lv_iconst (v := 0) hx hb dX12_counts_0 (by decide) ?_
  refine lv_istore_n (lv' := [(3, .int 0), (0, .ref a0), (1, .int a1), (2, .int a2)]) hx hb dX12_counts_1 rfl hl (by decide) rfl (fun ls hl => ?_)
  have hK21 : ∀ (S1 : HSt) (H : Heap) (locs : List Loc) (ls : Array Slot), (f_X12_counts_K21 a0 a1 a2) S1 = some res → hqX D kA HB S.2 S1 H locs → lv_has ls 6 [(0, .ref a0), (1, .int a1), (2, .int a2)] → W p l e rm_X12_counts s m ([.ref a0, .int a1, .int a2] : List Value).toArray below meth c H locs 0 0 (MQ below (hQv D kA HB S res) ([.ref a0, .int a1, .int a2] : List Value).toArray s 0 0 (hFree HB)) (F0 m 21 ls []) := by
    intro S1 H locs ls h hI hl
    unfold f_X12_counts_K21 at h
    refine lv_aload_n hx hb dX12_counts_21 rfl (lv_at hl 0 rfl) ?_
    obtain ⟨b2, g3, h⟩ := hq_bind h
    obtain ⟨fs_g3, hs_g3, hv_g3⟩ := gR_at g3
    refine hq_get hx hb hts hown hE hI hs_g3 inG12 rfl 13 (by decide) kw_957 hv_g3 dX12_counts_22 ?_
    refine lv_iconst (v := 0) hx hb dX12_counts_25 (by decide) ?_
    refine lv_lconst (v := 1) hx hb dX12_counts_26 (by decide) ?_
    obtain ⟨S5, g4, h⟩ := hq_bind h
    refine hq_last hx hb hE hI g4 dX12_counts_27 (fun H locs hI => ?_)
    refine lv_aload_n hx hb dX12_counts_28 rfl (lv_at hl 0 rfl) ?_
    refine lv_lconst (v := 1) hx hb dX12_counts_29 (by decide) ?_
    obtain ⟨S6, g7, h⟩ := hq_bind h
    obtain ⟨fs_g7, hs_g7, hl_g7, e_g7⟩ := pV_at g7
    refine hq_put hx hb hts hown hE hI hs_g7 inG12 tyX12 tyX12_ok nmX12 rfl 14 (by decide) kw_958 rfl (v := .long 1) rfl rfl rfl hl_g7 e_g7 dX12_counts_30 (fun H locs hI => ?_)
    refine lv_iconst (v := 0) hx hb dX12_counts_33 (by decide) ?_
    refine lv_istore_n (lv' := [(3, .int 0), (0, .ref a0), (1, .int a1), (2, .int a2)]) hx hb dX12_counts_34 rfl hl (by decide) rfl (fun ls hl => ?_)
    have hK156 : ∀ (S8 : HSt) (H : Heap) (locs : List Loc) (ls : Array Slot), f_X12_counts_K156 S8 = some res → hqX D kA HB S.2 S8 H locs → lv_has ls 6 [] → W p l e rm_X12_counts s m ([.ref a0, .int a1, .int a2] : List Value).toArray below meth c H locs 0 0 (MQ below (hQv D kA HB S res) ([.ref a0, .int a1, .int a2] : List Value).toArray s 0 0 (hFree HB)) (F0 m 156 ls []) := by
      intro S8 H locs ls h hI hl
      unfold f_X12_counts_K156 at h
      exact hq_vret hx hb hr hlocks h0 hI h dX12_counts_156
    have hL35 : ∀ (n35 : Nat) (x9 : Int32) (S10 : HSt) (H : Heap) (locs : List Loc) (ls : Array Slot), (f_X12_counts_L35 a0 a1 a2 f_X12_counts_K156 n35) x9 S10 = some res → hqX D kA HB S.2 S10 H locs → lv_has ls 6 [(0, .ref a0), (1, .int a1), (2, .int a2), (3, .int x9)] → W p l e rm_X12_counts s m ([.ref a0, .int a1, .int a2] : List Value).toArray below meth c H locs 0 0 (MQ below (hQv D kA HB S res) ([.ref a0, .int a1, .int a2] : List Value).toArray s 0 0 (hFree HB)) (F0 m 35 ls []) := by
      intro n35
      induction n35 with
      | zero =>
        intro x9 S10 H locs ls h
        have h : (none : Option (HSt)) = some res := h
        cases h
      | succ n35 ih35 =>
        intro x9 S10 H locs ls h hI hl
        have h : f_X12_counts_B35 a0 a1 a2 f_X12_counts_K156 (f_X12_counts_L35 a0 a1 a2 f_X12_counts_K156 n35) x9 S10 = some res := h
        unfold f_X12_counts_B35 at h
        refine lv_iload_n hx hb dX12_counts_35 rfl (lv_at hl 3 rfl) ?_
        refine lv_aload_n hx hb dX12_counts_36 rfl (lv_at hl 0 rfl) ?_
        obtain ⟨b11, g12, h⟩ := hq_bind h
        obtain ⟨fs_g12, hs_g12, hv_g12⟩ := gR_at g12
        refine hq_get hx hb hts hown hE hI hs_g12 inG12 rfl 1 (by decide) kw_945 hv_g12 dX12_counts_37 ?_
        refine lv_iconst (v := 1) hx hb dX12_counts_40 (by decide) ?_
        obtain ⟨v14, g13, h⟩ := hq_bind h
        refine hq_iald hx hb hE hI g13 dX12_counts_41 ?_
        refine lv_icmp_ge (tgt := 156) hx hb dX12_counts_42 (by decide) (fun c15 => ?_) (fun c15 => ?_)
        · have h := hq_t h c15
          exact hK156 S10 _ _ _ h hI (lv_sub hl [] rfl)
        · have h := hq_f h c15
          refine lv_iload_n hx hb dX12_counts_45 rfl (lv_at hl 1 rfl) ?_
          refine lv_iload_n hx hb dX12_counts_46 rfl (lv_at hl 3 rfl) ?_
          refine lv_ishr hx hb dX12_counts_47 ?_
          refine lv_iconst (v := 1) hx hb dX12_counts_48 (by decide) ?_
          refine lv_iand hx hb dX12_counts_49 ?_
          refine lv_iconst (v := 1) hx hb dX12_counts_50 (by decide) ?_
          refine lv_icmp_ne (tgt := 150) hx hb dX12_counts_51 (by decide) (fun c16 => ?_) (fun c16 => ?_)
          · have h := hq_f h c16
            refine lv_iinc (v := (x9 + 1)) (lv' := [(3, .int (x9 + 1)), (0, .ref a0), (1, .int a1), (2, .int a2)]) hx hb dX12_counts_150 hl (k := 3) rfl rfl (by decide) rfl (fun ls hl => ?_)
            refine lv_goto (tgt := 35) hx hb dX12_counts_153 (by decide) ?_
            exact ih35 (x9 + 1) S10 _ _ _ h hI (lv_sub hl [1, 2, 3, 0] rfl)
          · have h := hq_t h c16
            refine lv_aload_n hx hb dX12_counts_54 rfl (lv_at hl 0 rfl) ?_
            refine lv_aload_n hx hb dX12_counts_55 rfl (lv_at hl 0 rfl) ?_
            obtain ⟨b17, g18, h⟩ := hq_bind h
            obtain ⟨fs_g18, hs_g18, hv_g18⟩ := gR_at g18
            refine hq_get hx hb hts hown hE hI hs_g18 inG12 rfl 1 (by decide) kw_945 hv_g18 dX12_counts_56 ?_
            refine lv_sipush (v := 250) hx hb dX12_counts_59 (by decide) ?_
            refine lv_iload_n hx hb dX12_counts_62 rfl (lv_at hl 3 rfl) ?_
            refine lv_iadd hx hb dX12_counts_63 ?_
            obtain ⟨v20, g19, h⟩ := hq_bind h
            refine hq_iald hx hb hE hI g19 dX12_counts_64 ?_
            refine lv_iload_n hx hb dX12_counts_65 rfl (lv_at hl 2 rfl) ?_
            obtain ⟨g22, h⟩ := hq_g h
            obtain ⟨v24, S23, g21, h⟩ := hq_bd2 h
            refine hq_calli hI (va_runV (As := [.int v20, .int a2]) (rest := []) ⟨hx, hb, hml, hown, hts⟩ (c_X12_placesBy l D kA ρ HB S10 a0 v20 a2 _ g21) (cwV 2 hts (gdIn (List.forall_mem_cons.mpr ⟨kw_1181, (List.forall_mem_cons.mpr ⟨kw_1183, (List.forall_mem_cons.mpr ⟨ks_57, (List.forall_mem_cons.mpr ⟨kw_6, (fun _ h => absurd h List.not_mem_nil)⟩)⟩)⟩)⟩) kw_1184) rfl rfl rfl ye_X12_placesBy ⟨Nat.le_of_ble_eq_true rfl, Nat.le_of_ble_eq_true rfl⟩) (hq_preC hE hI g22 rfl _) rfl rfl hl.1 rfl (lv_room (Nat.le_of_ble_eq_true rfl)) dX12_counts_66 ⟨Nat.le_of_ble_eq_true rfl, Nat.le_of_ble_eq_true rfl⟩) (fun H locs hI => ?_)
            refine lv_istore (lv' := [(4, .int v24), (0, .ref a0), (1, .int a1), (2, .int a2), (3, .int x9)]) hx hb dX12_counts_69 hl (by decide) rfl (fun ls hl => ?_)
            refine lv_bipush (v := 10) hx hb dX12_counts_71 (by decide) ?_
            refine lv_istore (lv' := [(5, .int 10), (4, .int v24), (0, .ref a0), (1, .int a1), (2, .int a2), (3, .int x9)]) hx hb dX12_counts_73 hl (by decide) rfl (fun ls hl => ?_)
            have hK134 : ∀ (S25 : HSt) (H : Heap) (locs : List Loc) (ls : Array Slot), (f_X12_counts_K134 a0 (f_X12_counts_L35 a0 a1 a2 f_X12_counts_K156 n35) x9) S25 = some res → hqX D kA HB S.2 S25 H locs → lv_has ls 6 [(0, .ref a0), (1, .int a1), (2, .int a2), (3, .int x9)] → W p l e rm_X12_counts s m ([.ref a0, .int a1, .int a2] : List Value).toArray below meth c H locs 0 0 (MQ below (hQv D kA HB S res) ([.ref a0, .int a1, .int a2] : List Value).toArray s 0 0 (hFree HB)) (F0 m 134 ls []) := by
              intro S25 H locs ls h hI hl
              unfold f_X12_counts_K134 at h
              refine lv_aload_n hx hb dX12_counts_134 rfl (lv_at hl 0 rfl) ?_
              refine lv_dup hx hb dX12_counts_135 rfl ?_
              obtain ⟨v26, g27, h⟩ := hq_bind h
              obtain ⟨fs_g27, hs_g27, hv_g27⟩ := gL_at g27
              refine hq_get hx hb hts hown hE hI hs_g27 inG12 rfl 14 (by decide) kw_958 hv_g27 dX12_counts_136 ?_
              refine lv_aload_n hx hb dX12_counts_139 rfl (lv_at hl 0 rfl) ?_
              obtain ⟨b28, g29, h⟩ := hq_bind h
              obtain ⟨fs_g29, hs_g29, hv_g29⟩ := gR_at g29
              refine hq_get hx hb hts hown hE hI hs_g29 inG12 rfl 1 (by decide) kw_945 hv_g29 dX12_counts_140 ?_
              refine lv_iconst (v := 0) hx hb dX12_counts_143 (by decide) ?_
              obtain ⟨v31, g30, h⟩ := hq_bind h
              refine hq_iald hx hb hE hI g30 dX12_counts_144 ?_
              refine lv_i2l (v := Int32.toInt64 v31) hx hb dX12_counts_145 rfl ?_
              refine lv_lmul hx hb dX12_counts_146 ?_
              obtain ⟨S32, g33, h⟩ := hq_bind h
              obtain ⟨fs_g33, hs_g33, hl_g33, e_g33⟩ := pV_at g33
              refine hq_put hx hb hts hown hE hI hs_g33 inG12 tyX12 tyX12_ok nmX12 rfl 14 (by decide) kw_958 rfl (v := .long (v26 * (Int32.toInt64 v31))) rfl rfl rfl hl_g33 e_g33 dX12_counts_147 (fun H locs hI => ?_)
              refine lv_iinc (v := (x9 + 1)) (lv' := [(3, .int (x9 + 1)), (0, .ref a0), (1, .int a1), (2, .int a2)]) hx hb dX12_counts_150 hl (k := 3) rfl rfl (by decide) rfl (fun ls hl => ?_)
              refine lv_goto (tgt := 35) hx hb dX12_counts_153 (by decide) ?_
              exact ih35 (x9 + 1) S32 _ _ _ h hI (lv_sub hl [1, 2, 3, 0] rfl)
            have hL75 : ∀ (n75 : Nat) (x34 : Int32) (S35 : HSt) (H : Heap) (locs : List Loc) (ls : Array Slot), (f_X12_counts_L75 a0 v24 (f_X12_counts_K134 a0 (f_X12_counts_L35 a0 a1 a2 f_X12_counts_K156 n35) x9) n75) x34 S35 = some res → hqX D kA HB S.2 S35 H locs → lv_has ls 6 [(0, .ref a0), (1, .int a1), (2, .int a2), (3, .int x9), (4, .int v24), (5, .int x34)] → W p l e rm_X12_counts s m ([.ref a0, .int a1, .int a2] : List Value).toArray below meth c H locs 0 0 (MQ below (hQv D kA HB S res) ([.ref a0, .int a1, .int a2] : List Value).toArray s 0 0 (hFree HB)) (F0 m 75 ls []) := by
              intro n75
              induction n75 with
              | zero =>
                intro x34 S35 H locs ls h
                have h : (none : Option (HSt)) = some res := h
                cases h
              | succ n75 ih75 =>
                intro x34 S35 H locs ls h hI hl
                have h : f_X12_counts_B75 a0 v24 (f_X12_counts_K134 a0 (f_X12_counts_L35 a0 a1 a2 f_X12_counts_K156 n35) x9) (f_X12_counts_L75 a0 v24 (f_X12_counts_K134 a0 (f_X12_counts_L35 a0 a1 a2 f_X12_counts_K156 n35) x9) n75) x34 S35 = some res := h
                unfold f_X12_counts_B75 at h
                refine lv_iload hx hb dX12_counts_75 (lv_at hl 5 rfl) ?_
                refine lv_if_lt (tgt := 134) hx hb dX12_counts_77 (by decide) (fun c36 => ?_) (fun c36 => ?_)
                · have h := hq_t h c36
                  exact hK134 S35 _ _ _ h hI (lv_sub hl [0, 1, 2, 3] rfl)
                · have h := hq_f h c36
                  refine lv_aload_n hx hb dX12_counts_80 rfl (lv_at hl 0 rfl) ?_
                  obtain ⟨b37, g38, h⟩ := hq_bind h
                  obtain ⟨fs_g38, hs_g38, hv_g38⟩ := gR_at g38
                  refine hq_get hx hb hts hown hE hI hs_g38 inG12 rfl 13 (by decide) kw_957 hv_g38 dX12_counts_81 ?_
                  refine lv_iload hx hb dX12_counts_84 (lv_at hl 5 rfl) ?_
                  refine lv_aload_n hx hb dX12_counts_86 rfl (lv_at hl 0 rfl) ?_
                  obtain ⟨b39, g40, h⟩ := hq_bind h
                  obtain ⟨fs_g40, hs_g40, hv_g40⟩ := gR_at g40
                  refine hq_get hx hb hts hown hE hI hs_g40 inG12 rfl 13 (by decide) kw_957 hv_g40 dX12_counts_87 ?_
                  refine lv_iload hx hb dX12_counts_90 (lv_at hl 5 rfl) ?_
                  obtain ⟨v42, g41, h⟩ := hq_bind h
                  refine hq_lald hx hb hE hI g41 dX12_counts_92 ?_
                  refine lv_aload_n hx hb dX12_counts_93 rfl (lv_at hl 0 rfl) ?_
                  obtain ⟨b43, g44, h⟩ := hq_bind h
                  obtain ⟨fs_g44, hs_g44, hv_g44⟩ := gR_at g44
                  refine hq_get hx hb hts hown hE hI hs_g44 inG12 rfl 1 (by decide) kw_945 hv_g44 dX12_counts_94 ?_
                  refine lv_iconst (v := 0) hx hb dX12_counts_97 (by decide) ?_
                  obtain ⟨v46, g45, h⟩ := hq_bind h
                  refine hq_iald hx hb hE hI g45 dX12_counts_98 ?_
                  refine lv_iload hx hb dX12_counts_99 (lv_at hl 4 rfl) ?_
                  refine lv_isub hx hb dX12_counts_101 ?_
                  refine lv_i2l (v := Int32.toInt64 (v46 - v24)) hx hb dX12_counts_102 rfl ?_
                  refine lv_lmul hx hb dX12_counts_103 ?_
                  refine lv_iload hx hb dX12_counts_104 (lv_at hl 5 rfl) ?_
                  refine lv_if_le (tgt := 125) hx hb dX12_counts_106 (by decide) (fun c47 => ?_) (fun c47 => ?_)
                  · have h := hq_t h c47
                    refine lv_lconst (v := 0) hx hb dX12_counts_125 (by decide) ?_
                    refine lv_ladd hx hb dX12_counts_126 ?_
                    obtain ⟨S49, g48, h⟩ := hq_bind h
                    refine hq_last hx hb hE hI g48 dX12_counts_127 (fun H locs hI => ?_)
                    refine lv_iinc (v := (x34 + (-1))) (lv' := [(5, .int (x34 + (-1))), (0, .ref a0), (1, .int a1), (2, .int a2), (3, .int x9), (4, .int v24)]) hx hb dX12_counts_128 hl (k := 5) rfl rfl (by decide) rfl (fun ls hl => ?_)
                    refine lv_goto (tgt := 75) hx hb dX12_counts_131 (by decide) ?_
                    exact ih75 (x34 + (-1)) S49 _ _ _ h hI (lv_sub hl [1, 2, 3, 4, 5, 0] rfl)
                  · have h := hq_f h c47
                    refine lv_aload_n hx hb dX12_counts_109 rfl (lv_at hl 0 rfl) ?_
                    obtain ⟨b50, g51, h⟩ := hq_bind h
                    obtain ⟨fs_g51, hs_g51, hv_g51⟩ := gR_at g51
                    refine hq_get hx hb hts hown hE hI hs_g51 inG12 rfl 13 (by decide) kw_957 hv_g51 dX12_counts_110 ?_
                    refine lv_iload hx hb dX12_counts_113 (lv_at hl 5 rfl) ?_
                    refine lv_iconst (v := 1) hx hb dX12_counts_115 (by decide) ?_
                    refine lv_isub hx hb dX12_counts_116 ?_
                    obtain ⟨v53, g52, h⟩ := hq_bind h
                    refine hq_lald hx hb hE hI g52 dX12_counts_117 ?_
                    refine lv_iload hx hb dX12_counts_118 (lv_at hl 4 rfl) ?_
                    refine lv_i2l (v := Int32.toInt64 v24) hx hb dX12_counts_120 rfl ?_
                    refine lv_lmul hx hb dX12_counts_121 ?_
                    refine lv_goto (tgt := 126) hx hb dX12_counts_122 (by decide) ?_
                    refine lv_ladd hx hb dX12_counts_126 ?_
                    obtain ⟨S55, g54, h⟩ := hq_bind h
                    refine hq_last hx hb hE hI g54 dX12_counts_127 (fun H locs hI => ?_)
                    refine lv_iinc (v := (x34 + (-1))) (lv' := [(5, .int (x34 + (-1))), (0, .ref a0), (1, .int a1), (2, .int a2), (3, .int x9), (4, .int v24)]) hx hb dX12_counts_128 hl (k := 5) rfl rfl (by decide) rfl (fun ls hl => ?_)
                    refine lv_goto (tgt := 75) hx hb dX12_counts_131 (by decide) ?_
                    exact ih75 (x34 + (-1)) S55 _ _ _ h hI (lv_sub hl [1, 2, 3, 4, 5, 0] rfl)
            exact hL75 FU 10 S23 _ _ _ h hI (lv_sub hl [2, 3, 4, 5, 1, 0] rfl)
    exact hL35 FU 0 S6 _ _ _ h hI (lv_sub hl [1, 2, 3, 0] rfl)
  have hL2 : ∀ (n2 : Nat) (x56 : Int32) (S57 : HSt) (H : Heap) (locs : List Loc) (ls : Array Slot), (f_X12_counts_L2 a0 (f_X12_counts_K21 a0 a1 a2) n2) x56 S57 = some res → hqX D kA HB S.2 S57 H locs → lv_has ls 6 [(0, .ref a0), (1, .int a1), (2, .int a2), (3, .int x56)] → W p l e rm_X12_counts s m ([.ref a0, .int a1, .int a2] : List Value).toArray below meth c H locs 0 0 (MQ below (hQv D kA HB S res) ([.ref a0, .int a1, .int a2] : List Value).toArray s 0 0 (hFree HB)) (F0 m 2 ls []) := by
    intro n2
    induction n2 with
    | zero =>
      intro x56 S57 H locs ls h
      have h : (none : Option (HSt)) = some res := h
      cases h
    | succ n2 ih2 =>
      intro x56 S57 H locs ls h hI hl
      have h : f_X12_counts_B2 a0 (f_X12_counts_K21 a0 a1 a2) (f_X12_counts_L2 a0 (f_X12_counts_K21 a0 a1 a2) n2) x56 S57 = some res := h
      unfold f_X12_counts_B2 at h
      refine lv_iload_n hx hb dX12_counts_2 rfl (lv_at hl 3 rfl) ?_
      refine lv_bipush (v := 11) hx hb dX12_counts_3 (by decide) ?_
      refine lv_icmp_ge (tgt := 21) hx hb dX12_counts_5 (by decide) (fun c58 => ?_) (fun c58 => ?_)
      · have h := hq_t h c58
        exact hK21 S57 _ _ _ h hI (lv_sub hl [0, 1, 2] rfl)
      · have h := hq_f h c58
        refine lv_aload_n hx hb dX12_counts_8 rfl (lv_at hl 0 rfl) ?_
        obtain ⟨b59, g60, h⟩ := hq_bind h
        obtain ⟨fs_g60, hs_g60, hv_g60⟩ := gR_at g60
        refine hq_get hx hb hts hown hE hI hs_g60 inG12 rfl 13 (by decide) kw_957 hv_g60 dX12_counts_9 ?_
        refine lv_iload_n hx hb dX12_counts_12 rfl (lv_at hl 3 rfl) ?_
        refine lv_lconst (v := 0) hx hb dX12_counts_13 (by decide) ?_
        obtain ⟨S62, g61, h⟩ := hq_bind h
        refine hq_last hx hb hE hI g61 dX12_counts_14 (fun H locs hI => ?_)
        refine lv_iinc (v := (x56 + 1)) (lv' := [(3, .int (x56 + 1)), (0, .ref a0), (1, .int a1), (2, .int a2)]) hx hb dX12_counts_15 hl (k := 3) rfl rfl (by decide) rfl (fun ls hl => ?_)
        refine lv_goto (tgt := 2) hx hb dX12_counts_18 (by decide) ?_
        exact ih2 (x56 + 1) S62 _ _ _ h hI (lv_sub hl [1, 2, 3, 0] rfl)
  exact hL2 FU 0 S _ _ _ h hI (lv_sub hl [1, 2, 3, 0] rfl)
-- RodDipsModel.orMore(I)J
theorem dX12_orMore_0 : decode cX12_orMore 0 = .ok (.lconst 0, 1) := by decide +kernel
theorem dX12_orMore_1 : decode cX12_orMore 1 = .ok (.lstore_n 2, 1) := by decide +kernel
theorem dX12_orMore_2 : decode cX12_orMore 2 = .ok (.iload_n 1, 1) := by decide +kernel
theorem dX12_orMore_3 : decode cX12_orMore 3 = .ok (.istore 4, 2) := by decide +kernel
theorem dX12_orMore_5 : decode cX12_orMore 5 = .ok (.iload 4, 2) := by decide +kernel
theorem dX12_orMore_7 : decode cX12_orMore 7 = .ok (.bipush 11, 2) := by decide +kernel
theorem dX12_orMore_9 : decode cX12_orMore 9 = .ok (.if_icmp .ge 19, 3) := by decide +kernel
theorem dX12_orMore_12 : decode cX12_orMore 12 = .ok (.lload_n 2, 1) := by decide +kernel
theorem dX12_orMore_13 : decode cX12_orMore 13 = .ok (.aload_n 0, 1) := by decide +kernel
theorem dX12_orMore_14 : decode cX12_orMore 14 = .ok (.getfield 28, 3) := by decide +kernel
theorem dX12_orMore_17 : decode cX12_orMore 17 = .ok (.iload 4, 2) := by decide +kernel
theorem dX12_orMore_19 : decode cX12_orMore 19 = .ok (.laload, 1) := by decide +kernel
theorem dX12_orMore_20 : decode cX12_orMore 20 = .ok (.ladd, 1) := by decide +kernel
theorem dX12_orMore_21 : decode cX12_orMore 21 = .ok (.lstore_n 2, 1) := by decide +kernel
theorem dX12_orMore_22 : decode cX12_orMore 22 = .ok (.iinc 4 1, 3) := by decide +kernel
theorem dX12_orMore_25 : decode cX12_orMore 25 = .ok (.goto (-20), 3) := by decide +kernel
theorem dX12_orMore_28 : decode cX12_orMore 28 = .ok (.lload_n 2, 1) := by decide +kernel
theorem dX12_orMore_29 : decode cX12_orMore 29 = .ok (.lreturn, 1) := by decide +kernel
def f_X12_orMore_K28 (x1 : Int64) (S2 : HSt) : Option (Int64 × HSt) := some (x1, S2)
def f_X12_orMore_B5 (a0 : Nat) (kx28 : (Int64 → HSt → Option (Int64 × HSt))) (kb5 : (Int64 → Int32 → HSt → Option (Int64 × HSt))) (x3 : Int64) (x4 : Int32) (S5 : HSt) : Option (Int64 × HSt) := if 11 ≤ x4 then (kx28 x3 S5) else ((gR S5 a0 12 13).bind fun b7 => (aL S5 b7 x4).bind fun v10 => kb5 (x3 + v10) (x4 + 1) S5)
def f_X12_orMore_L5 (a0 : Nat) (kx28 : (Int64 → HSt → Option (Int64 × HSt))) : Nat → Int64 → Int32 → HSt → Option (Int64 × HSt)
  | 0, _, _, _ => none
  | n + 1, x3, x4, S => f_X12_orMore_B5 a0 kx28 (f_X12_orMore_L5 a0 kx28 n) x3 x4 S
def f_X12_orMore (S : HSt) (a0 : Nat) (a1 : Int32) : Option (Int64 × HSt) := (f_X12_orMore_L5 a0 f_X12_orMore_K28 FU) 0 a1 S
abbrev rm_X12_orMore : Room := { frames := 0, cells := 0, slots := 0, locals := 0 }
abbrev w_X12_orMore : List Cond := Cond.code yX12_orMore cX12_orMore 5 (Option.some FieldType.long) :: lwG
theorem yd_X12_orMore : yX12_orMore.cls ≠ "java/lang/invoke/MethodHandle" ∧ yX12_orMore.cls ≠ "java/lang/invoke/VarHandle" ∧ (parseMethodDescriptor yX12_orMore.desc).map (fun d => d.parameters.length) = some 1 := by decide +kernel
theorem ye_X12_orMore : yX12_orMore.cls = RX12 ∧ yX12_orMore.cls ≠ "java/lang/invoke/MethodHandle" ∧ yX12_orMore.cls ≠ "java/lang/invoke/VarHandle" ∧ (parseMethodDescriptor yX12_orMore.desc).map (fun d => d.parameters.length) = some 1 := by decide +kernel
set_option maxHeartbeats 4000000 in
set_option maxRecDepth 100000 in
theorem c_X12_orMore (l : Launch) (D : va_G) (kA ρ : Nat → Nat) (HB : Heap) (S : HSt) (a0 : Nat) (a1 : Int32) (res : Int64 × HSt) (h : f_X12_orMore S a0 a1 = some res) : Met l yX12_orMore w_X12_orMore rm_X12_orMore (hPc D kA ρ HB S [.ref a0, .int a1]) (hQl D kA HB S res) 0 0 (hFree HB) := by
  refine Met.ofW (cc := cX12_orMore) (maxL := 5) (ret := (Option.some FieldType.long)) (by decide) rfl ?_
  intro p e s m args below meth c s₁ B hml hv
  obtain ⟨rfl, hE, h0⟩ := hv
  have hx := B.exec
  have hb := B.bytes
  have hr := B.returns
  have hts0 := atoms_spec (ws := w_X12_orMore) B.pre
  have hts : ∀ w ∈ lwG, w.before _ s = true := fun w hw => hts0 w (List.mem_cons_of_mem _ hw)
  have hown : s.vm.findClass RX12 = some m.cls := findClass_of_methodNamed B.named
  have hlocks := B.notSynchronized
  have hI : hqX D kA HB S.2 S s.heap [] := ⟨h0, Nat.le_refl _, fun _ q => absurd q List.not_mem_nil⟩
  have hl := lv_entry ([.ref a0, .int a1]) (n := 5) (Nat.le_of_ble_eq_true rfl)
  rw [lg_entry_eq]
  generalize (lg_sl ([.ref a0, .int a1]) ++ List.replicate (5 - (lg_sl ([.ref a0, .int a1])).length) Slot.unset).toArray = ls at hl ⊢
  have hl : lv_has ls 5 [(0, .ref a0), (1, .int a1)] := hl
  unfold f_X12_orMore at h
  refine lv_lconst (v := 0) hx hb dX12_orMore_0 (by decide) ?_
  refine lv_lstore_n (lv' := [(2, .long 0), (0, .ref a0), (1, .int a1)]) hx hb dX12_orMore_1 rfl hl (by decide) rfl (fun ls hl => ?_)
  refine lv_iload_n hx hb dX12_orMore_2 rfl (lv_at hl 2 rfl) ?_
  refine lv_istore (lv' := [(4, .int a1), (2, .long 0), (0, .ref a0), (1, .int a1)]) hx hb dX12_orMore_3 hl (by decide) rfl (fun ls hl => ?_)
  have hK28 : ∀ (x1 : Int64) (S2 : HSt) (H : Heap) (locs : List Loc) (ls : Array Slot), f_X12_orMore_K28 x1 S2 = some res → hqX D kA HB S.2 S2 H locs → lv_has ls 5 [(2, .long x1)] → W p l e rm_X12_orMore s m ([.ref a0, .int a1] : List Value).toArray below meth c H locs 0 0 (MQ below (hQl D kA HB S res) ([.ref a0, .int a1] : List Value).toArray s 0 0 (hFree HB)) (F0 m 28 ls []) := by
    intro x1 S2 H locs ls h hI hl
    unfold f_X12_orMore_K28 at h
    refine lv_lload_n hx hb dX12_orMore_28 rfl (lv_at hl 0 rfl) ?_
    exact hq_lret hx hb hr hlocks h0 hI h dX12_orMore_29
  have hL5 : ∀ (n5 : Nat) (x3 : Int64) (x4 : Int32) (S5 : HSt) (H : Heap) (locs : List Loc) (ls : Array Slot), (f_X12_orMore_L5 a0 f_X12_orMore_K28 n5) x3 x4 S5 = some res → hqX D kA HB S.2 S5 H locs → lv_has ls 5 [(0, .ref a0), (2, .long x3), (4, .int x4)] → W p l e rm_X12_orMore s m ([.ref a0, .int a1] : List Value).toArray below meth c H locs 0 0 (MQ below (hQl D kA HB S res) ([.ref a0, .int a1] : List Value).toArray s 0 0 (hFree HB)) (F0 m 5 ls []) := by
    intro n5
    induction n5 with
    | zero =>
      intro x3 x4 S5 H locs ls h
      have h : (none : Option (Int64 × HSt)) = some res := h
      cases h
    | succ n5 ih5 =>
      intro x3 x4 S5 H locs ls h hI hl
      have h : f_X12_orMore_B5 a0 f_X12_orMore_K28 (f_X12_orMore_L5 a0 f_X12_orMore_K28 n5) x3 x4 S5 = some res := h
      unfold f_X12_orMore_B5 at h
      refine lv_iload hx hb dX12_orMore_5 (lv_at hl 2 rfl) ?_
      refine lv_bipush (v := 11) hx hb dX12_orMore_7 (by decide) ?_
      refine lv_icmp_ge (tgt := 28) hx hb dX12_orMore_9 (by decide) (fun c6 => ?_) (fun c6 => ?_)
      · have h := hq_t h c6
        exact hK28 x3 S5 _ _ _ h hI (lv_sub hl [1] rfl)
      · have h := hq_f h c6
        refine lv_lload_n hx hb dX12_orMore_12 rfl (lv_at hl 1 rfl) ?_
        refine lv_aload_n hx hb dX12_orMore_13 rfl (lv_at hl 0 rfl) ?_
        obtain ⟨b7, g8, h⟩ := hq_bind h
        obtain ⟨fs_g8, hs_g8, hv_g8⟩ := gR_at g8
        refine hq_get hx hb hts hown hE hI hs_g8 inG12 rfl 13 (by decide) kw_957 hv_g8 dX12_orMore_14 ?_
        refine lv_iload hx hb dX12_orMore_17 (lv_at hl 2 rfl) ?_
        obtain ⟨v10, g9, h⟩ := hq_bind h
        refine hq_lald hx hb hE hI g9 dX12_orMore_19 ?_
        refine lv_ladd hx hb dX12_orMore_20 ?_
        refine lv_lstore_n (lv' := [(2, .long (x3 + v10)), (0, .ref a0), (4, .int x4)]) hx hb dX12_orMore_21 rfl hl (by decide) rfl (fun ls hl => ?_)
        refine lv_iinc (v := (x4 + 1)) (lv' := [(4, .int (x4 + 1)), (2, .long (x3 + v10)), (0, .ref a0)]) hx hb dX12_orMore_22 hl (k := 2) rfl rfl (by decide) rfl (fun ls hl => ?_)
        refine lv_goto (tgt := 5) hx hb dX12_orMore_25 (by decide) ?_
        exact ih5 (x3 + v10) (x4 + 1) S5 _ _ _ h hI (lv_sub hl [2, 1, 0] rfl)
  exact hL5 FU 0 a1 S _ _ _ h hI (lv_sub hl [2, 1, 0] rfl)
-- RodDipsModel.odds(IIIII)J
theorem dX12_odds_0 : decode cX12_odds 0 = .ok (.aload_n 0, 1) := by decide +kernel
theorem dX12_odds_1 : decode cX12_odds 1 = .ok (.iload_n 1, 1) := by decide +kernel
theorem dX12_odds_2 : decode cX12_odds 2 = .ok (.invokevirtual 177, 3) := by decide +kernel
theorem dX12_odds_5 : decode cX12_odds 5 = .ok (.ifCond .eq 50, 3) := by decide +kernel
theorem dX12_odds_8 : decode cX12_odds 8 = .ok (.aload_n 0, 1) := by decide +kernel
theorem dX12_odds_9 : decode cX12_odds 9 = .ok (.iload_n 2, 1) := by decide +kernel
theorem dX12_odds_10 : decode cX12_odds 10 = .ok (.invokevirtual 213, 3) := by decide +kernel
theorem dX12_odds_13 : decode cX12_odds 13 = .ok (.ifCond .eq 42, 3) := by decide +kernel
theorem dX12_odds_16 : decode cX12_odds 16 = .ok (.iload_n 3, 1) := by decide +kernel
theorem dX12_odds_17 : decode cX12_odds 17 = .ok (.iconst 0, 1) := by decide +kernel
theorem dX12_odds_18 : decode cX12_odds 18 = .ok (.bipush 9, 2) := by decide +kernel
theorem dX12_odds_20 : decode cX12_odds 20 = .ok (.invokestatic 39, 3) := by decide +kernel
theorem dX12_odds_23 : decode cX12_odds 23 = .ok (.ifCond .eq 32, 3) := by decide +kernel
theorem dX12_odds_26 : decode cX12_odds 26 = .ok (.iload 4, 2) := by decide +kernel
theorem dX12_odds_28 : decode cX12_odds 28 = .ok (.iconst 0, 1) := by decide +kernel
theorem dX12_odds_29 : decode cX12_odds 29 = .ok (.iconst 1, 1) := by decide +kernel
theorem dX12_odds_30 : decode cX12_odds 30 = .ok (.invokestatic 39, 3) := by decide +kernel
theorem dX12_odds_33 : decode cX12_odds 33 = .ok (.ifCond .eq 22, 3) := by decide +kernel
theorem dX12_odds_36 : decode cX12_odds 36 = .ok (.iload 5, 2) := by decide +kernel
theorem dX12_odds_38 : decode cX12_odds 38 = .ok (.iconst 0, 1) := by decide +kernel
theorem dX12_odds_39 : decode cX12_odds 39 = .ok (.iconst 1, 1) := by decide +kernel
theorem dX12_odds_40 : decode cX12_odds 40 = .ok (.invokestatic 39, 3) := by decide +kernel
theorem dX12_odds_43 : decode cX12_odds 43 = .ok (.ifCond .eq 12, 3) := by decide +kernel
theorem dX12_odds_46 : decode cX12_odds 46 = .ok (.iload_n 2, 1) := by decide +kernel
theorem dX12_odds_47 : decode cX12_odds 47 = .ok (.invokestatic 190, 3) := by decide +kernel
theorem dX12_odds_50 : decode cX12_odds 50 = .ok (.bipush 9, 2) := by decide +kernel
theorem dX12_odds_52 : decode cX12_odds 52 = .ok (.if_icmp .le 7, 3) := by decide +kernel
theorem dX12_odds_55 : decode cX12_odds 55 = .ok (.ldc2_w 200, 3) := by decide +kernel
theorem dX12_odds_58 : decode cX12_odds 58 = .ok (.lreturn, 1) := by decide +kernel
theorem dX12_odds_59 : decode cX12_odds 59 = .ok (.aload_n 0, 1) := by decide +kernel
theorem dX12_odds_60 : decode cX12_odds 60 = .ok (.iload_n 2, 1) := by decide +kernel
theorem dX12_odds_61 : decode cX12_odds 61 = .ok (.aload_n 0, 1) := by decide +kernel
theorem dX12_odds_62 : decode cX12_odds 62 = .ok (.getfield 9, 3) := by decide +kernel
theorem dX12_odds_65 : decode cX12_odds 65 = .ok (.sipush 310, 3) := by decide +kernel
theorem dX12_odds_68 : decode cX12_odds 68 = .ok (.iload_n 1, 1) := by decide +kernel
theorem dX12_odds_69 : decode cX12_odds 69 = .ok (.iadd, 1) := by decide +kernel
theorem dX12_odds_70 : decode cX12_odds 70 = .ok (.iaload, 1) := by decide +kernel
theorem dX12_odds_71 : decode cX12_odds 71 = .ok (.invokevirtual 216, 3) := by decide +kernel
theorem dX12_odds_74 : decode cX12_odds 74 = .ok (.iload 4, 2) := by decide +kernel
theorem dX12_odds_76 : decode cX12_odds 76 = .ok (.ifCond .ne 11, 3) := by decide +kernel
theorem dX12_odds_79 : decode cX12_odds 79 = .ok (.aload_n 0, 1) := by decide +kernel
theorem dX12_odds_80 : decode cX12_odds 80 = .ok (.iload_n 3, 1) := by decide +kernel
theorem dX12_odds_81 : decode cX12_odds 81 = .ok (.invokevirtual 219, 3) := by decide +kernel
theorem dX12_odds_84 : decode cX12_odds 84 = .ok (.goto 9, 3) := by decide +kernel
theorem dX12_odds_87 : decode cX12_odds 87 = .ok (.aload_n 0, 1) := by decide +kernel
theorem dX12_odds_88 : decode cX12_odds 88 = .ok (.getfield 28, 3) := by decide +kernel
theorem dX12_odds_91 : decode cX12_odds 91 = .ok (.iload_n 3, 1) := by decide +kernel
theorem dX12_odds_92 : decode cX12_odds 92 = .ok (.laload, 1) := by decide +kernel
theorem dX12_odds_93 : decode cX12_odds 93 = .ok (.aload_n 0, 1) := by decide +kernel
theorem dX12_odds_94 : decode cX12_odds 94 = .ok (.getfield 209, 3) := by decide +kernel
theorem dX12_odds_97 : decode cX12_odds 97 = .ok (.iload 5, 2) := by decide +kernel
theorem dX12_odds_99 : decode cX12_odds 99 = .ok (.invokestatic 205, 3) := by decide +kernel
theorem dX12_odds_102 : decode cX12_odds 102 = .ok (.lreturn, 1) := by decide +kernel
def f_X12_odds (S : HSt) (a0 : Nat) (a1 : Int32) (a2 : Int32) (a3 : Int32) (a4 : Int32) (a5 : Int32) : Option (Int64 × HSt) := if gC S a0 = some 12 then (bd2 (f_X12_isPlan S a0 a1) fun v4 S3 => if v4 = 0 then (some ((-9223372036854775808), S3)) else (if gC S3 a0 = some 12 then (bd2 (f_X12_areTries S3 a0 a2) fun v9 S8 => if v9 = 0 then (some ((-9223372036854775808), S8)) else (bd2 (f_X12_in S8 a3 0 9) fun v13 S12 => if v13 = 0 then (some ((-9223372036854775808), S12)) else (bd2 (f_X12_in S12 a4 0 1) fun v17 S16 => if v17 = 0 then (some ((-9223372036854775808), S16)) else (bd2 (f_X12_in S16 a5 0 1) fun v21 S20 => if v21 = 0 then (some ((-9223372036854775808), S20)) else (bd2 (f_X12_count1 S20 a2) fun v25 S24 => if v25 ≤ 9 then ((gR S24 a0 12 1).bind fun b27 => (aI S24 b27 0 (310 + a1)).bind fun v30 => if gC S24 a0 = some 12 then ((f_X12_counts S24 a0 a2 v30).bind fun S33 => if a4 = 0 then (if gC S33 a0 = some 12 then (bd2 (f_X12_orMore S33 a0 a3) fun v47 S46 => (gL S46 a0 12 14).bind fun v48 => bd2 (f_X12_lowest S46 v47 v48 a5) fun v52 S51 => some (v52, S51)) else none) else ((gR S33 a0 12 13).bind fun b35 => (aL S33 b35 a3).bind fun v38 => (gL S33 a0 12 14).bind fun v39 => bd2 (f_X12_lowest S33 v38 v39 a5) fun v43 S42 => some (v43, S42))) else none) else (some ((-9223372036854775808), S24))))))) else none)) else none
abbrev rm_X12_odds : Room := { frames := 3, cells := 0, slots := 0, locals := 69 }
abbrev w_X12_odds : List Cond := Cond.code yX12_odds cX12_odds 6 (Option.some FieldType.long) :: lwG
theorem yd_X12_odds : yX12_odds.cls ≠ "java/lang/invoke/MethodHandle" ∧ yX12_odds.cls ≠ "java/lang/invoke/VarHandle" ∧ (parseMethodDescriptor yX12_odds.desc).map (fun d => d.parameters.length) = some 5 := by decide +kernel
theorem ye_X12_odds : yX12_odds.cls = RX12 ∧ yX12_odds.cls ≠ "java/lang/invoke/MethodHandle" ∧ yX12_odds.cls ≠ "java/lang/invoke/VarHandle" ∧ (parseMethodDescriptor yX12_odds.desc).map (fun d => d.parameters.length) = some 5 := by decide +kernel
set_option maxHeartbeats 4000000 in
set_option maxRecDepth 100000 in
theorem c_X12_odds (l : Launch) (D : va_G) (kA ρ : Nat → Nat) (HB : Heap) (S : HSt) (a0 : Nat) (a1 : Int32) (a2 : Int32) (a3 : Int32) (a4 : Int32) (a5 : Int32) (res : Int64 × HSt) (h : f_X12_odds S a0 a1 a2 a3 a4 a5 = some res) : Met l yX12_odds w_X12_odds rm_X12_odds (hPc D kA ρ HB S [.ref a0, .int a1, .int a2, .int a3, .int a4, .int a5]) (hQl D kA HB S res) 0 0 (hFree HB) := by
  refine Met.ofW (cc := cX12_odds) (maxL := 6) (ret := (Option.some FieldType.long)) (by decide) rfl ?_
  intro p e s m args below meth c s₁ B hml hv
  obtain ⟨rfl, hE, h0⟩ := hv
  have hx := B.exec
  have hb := B.bytes
  have hr := B.returns
  have hts0 := atoms_spec (ws := w_X12_odds) B.pre
  have hts : ∀ w ∈ lwG, w.before _ s = true := fun w hw => hts0 w (List.mem_cons_of_mem _ hw)
  have hown : s.vm.findClass RX12 = some m.cls := findClass_of_methodNamed B.named
  have hlocks := B.notSynchronized
  have hI : hqX D kA HB S.2 S s.heap [] := ⟨h0, Nat.le_refl _, fun _ q => absurd q List.not_mem_nil⟩
  have hl := lv_entry ([.ref a0, .int a1, .int a2, .int a3, .int a4, .int a5]) (n := 6) (Nat.le_of_ble_eq_true rfl)
  rw [lg_entry_eq]
  generalize (lg_sl ([.ref a0, .int a1, .int a2, .int a3, .int a4, .int a5]) ++ List.replicate (6 - (lg_sl ([.ref a0, .int a1, .int a2, .int a3, .int a4, .int a5])).length) Slot.unset).toArray = ls at hl ⊢
  have hl : lv_has ls 6 [(0, .ref a0), (1, .int a1), (2, .int a2), (3, .int a3), (4, .int a4), (5, .int a5)] := hl
  unfold f_X12_odds at h
  refine lv_aload_n hx hb dX12_odds_0 rfl (lv_at hl 0 rfl) ?_
  refine lv_iload_n hx hb dX12_odds_1 rfl (lv_at hl 1 rfl) ?_
  obtain ⟨g2, h⟩ := hq_g h
  obtain ⟨v4, S3, g1, h⟩ := hq_bd2 h
  refine hq_calli hI (va_runV (As := [.int a1]) (rest := []) ⟨hx, hb, hml, hown, hts⟩ (c_X12_isPlan l D kA ρ HB S a0 a1 _ g1) (cwV 1 hts (gdIn (List.forall_mem_cons.mpr ⟨kw_1133, (List.forall_mem_cons.mpr ⟨kw_1135, (List.forall_mem_cons.mpr ⟨ks_48, (List.forall_mem_cons.mpr ⟨kw_6, (fun _ h => absurd h List.not_mem_nil)⟩)⟩)⟩)⟩) kw_1136) rfl rfl rfl ye_X12_isPlan ⟨Nat.le_of_ble_eq_true rfl, Nat.le_of_ble_eq_true rfl⟩) (hq_preC hE hI g2 rfl _) rfl rfl hl.1 rfl (lv_room (Nat.le_of_ble_eq_true rfl)) dX12_odds_2 ⟨Nat.le_of_ble_eq_true rfl, Nat.le_of_ble_eq_true rfl⟩) (fun H locs hI => ?_)
  refine lv_if_eq (tgt := 55) hx hb dX12_odds_5 (by decide) (fun c5 => ?_) (fun c5 => ?_)
  · have h := hq_t h c5
    refine lv_ldc2 (v := (-9223372036854775808)) hx hb hown (hts _ kw_1180) dX12_odds_55 ?_
    exact hq_lret hx hb hr hlocks h0 hI h dX12_odds_58
  · have h := hq_f h c5
    refine lv_aload_n hx hb dX12_odds_8 rfl (lv_at hl 0 rfl) ?_
    refine lv_iload_n hx hb dX12_odds_9 rfl (lv_at hl 2 rfl) ?_
    obtain ⟨g7, h⟩ := hq_g h
    obtain ⟨v9, S8, g6, h⟩ := hq_bd2 h
    refine hq_calli hI (va_runV (As := [.int a2]) (rest := []) ⟨hx, hb, hml, hown, hts⟩ (c_X12_areTries l D kA ρ HB S3 a0 a2 _ g6) (cwV 1 hts (gdIn (List.forall_mem_cons.mpr ⟨kw_1195, (List.forall_mem_cons.mpr ⟨kw_1197, (List.forall_mem_cons.mpr ⟨ks_58, (List.forall_mem_cons.mpr ⟨kw_6, (fun _ h => absurd h List.not_mem_nil)⟩)⟩)⟩)⟩) kw_1198) rfl rfl rfl ye_X12_areTries ⟨Nat.le_of_ble_eq_true rfl, Nat.le_of_ble_eq_true rfl⟩) (hq_preC hE hI g7 rfl _) rfl rfl hl.1 rfl (lv_room (Nat.le_of_ble_eq_true rfl)) dX12_odds_10 ⟨Nat.le_of_ble_eq_true rfl, Nat.le_of_ble_eq_true rfl⟩) (fun H locs hI => ?_)
    refine lv_if_eq (tgt := 55) hx hb dX12_odds_13 (by decide) (fun c10 => ?_) (fun c10 => ?_)
    · have h := hq_t h c10
      refine lv_ldc2 (v := (-9223372036854775808)) hx hb hown (hts _ kw_1180) dX12_odds_55 ?_
      exact hq_lret hx hb hr hlocks h0 hI h dX12_odds_58
    · have h := hq_f h c10
      refine lv_iload_n hx hb dX12_odds_16 rfl (lv_at hl 3 rfl) ?_
      refine lv_iconst (v := 0) hx hb dX12_odds_17 (by decide) ?_
      refine lv_bipush (v := 9) hx hb dX12_odds_18 (by decide) ?_
      obtain ⟨v13, S12, g11, h⟩ := hq_bd2 h
      refine hq_calli hI (va_runS (As := [.int a3, .int 0, .int 9]) (rest := []) ⟨hx, hb, hml, hown, hts⟩ (c_X12_in l D kA ρ HB S8 a3 0 9 _ g11) (va_cwS 3 hts (gdIn (List.forall_mem_cons.mpr ⟨kw_1010, (List.forall_mem_cons.mpr ⟨kw_1011, (List.forall_mem_cons.mpr ⟨kw_6, (fun _ h => absurd h List.not_mem_nil)⟩)⟩)⟩) kw_1012) rfl rfl rfl yd_X12_in ⟨Nat.le_of_ble_eq_true rfl, Nat.le_of_ble_eq_true rfl⟩) (hq_preS hE hI _) rfl rfl hl.1 rfl (lv_room (Nat.le_of_ble_eq_true rfl)) dX12_odds_20 ⟨Nat.le_of_ble_eq_true rfl, Nat.le_of_ble_eq_true rfl⟩) (fun H locs hI => ?_)
      refine lv_if_eq (tgt := 55) hx hb dX12_odds_23 (by decide) (fun c14 => ?_) (fun c14 => ?_)
      · have h := hq_t h c14
        refine lv_ldc2 (v := (-9223372036854775808)) hx hb hown (hts _ kw_1180) dX12_odds_55 ?_
        exact hq_lret hx hb hr hlocks h0 hI h dX12_odds_58
      · have h := hq_f h c14
        refine lv_iload hx hb dX12_odds_26 (lv_at hl 4 rfl) ?_
        refine lv_iconst (v := 0) hx hb dX12_odds_28 (by decide) ?_
        refine lv_iconst (v := 1) hx hb dX12_odds_29 (by decide) ?_
        obtain ⟨v17, S16, g15, h⟩ := hq_bd2 h
        refine hq_calli hI (va_runS (As := [.int a4, .int 0, .int 1]) (rest := []) ⟨hx, hb, hml, hown, hts⟩ (c_X12_in l D kA ρ HB S12 a4 0 1 _ g15) (va_cwS 3 hts (gdIn (List.forall_mem_cons.mpr ⟨kw_1010, (List.forall_mem_cons.mpr ⟨kw_1011, (List.forall_mem_cons.mpr ⟨kw_6, (fun _ h => absurd h List.not_mem_nil)⟩)⟩)⟩) kw_1012) rfl rfl rfl yd_X12_in ⟨Nat.le_of_ble_eq_true rfl, Nat.le_of_ble_eq_true rfl⟩) (hq_preS hE hI _) rfl rfl hl.1 rfl (lv_room (Nat.le_of_ble_eq_true rfl)) dX12_odds_30 ⟨Nat.le_of_ble_eq_true rfl, Nat.le_of_ble_eq_true rfl⟩) (fun H locs hI => ?_)
        refine lv_if_eq (tgt := 55) hx hb dX12_odds_33 (by decide) (fun c18 => ?_) (fun c18 => ?_)
        · have h := hq_t h c18
          refine lv_ldc2 (v := (-9223372036854775808)) hx hb hown (hts _ kw_1180) dX12_odds_55 ?_
          exact hq_lret hx hb hr hlocks h0 hI h dX12_odds_58
        · have h := hq_f h c18
          refine lv_iload hx hb dX12_odds_36 (lv_at hl 5 rfl) ?_
          refine lv_iconst (v := 0) hx hb dX12_odds_38 (by decide) ?_
          refine lv_iconst (v := 1) hx hb dX12_odds_39 (by decide) ?_
          obtain ⟨v21, S20, g19, h⟩ := hq_bd2 h
          refine hq_calli hI (va_runS (As := [.int a5, .int 0, .int 1]) (rest := []) ⟨hx, hb, hml, hown, hts⟩ (c_X12_in l D kA ρ HB S16 a5 0 1 _ g19) (va_cwS 3 hts (gdIn (List.forall_mem_cons.mpr ⟨kw_1010, (List.forall_mem_cons.mpr ⟨kw_1011, (List.forall_mem_cons.mpr ⟨kw_6, (fun _ h => absurd h List.not_mem_nil)⟩)⟩)⟩) kw_1012) rfl rfl rfl yd_X12_in ⟨Nat.le_of_ble_eq_true rfl, Nat.le_of_ble_eq_true rfl⟩) (hq_preS hE hI _) rfl rfl hl.1 rfl (lv_room (Nat.le_of_ble_eq_true rfl)) dX12_odds_40 ⟨Nat.le_of_ble_eq_true rfl, Nat.le_of_ble_eq_true rfl⟩) (fun H locs hI => ?_)
          refine lv_if_eq (tgt := 55) hx hb dX12_odds_43 (by decide) (fun c22 => ?_) (fun c22 => ?_)
          · have h := hq_t h c22
            refine lv_ldc2 (v := (-9223372036854775808)) hx hb hown (hts _ kw_1180) dX12_odds_55 ?_
            exact hq_lret hx hb hr hlocks h0 hI h dX12_odds_58
          · have h := hq_f h c22
            refine lv_iload_n hx hb dX12_odds_46 rfl (lv_at hl 2 rfl) ?_
            obtain ⟨v25, S24, g23, h⟩ := hq_bd2 h
            refine hq_calli hI (va_runS (As := [.int a2]) (rest := []) ⟨hx, hb, hml, hown, hts⟩ (c_X12_count1 l D kA ρ HB S20 a2 _ g23) (va_cwS 1 hts (gdIn (List.forall_mem_cons.mpr ⟨kw_1173, (List.forall_mem_cons.mpr ⟨kw_1174, (List.forall_mem_cons.mpr ⟨kw_6, (fun _ h => absurd h List.not_mem_nil)⟩)⟩)⟩) kw_1175) rfl rfl rfl yd_X12_count1 ⟨Nat.le_of_ble_eq_true rfl, Nat.le_of_ble_eq_true rfl⟩) (hq_preS hE hI _) rfl rfl hl.1 rfl (lv_room (Nat.le_of_ble_eq_true rfl)) dX12_odds_47 ⟨Nat.le_of_ble_eq_true rfl, Nat.le_of_ble_eq_true rfl⟩) (fun H locs hI => ?_)
            refine lv_bipush (v := 9) hx hb dX12_odds_50 (by decide) ?_
            refine lv_icmp_le (tgt := 59) hx hb dX12_odds_52 (by decide) (fun c26 => ?_) (fun c26 => ?_)
            · have h := hq_t h c26
              refine lv_aload_n hx hb dX12_odds_59 rfl (lv_at hl 0 rfl) ?_
              refine lv_iload_n hx hb dX12_odds_60 rfl (lv_at hl 2 rfl) ?_
              refine lv_aload_n hx hb dX12_odds_61 rfl (lv_at hl 0 rfl) ?_
              obtain ⟨b27, g28, h⟩ := hq_bind h
              obtain ⟨fs_g28, hs_g28, hv_g28⟩ := gR_at g28
              refine hq_get hx hb hts hown hE hI hs_g28 inG12 rfl 1 (by decide) kw_945 hv_g28 dX12_odds_62 ?_
              refine lv_sipush (v := 310) hx hb dX12_odds_65 (by decide) ?_
              refine lv_iload_n hx hb dX12_odds_68 rfl (lv_at hl 1 rfl) ?_
              refine lv_iadd hx hb dX12_odds_69 ?_
              obtain ⟨v30, g29, h⟩ := hq_bind h
              refine hq_iald hx hb hE hI g29 dX12_odds_70 ?_
              obtain ⟨g32, h⟩ := hq_g h
              obtain ⟨S33, g31, h⟩ := hq_bind h
              refine hq_callv hI (va_runV (As := [.int a2, .int v30]) (rest := []) ⟨hx, hb, hml, hown, hts⟩ (c_X12_counts l D kA ρ HB S24 a0 a2 v30 _ g31) (cwV 2 hts (gdIn (List.forall_mem_cons.mpr ⟨kw_1199, (List.forall_mem_cons.mpr ⟨kw_1201, (List.forall_mem_cons.mpr ⟨ks_59, (List.forall_mem_cons.mpr ⟨kw_6, (fun _ h => absurd h List.not_mem_nil)⟩)⟩)⟩)⟩) kw_1202) rfl rfl rfl ye_X12_counts ⟨Nat.le_of_ble_eq_true rfl, Nat.le_of_ble_eq_true rfl⟩) (hq_preC hE hI g32 rfl _) rfl rfl hl.1 rfl (lv_room (Nat.le_of_ble_eq_true rfl)) dX12_odds_71 ⟨Nat.le_of_ble_eq_true rfl, Nat.le_of_ble_eq_true rfl⟩) (fun H locs hI => ?_)
              refine lv_iload hx hb dX12_odds_74 (lv_at hl 4 rfl) ?_
              refine lv_if_ne (tgt := 87) hx hb dX12_odds_76 (by decide) (fun c34 => ?_) (fun c34 => ?_)
              · have h := hq_f h c34
                refine lv_aload_n hx hb dX12_odds_87 rfl (lv_at hl 0 rfl) ?_
                obtain ⟨b35, g36, h⟩ := hq_bind h
                obtain ⟨fs_g36, hs_g36, hv_g36⟩ := gR_at g36
                refine hq_get hx hb hts hown hE hI hs_g36 inG12 rfl 13 (by decide) kw_957 hv_g36 dX12_odds_88 ?_
                refine lv_iload_n hx hb dX12_odds_91 rfl (lv_at hl 3 rfl) ?_
                obtain ⟨v38, g37, h⟩ := hq_bind h
                refine hq_lald hx hb hE hI g37 dX12_odds_92 ?_
                refine lv_aload_n hx hb dX12_odds_93 rfl (lv_at hl 0 rfl) ?_
                obtain ⟨v39, g40, h⟩ := hq_bind h
                obtain ⟨fs_g40, hs_g40, hv_g40⟩ := gL_at g40
                refine hq_get hx hb hts hown hE hI hs_g40 inG12 rfl 14 (by decide) kw_958 hv_g40 dX12_odds_94 ?_
                refine lv_iload hx hb dX12_odds_97 (lv_at hl 5 rfl) ?_
                obtain ⟨v43, S42, g41, h⟩ := hq_bd2 h
                refine hq_calll hI (va_runS (As := [.long v38, .long v39, .int a5]) (rest := []) ⟨hx, hb, hml, hown, hts⟩ (c_X12_lowest l D kA ρ HB S33 v38 v39 a5 _ g41) (va_cwS 3 hts (gdIn (List.forall_mem_cons.mpr ⟨kw_1185, (List.forall_mem_cons.mpr ⟨kw_1186, (List.forall_mem_cons.mpr ⟨kw_6, (fun _ h => absurd h List.not_mem_nil)⟩)⟩)⟩) kw_1187) rfl rfl rfl yd_X12_lowest ⟨Nat.le_of_ble_eq_true rfl, Nat.le_of_ble_eq_true rfl⟩) (hq_preS hE hI _) rfl rfl hl.1 rfl (lv_room (Nat.le_of_ble_eq_true rfl)) dX12_odds_99 ⟨Nat.le_of_ble_eq_true rfl, Nat.le_of_ble_eq_true rfl⟩) (fun H locs hI => ?_)
                exact hq_lret hx hb hr hlocks h0 hI h dX12_odds_102
              · have h := hq_t h c34
                refine lv_aload_n hx hb dX12_odds_79 rfl (lv_at hl 0 rfl) ?_
                refine lv_iload_n hx hb dX12_odds_80 rfl (lv_at hl 3 rfl) ?_
                obtain ⟨g45, h⟩ := hq_g h
                obtain ⟨v47, S46, g44, h⟩ := hq_bd2 h
                refine hq_calll hI (va_runV (As := [.int a3]) (rest := []) ⟨hx, hb, hml, hown, hts⟩ (c_X12_orMore l D kA ρ HB S33 a0 a3 _ g44) (cwV 1 hts (gdIn (List.forall_mem_cons.mpr ⟨kw_1203, (List.forall_mem_cons.mpr ⟨kw_1205, (List.forall_mem_cons.mpr ⟨ks_60, (List.forall_mem_cons.mpr ⟨kw_6, (fun _ h => absurd h List.not_mem_nil)⟩)⟩)⟩)⟩) kw_1206) rfl rfl rfl ye_X12_orMore ⟨Nat.le_of_ble_eq_true rfl, Nat.le_of_ble_eq_true rfl⟩) (hq_preC hE hI g45 rfl _) rfl rfl hl.1 rfl (lv_room (Nat.le_of_ble_eq_true rfl)) dX12_odds_81 ⟨Nat.le_of_ble_eq_true rfl, Nat.le_of_ble_eq_true rfl⟩) (fun H locs hI => ?_)
                refine lv_goto (tgt := 93) hx hb dX12_odds_84 (by decide) ?_
                refine lv_aload_n hx hb dX12_odds_93 rfl (lv_at hl 0 rfl) ?_
                obtain ⟨v48, g49, h⟩ := hq_bind h
                obtain ⟨fs_g49, hs_g49, hv_g49⟩ := gL_at g49
                refine hq_get hx hb hts hown hE hI hs_g49 inG12 rfl 14 (by decide) kw_958 hv_g49 dX12_odds_94 ?_
                refine lv_iload hx hb dX12_odds_97 (lv_at hl 5 rfl) ?_
                obtain ⟨v52, S51, g50, h⟩ := hq_bd2 h
                refine hq_calll hI (va_runS (As := [.long v47, .long v48, .int a5]) (rest := []) ⟨hx, hb, hml, hown, hts⟩ (c_X12_lowest l D kA ρ HB S46 v47 v48 a5 _ g50) (va_cwS 3 hts (gdIn (List.forall_mem_cons.mpr ⟨kw_1185, (List.forall_mem_cons.mpr ⟨kw_1186, (List.forall_mem_cons.mpr ⟨kw_6, (fun _ h => absurd h List.not_mem_nil)⟩)⟩)⟩) kw_1187) rfl rfl rfl yd_X12_lowest ⟨Nat.le_of_ble_eq_true rfl, Nat.le_of_ble_eq_true rfl⟩) (hq_preS hE hI _) rfl rfl hl.1 rfl (lv_room (Nat.le_of_ble_eq_true rfl)) dX12_odds_99 ⟨Nat.le_of_ble_eq_true rfl, Nat.le_of_ble_eq_true rfl⟩) (fun H locs hI => ?_)
                exact hq_lret hx hb hr hlocks h0 hI h dX12_odds_102
            · have h := hq_f h c26
              refine lv_ldc2 (v := (-9223372036854775808)) hx hb hown (hts _ kw_1180) dX12_odds_55 ?_
              exact hq_lret hx hb hr hlocks h0 hI h dX12_odds_58
-- RodDipsModel.bestOfMen(III)J
theorem dX12_bestOfMen_0 : decode cX12_bestOfMen 0 = .ok (.aload_n 0, 1) := by decide +kernel
theorem dX12_bestOfMen_1 : decode cX12_bestOfMen 1 = .ok (.iload_n 1, 1) := by decide +kernel
theorem dX12_bestOfMen_2 : decode cX12_bestOfMen 2 = .ok (.invokevirtual 180, 3) := by decide +kernel
theorem dX12_bestOfMen_5 : decode cX12_bestOfMen 5 = .ok (.istore 4, 2) := by decide +kernel
theorem dX12_bestOfMen_7 : decode cX12_bestOfMen 7 = .ok (.iload 4, 2) := by decide +kernel
theorem dX12_bestOfMen_9 : decode cX12_bestOfMen 9 = .ok (.invokestatic 190, 3) := by decide +kernel
theorem dX12_bestOfMen_12 : decode cX12_bestOfMen 12 = .ok (.bipush 9, 2) := by decide +kernel
theorem dX12_bestOfMen_14 : decode cX12_bestOfMen 14 = .ok (.if_icmp .le 7, 3) := by decide +kernel
theorem dX12_bestOfMen_17 : decode cX12_bestOfMen 17 = .ok (.ldc2_w 200, 3) := by decide +kernel
theorem dX12_bestOfMen_20 : decode cX12_bestOfMen 20 = .ok (.lreturn, 1) := by decide +kernel
theorem dX12_bestOfMen_21 : decode cX12_bestOfMen 21 = .ok (.lconst 1, 1) := by decide +kernel
theorem dX12_bestOfMen_22 : decode cX12_bestOfMen 22 = .ok (.lstore 5, 2) := by decide +kernel
theorem dX12_bestOfMen_24 : decode cX12_bestOfMen 24 = .ok (.lconst 1, 1) := by decide +kernel
theorem dX12_bestOfMen_25 : decode cX12_bestOfMen 25 = .ok (.lstore 7, 2) := by decide +kernel
theorem dX12_bestOfMen_27 : decode cX12_bestOfMen 27 = .ok (.iconst 0, 1) := by decide +kernel
theorem dX12_bestOfMen_28 : decode cX12_bestOfMen 28 = .ok (.istore 9, 2) := by decide +kernel
theorem dX12_bestOfMen_30 : decode cX12_bestOfMen 30 = .ok (.iload 9, 2) := by decide +kernel
theorem dX12_bestOfMen_32 : decode cX12_bestOfMen 32 = .ok (.bipush 6, 2) := by decide +kernel
theorem dX12_bestOfMen_34 : decode cX12_bestOfMen 34 = .ok (.if_icmp .ge 55, 3) := by decide +kernel
theorem dX12_bestOfMen_37 : decode cX12_bestOfMen 37 = .ok (.aload_n 0, 1) := by decide +kernel
theorem dX12_bestOfMen_38 : decode cX12_bestOfMen 38 = .ok (.aload_n 0, 1) := by decide +kernel
theorem dX12_bestOfMen_39 : decode cX12_bestOfMen 39 = .ok (.iload 4, 2) := by decide +kernel
theorem dX12_bestOfMen_41 : decode cX12_bestOfMen 41 = .ok (.iload 9, 2) := by decide +kernel
theorem dX12_bestOfMen_43 : decode cX12_bestOfMen 43 = .ok (.invokevirtual 187, 3) := by decide +kernel
theorem dX12_bestOfMen_46 : decode cX12_bestOfMen 46 = .ok (.aload_n 0, 1) := by decide +kernel
theorem dX12_bestOfMen_47 : decode cX12_bestOfMen 47 = .ok (.getfield 9, 3) := by decide +kernel
theorem dX12_bestOfMen_50 : decode cX12_bestOfMen 50 = .ok (.sipush 310, 3) := by decide +kernel
theorem dX12_bestOfMen_53 : decode cX12_bestOfMen 53 = .ok (.iload_n 1, 1) := by decide +kernel
theorem dX12_bestOfMen_54 : decode cX12_bestOfMen 54 = .ok (.iadd, 1) := by decide +kernel
theorem dX12_bestOfMen_55 : decode cX12_bestOfMen 55 = .ok (.iaload, 1) := by decide +kernel
theorem dX12_bestOfMen_56 : decode cX12_bestOfMen 56 = .ok (.invokevirtual 216, 3) := by decide +kernel
theorem dX12_bestOfMen_59 : decode cX12_bestOfMen 59 = .ok (.lload 5, 2) := by decide +kernel
theorem dX12_bestOfMen_61 : decode cX12_bestOfMen 61 = .ok (.aload_n 0, 1) := by decide +kernel
theorem dX12_bestOfMen_62 : decode cX12_bestOfMen 62 = .ok (.getfield 209, 3) := by decide +kernel
theorem dX12_bestOfMen_65 : decode cX12_bestOfMen 65 = .ok (.aload_n 0, 1) := by decide +kernel
theorem dX12_bestOfMen_66 : decode cX12_bestOfMen 66 = .ok (.iload_n 2, 1) := by decide +kernel
theorem dX12_bestOfMen_67 : decode cX12_bestOfMen 67 = .ok (.invokevirtual 219, 3) := by decide +kernel
theorem dX12_bestOfMen_70 : decode cX12_bestOfMen 70 = .ok (.lsub, 1) := by decide +kernel
theorem dX12_bestOfMen_71 : decode cX12_bestOfMen 71 = .ok (.lmul, 1) := by decide +kernel
theorem dX12_bestOfMen_72 : decode cX12_bestOfMen 72 = .ok (.lstore 5, 2) := by decide +kernel
theorem dX12_bestOfMen_74 : decode cX12_bestOfMen 74 = .ok (.lload 7, 2) := by decide +kernel
theorem dX12_bestOfMen_76 : decode cX12_bestOfMen 76 = .ok (.aload_n 0, 1) := by decide +kernel
theorem dX12_bestOfMen_77 : decode cX12_bestOfMen 77 = .ok (.getfield 209, 3) := by decide +kernel
theorem dX12_bestOfMen_80 : decode cX12_bestOfMen 80 = .ok (.lmul, 1) := by decide +kernel
theorem dX12_bestOfMen_81 : decode cX12_bestOfMen 81 = .ok (.lstore 7, 2) := by decide +kernel
theorem dX12_bestOfMen_83 : decode cX12_bestOfMen 83 = .ok (.iinc 9 1, 3) := by decide +kernel
theorem dX12_bestOfMen_86 : decode cX12_bestOfMen 86 = .ok (.goto (-56), 3) := by decide +kernel
theorem dX12_bestOfMen_89 : decode cX12_bestOfMen 89 = .ok (.lload 7, 2) := by decide +kernel
theorem dX12_bestOfMen_91 : decode cX12_bestOfMen 91 = .ok (.lload 5, 2) := by decide +kernel
theorem dX12_bestOfMen_93 : decode cX12_bestOfMen 93 = .ok (.lsub, 1) := by decide +kernel
theorem dX12_bestOfMen_94 : decode cX12_bestOfMen 94 = .ok (.lload 7, 2) := by decide +kernel
theorem dX12_bestOfMen_96 : decode cX12_bestOfMen 96 = .ok (.iload_n 3, 1) := by decide +kernel
theorem dX12_bestOfMen_97 : decode cX12_bestOfMen 97 = .ok (.invokestatic 205, 3) := by decide +kernel
theorem dX12_bestOfMen_100 : decode cX12_bestOfMen 100 = .ok (.lreturn, 1) := by decide +kernel
def f_X12_bestOfMen_K89 (a3 : Int32) (x9 : Int64) (x10 : Int64) (S11 : HSt) : Option (Int64 × HSt) := bd2 (f_X12_lowest S11 (x10 - x9) x10 a3) fun v14 S13 => some (v14, S13)
def f_X12_bestOfMen_B30 (a0 : Nat) (a1 : Int32) (a2 : Int32) (v4 : Int32) (kx89 : (Int64 → Int64 → HSt → Option (Int64 × HSt))) (kb30 : (Int64 → Int64 → Int32 → HSt → Option (Int64 × HSt))) (x15 : Int64) (x16 : Int64) (x17 : Int32) (S18 : HSt) : Option (Int64 × HSt) := if 6 ≤ x17 then (kx89 x15 x16 S18) else (if gC S18 a0 = some 12 then (bd2 (f_X12_ofMan S18 a0 v4 x17) fun v23 S22 => (gR S22 a0 12 1).bind fun b24 => (aI S22 b24 0 (310 + a1)).bind fun v27 => if gC S22 a0 = some 12 then ((f_X12_counts S22 a0 v23 v27).bind fun S30 => (gL S30 a0 12 14).bind fun v31 => if gC S30 a0 = some 12 then (bd2 (f_X12_orMore S30 a0 a2) fun v36 S35 => (gL S35 a0 12 14).bind fun v37 => kb30 (x15 * (v31 - v36)) (x16 * v37) (x17 + 1) S35) else none) else none) else none)
def f_X12_bestOfMen_L30 (a0 : Nat) (a1 : Int32) (a2 : Int32) (v4 : Int32) (kx89 : (Int64 → Int64 → HSt → Option (Int64 × HSt))) : Nat → Int64 → Int64 → Int32 → HSt → Option (Int64 × HSt)
  | 0, _, _, _, _ => none
  | n + 1, x15, x16, x17, S => f_X12_bestOfMen_B30 a0 a1 a2 v4 kx89 (f_X12_bestOfMen_L30 a0 a1 a2 v4 kx89 n) x15 x16 x17 S
def f_X12_bestOfMen (S : HSt) (a0 : Nat) (a1 : Int32) (a2 : Int32) (a3 : Int32) : Option (Int64 × HSt) := if gC S a0 = some 12 then (bd2 (f_X12_counted S a0 a1) fun v4 S3 => bd2 (f_X12_count1 S3 v4) fun v7 S6 => if v7 ≤ 9 then ((f_X12_bestOfMen_L30 a0 a1 a2 v4 (f_X12_bestOfMen_K89 a3) FU) 1 1 0 S6) else (some ((-9223372036854775808), S6))) else none
abbrev rm_X12_bestOfMen : Room := { frames := 6, cells := 0, slots := 0, locals := 137 }
abbrev w_X12_bestOfMen : List Cond := Cond.code yX12_bestOfMen cX12_bestOfMen 10 (Option.some FieldType.long) :: lwG
theorem yd_X12_bestOfMen : yX12_bestOfMen.cls ≠ "java/lang/invoke/MethodHandle" ∧ yX12_bestOfMen.cls ≠ "java/lang/invoke/VarHandle" ∧ (parseMethodDescriptor yX12_bestOfMen.desc).map (fun d => d.parameters.length) = some 3 := by decide +kernel
theorem ye_X12_bestOfMen : yX12_bestOfMen.cls = RX12 ∧ yX12_bestOfMen.cls ≠ "java/lang/invoke/MethodHandle" ∧ yX12_bestOfMen.cls ≠ "java/lang/invoke/VarHandle" ∧ (parseMethodDescriptor yX12_bestOfMen.desc).map (fun d => d.parameters.length) = some 3 := by decide +kernel
set_option maxHeartbeats 4000000 in
set_option maxRecDepth 100000 in
theorem c_X12_bestOfMen (l : Launch) (D : va_G) (kA ρ : Nat → Nat) (HB : Heap) (S : HSt) (a0 : Nat) (a1 : Int32) (a2 : Int32) (a3 : Int32) (res : Int64 × HSt) (h : f_X12_bestOfMen S a0 a1 a2 a3 = some res) : Met l yX12_bestOfMen w_X12_bestOfMen rm_X12_bestOfMen (hPc D kA ρ HB S [.ref a0, .int a1, .int a2, .int a3]) (hQl D kA HB S res) 0 0 (hFree HB) := by
  refine Met.ofW (cc := cX12_bestOfMen) (maxL := 10) (ret := (Option.some FieldType.long)) (by decide) rfl ?_
  intro p e s m args below meth c s₁ B hml hv
  obtain ⟨rfl, hE, h0⟩ := hv
  have hx := B.exec
  have hb := B.bytes
  have hr := B.returns
  have hts0 := atoms_spec (ws := w_X12_bestOfMen) B.pre
  have hts : ∀ w ∈ lwG, w.before _ s = true := fun w hw => hts0 w (List.mem_cons_of_mem _ hw)
  have hown : s.vm.findClass RX12 = some m.cls := findClass_of_methodNamed B.named
  have hlocks := B.notSynchronized
  have hI : hqX D kA HB S.2 S s.heap [] := ⟨h0, Nat.le_refl _, fun _ q => absurd q List.not_mem_nil⟩
  have hl := lv_entry ([.ref a0, .int a1, .int a2, .int a3]) (n := 10) (Nat.le_of_ble_eq_true rfl)
  rw [lg_entry_eq]
  generalize (lg_sl ([.ref a0, .int a1, .int a2, .int a3]) ++ List.replicate (10 - (lg_sl ([.ref a0, .int a1, .int a2, .int a3])).length) Slot.unset).toArray = ls at hl ⊢
  have hl : lv_has ls 10 [(0, .ref a0), (1, .int a1), (2, .int a2), (3, .int a3)] := hl
  unfold f_X12_bestOfMen at h
  refine lv_aload_n hx hb dX12_bestOfMen_0 rfl (lv_at hl 0 rfl) ?_
  refine lv_iload_n hx hb dX12_bestOfMen_1 rfl (lv_at hl 1 rfl) ?_
  obtain ⟨g2, h⟩ := hq_g h
  obtain ⟨v4, S3, g1, h⟩ := hq_bd2 h
  refine hq_calli hI (va_runV (As := [.int a1]) (rest := []) ⟨hx, hb, hml, hown, hts⟩ (c_X12_counted l D kA ρ HB S a0 a1 _ g1) (cwV 1 hts (gdIn (List.forall_mem_cons.mpr ⟨kw_1137, (List.forall_mem_cons.mpr ⟨kw_1139, (List.forall_mem_cons.mpr ⟨ks_49, (List.forall_mem_cons.mpr ⟨kw_6, (fun _ h => absurd h List.not_mem_nil)⟩)⟩)⟩)⟩) kw_1140) rfl rfl rfl ye_X12_counted ⟨Nat.le_of_ble_eq_true rfl, Nat.le_of_ble_eq_true rfl⟩) (hq_preC hE hI g2 rfl _) rfl rfl hl.1 rfl (lv_room (Nat.le_of_ble_eq_true rfl)) dX12_bestOfMen_2 ⟨Nat.le_of_ble_eq_true rfl, Nat.le_of_ble_eq_true rfl⟩) (fun H locs hI => ?_)
  refine lv_istore (lv' := [(4, .int v4), (0, .ref a0), (1, .int a1), (2, .int a2), (3, .int a3)]) hx hb dX12_bestOfMen_5 hl (by decide) rfl (fun ls hl => ?_)
  refine lv_iload hx hb dX12_bestOfMen_7 (lv_at hl 0 rfl) ?_
  obtain ⟨v7, S6, g5, h⟩ := hq_bd2 h
  refine hq_calli hI (va_runS (As := [.int v4]) (rest := []) ⟨hx, hb, hml, hown, hts⟩ (c_X12_count1 l D kA ρ HB S3 v4 _ g5) (va_cwS 1 hts (gdIn (List.forall_mem_cons.mpr ⟨kw_1173, (List.forall_mem_cons.mpr ⟨kw_1174, (List.forall_mem_cons.mpr ⟨kw_6, (fun _ h => absurd h List.not_mem_nil)⟩)⟩)⟩) kw_1175) rfl rfl rfl yd_X12_count1 ⟨Nat.le_of_ble_eq_true rfl, Nat.le_of_ble_eq_true rfl⟩) (hq_preS hE hI _) rfl rfl hl.1 rfl (lv_room (Nat.le_of_ble_eq_true rfl)) dX12_bestOfMen_9 ⟨Nat.le_of_ble_eq_true rfl, Nat.le_of_ble_eq_true rfl⟩) (fun H locs hI => ?_)
  refine lv_bipush (v := 9) hx hb dX12_bestOfMen_12 (by decide) ?_
  refine lv_icmp_le (tgt := 21) hx hb dX12_bestOfMen_14 (by decide) (fun c8 => ?_) (fun c8 => ?_)
  · have h := hq_t h c8
    refine lv_lconst (v := 1) hx hb dX12_bestOfMen_21 (by decide) ?_
    refine lv_lstore (lv' := [(5, .long 1), (4, .int v4), (0, .ref a0), (1, .int a1), (2, .int a2), (3, .int a3)]) hx hb dX12_bestOfMen_22 hl (by decide) rfl (fun ls hl => ?_)
    refine lv_lconst (v := 1) hx hb dX12_bestOfMen_24 (by decide) ?_
    refine lv_lstore (lv' := [(7, .long 1), (5, .long 1), (4, .int v4), (0, .ref a0), (1, .int a1), (2, .int a2), (3, .int a3)]) hx hb dX12_bestOfMen_25 hl (by decide) rfl (fun ls hl => ?_)
    refine lv_iconst (v := 0) hx hb dX12_bestOfMen_27 (by decide) ?_
    refine lv_istore (lv' := [(9, .int 0), (7, .long 1), (5, .long 1), (4, .int v4), (0, .ref a0), (1, .int a1), (2, .int a2), (3, .int a3)]) hx hb dX12_bestOfMen_28 hl (by decide) rfl (fun ls hl => ?_)
    have hK89 : ∀ (x9 : Int64) (x10 : Int64) (S11 : HSt) (H : Heap) (locs : List Loc) (ls : Array Slot), (f_X12_bestOfMen_K89 a3) x9 x10 S11 = some res → hqX D kA HB S.2 S11 H locs → lv_has ls 10 [(3, .int a3), (5, .long x9), (7, .long x10)] → W p l e rm_X12_bestOfMen s m ([.ref a0, .int a1, .int a2, .int a3] : List Value).toArray below meth c H locs 0 0 (MQ below (hQl D kA HB S res) ([.ref a0, .int a1, .int a2, .int a3] : List Value).toArray s 0 0 (hFree HB)) (F0 m 89 ls []) := by
      intro x9 x10 S11 H locs ls h hI hl
      unfold f_X12_bestOfMen_K89 at h
      refine lv_lload hx hb dX12_bestOfMen_89 (lv_at hl 2 rfl) ?_
      refine lv_lload hx hb dX12_bestOfMen_91 (lv_at hl 1 rfl) ?_
      refine lv_lsub hx hb dX12_bestOfMen_93 ?_
      refine lv_lload hx hb dX12_bestOfMen_94 (lv_at hl 2 rfl) ?_
      refine lv_iload_n hx hb dX12_bestOfMen_96 rfl (lv_at hl 0 rfl) ?_
      obtain ⟨v14, S13, g12, h⟩ := hq_bd2 h
      refine hq_calll hI (va_runS (As := [.long (x10 - x9), .long x10, .int a3]) (rest := []) ⟨hx, hb, hml, hown, hts⟩ (c_X12_lowest l D kA ρ HB S11 (x10 - x9) x10 a3 _ g12) (va_cwS 3 hts (gdIn (List.forall_mem_cons.mpr ⟨kw_1185, (List.forall_mem_cons.mpr ⟨kw_1186, (List.forall_mem_cons.mpr ⟨kw_6, (fun _ h => absurd h List.not_mem_nil)⟩)⟩)⟩) kw_1187) rfl rfl rfl yd_X12_lowest ⟨Nat.le_of_ble_eq_true rfl, Nat.le_of_ble_eq_true rfl⟩) (hq_preS hE hI _) rfl rfl hl.1 rfl (lv_room (Nat.le_of_ble_eq_true rfl)) dX12_bestOfMen_97 ⟨Nat.le_of_ble_eq_true rfl, Nat.le_of_ble_eq_true rfl⟩) (fun H locs hI => ?_)
      exact hq_lret hx hb hr hlocks h0 hI h dX12_bestOfMen_100
    have hL30 : ∀ (n30 : Nat) (x15 : Int64) (x16 : Int64) (x17 : Int32) (S18 : HSt) (H : Heap) (locs : List Loc) (ls : Array Slot), (f_X12_bestOfMen_L30 a0 a1 a2 v4 (f_X12_bestOfMen_K89 a3) n30) x15 x16 x17 S18 = some res → hqX D kA HB S.2 S18 H locs → lv_has ls 10 [(0, .ref a0), (1, .int a1), (2, .int a2), (3, .int a3), (4, .int v4), (5, .long x15), (7, .long x16), (9, .int x17)] → W p l e rm_X12_bestOfMen s m ([.ref a0, .int a1, .int a2, .int a3] : List Value).toArray below meth c H locs 0 0 (MQ below (hQl D kA HB S res) ([.ref a0, .int a1, .int a2, .int a3] : List Value).toArray s 0 0 (hFree HB)) (F0 m 30 ls []) := by
      intro n30
      induction n30 with
      | zero =>
        intro x15 x16 x17 S18 H locs ls h
        have h : (none : Option (Int64 × HSt)) = some res := h
        cases h
      | succ n30 ih30 =>
        intro x15 x16 x17 S18 H locs ls h hI hl
        have h : f_X12_bestOfMen_B30 a0 a1 a2 v4 (f_X12_bestOfMen_K89 a3) (f_X12_bestOfMen_L30 a0 a1 a2 v4 (f_X12_bestOfMen_K89 a3) n30) x15 x16 x17 S18 = some res := h
        unfold f_X12_bestOfMen_B30 at h
        refine lv_iload hx hb dX12_bestOfMen_30 (lv_at hl 7 rfl) ?_
        refine lv_bipush (v := 6) hx hb dX12_bestOfMen_32 (by decide) ?_
        refine lv_icmp_ge (tgt := 89) hx hb dX12_bestOfMen_34 (by decide) (fun c19 => ?_) (fun c19 => ?_)
        · have h := hq_t h c19
          exact hK89 x15 x16 S18 _ _ _ h hI (lv_sub hl [3, 5, 6] rfl)
        · have h := hq_f h c19
          refine lv_aload_n hx hb dX12_bestOfMen_37 rfl (lv_at hl 0 rfl) ?_
          refine lv_aload_n hx hb dX12_bestOfMen_38 rfl (lv_at hl 0 rfl) ?_
          refine lv_iload hx hb dX12_bestOfMen_39 (lv_at hl 4 rfl) ?_
          refine lv_iload hx hb dX12_bestOfMen_41 (lv_at hl 7 rfl) ?_
          obtain ⟨g21, h⟩ := hq_g h
          obtain ⟨v23, S22, g20, h⟩ := hq_bd2 h
          refine hq_calli hI (va_runV (As := [.int v4, .int x17]) (rest := [.ref a0]) ⟨hx, hb, hml, hown, hts⟩ (c_X12_ofMan l D kA ρ HB S18 a0 v4 x17 _ g20) (cwV 2 hts (gdIn (List.forall_mem_cons.mpr ⟨kw_1169, (List.forall_mem_cons.mpr ⟨kw_1171, (List.forall_mem_cons.mpr ⟨ks_56, (List.forall_mem_cons.mpr ⟨kw_6, (fun _ h => absurd h List.not_mem_nil)⟩)⟩)⟩)⟩) kw_1172) rfl rfl rfl ye_X12_ofMan ⟨Nat.le_of_ble_eq_true rfl, Nat.le_of_ble_eq_true rfl⟩) (hq_preC hE hI g21 rfl _) rfl rfl hl.1 rfl (lv_room (Nat.le_of_ble_eq_true rfl)) dX12_bestOfMen_43 ⟨Nat.le_of_ble_eq_true rfl, Nat.le_of_ble_eq_true rfl⟩) (fun H locs hI => ?_)
          refine lv_aload_n hx hb dX12_bestOfMen_46 rfl (lv_at hl 0 rfl) ?_
          obtain ⟨b24, g25, h⟩ := hq_bind h
          obtain ⟨fs_g25, hs_g25, hv_g25⟩ := gR_at g25
          refine hq_get hx hb hts hown hE hI hs_g25 inG12 rfl 1 (by decide) kw_945 hv_g25 dX12_bestOfMen_47 ?_
          refine lv_sipush (v := 310) hx hb dX12_bestOfMen_50 (by decide) ?_
          refine lv_iload_n hx hb dX12_bestOfMen_53 rfl (lv_at hl 1 rfl) ?_
          refine lv_iadd hx hb dX12_bestOfMen_54 ?_
          obtain ⟨v27, g26, h⟩ := hq_bind h
          refine hq_iald hx hb hE hI g26 dX12_bestOfMen_55 ?_
          obtain ⟨g29, h⟩ := hq_g h
          obtain ⟨S30, g28, h⟩ := hq_bind h
          refine hq_callv hI (va_runV (As := [.int v23, .int v27]) (rest := []) ⟨hx, hb, hml, hown, hts⟩ (c_X12_counts l D kA ρ HB S22 a0 v23 v27 _ g28) (cwV 2 hts (gdIn (List.forall_mem_cons.mpr ⟨kw_1199, (List.forall_mem_cons.mpr ⟨kw_1201, (List.forall_mem_cons.mpr ⟨ks_59, (List.forall_mem_cons.mpr ⟨kw_6, (fun _ h => absurd h List.not_mem_nil)⟩)⟩)⟩)⟩) kw_1202) rfl rfl rfl ye_X12_counts ⟨Nat.le_of_ble_eq_true rfl, Nat.le_of_ble_eq_true rfl⟩) (hq_preC hE hI g29 rfl _) rfl rfl hl.1 rfl (lv_room (Nat.le_of_ble_eq_true rfl)) dX12_bestOfMen_56 ⟨Nat.le_of_ble_eq_true rfl, Nat.le_of_ble_eq_true rfl⟩) (fun H locs hI => ?_)
          refine lv_lload hx hb dX12_bestOfMen_59 (lv_at hl 5 rfl) ?_
          refine lv_aload_n hx hb dX12_bestOfMen_61 rfl (lv_at hl 0 rfl) ?_
          obtain ⟨v31, g32, h⟩ := hq_bind h
          obtain ⟨fs_g32, hs_g32, hv_g32⟩ := gL_at g32
          refine hq_get hx hb hts hown hE hI hs_g32 inG12 rfl 14 (by decide) kw_958 hv_g32 dX12_bestOfMen_62 ?_
          refine lv_aload_n hx hb dX12_bestOfMen_65 rfl (lv_at hl 0 rfl) ?_
          refine lv_iload_n hx hb dX12_bestOfMen_66 rfl (lv_at hl 2 rfl) ?_
          obtain ⟨g34, h⟩ := hq_g h
          obtain ⟨v36, S35, g33, h⟩ := hq_bd2 h
          refine hq_calll hI (va_runV (As := [.int a2]) (rest := [.long v31, .long x15]) ⟨hx, hb, hml, hown, hts⟩ (c_X12_orMore l D kA ρ HB S30 a0 a2 _ g33) (cwV 1 hts (gdIn (List.forall_mem_cons.mpr ⟨kw_1203, (List.forall_mem_cons.mpr ⟨kw_1205, (List.forall_mem_cons.mpr ⟨ks_60, (List.forall_mem_cons.mpr ⟨kw_6, (fun _ h => absurd h List.not_mem_nil)⟩)⟩)⟩)⟩) kw_1206) rfl rfl rfl ye_X12_orMore ⟨Nat.le_of_ble_eq_true rfl, Nat.le_of_ble_eq_true rfl⟩) (hq_preC hE hI g34 rfl _) rfl rfl hl.1 rfl (lv_room (Nat.le_of_ble_eq_true rfl)) dX12_bestOfMen_67 ⟨Nat.le_of_ble_eq_true rfl, Nat.le_of_ble_eq_true rfl⟩) (fun H locs hI => ?_)
          refine lv_lsub hx hb dX12_bestOfMen_70 ?_
          refine lv_lmul hx hb dX12_bestOfMen_71 ?_
          refine lv_lstore (lv' := [(5, .long (x15 * (v31 - v36))), (0, .ref a0), (1, .int a1), (2, .int a2), (3, .int a3), (4, .int v4), (7, .long x16), (9, .int x17)]) hx hb dX12_bestOfMen_72 hl (by decide) rfl (fun ls hl => ?_)
          refine lv_lload hx hb dX12_bestOfMen_74 (lv_at hl 6 rfl) ?_
          refine lv_aload_n hx hb dX12_bestOfMen_76 rfl (lv_at hl 1 rfl) ?_
          obtain ⟨v37, g38, h⟩ := hq_bind h
          obtain ⟨fs_g38, hs_g38, hv_g38⟩ := gL_at g38
          refine hq_get hx hb hts hown hE hI hs_g38 inG12 rfl 14 (by decide) kw_958 hv_g38 dX12_bestOfMen_77 ?_
          refine lv_lmul hx hb dX12_bestOfMen_80 ?_
          refine lv_lstore (lv' := [(7, .long (x16 * v37)), (5, .long (x15 * (v31 - v36))), (0, .ref a0), (1, .int a1), (2, .int a2), (3, .int a3), (4, .int v4), (9, .int x17)]) hx hb dX12_bestOfMen_81 hl (by decide) rfl (fun ls hl => ?_)
          refine lv_iinc (v := (x17 + 1)) (lv' := [(9, .int (x17 + 1)), (7, .long (x16 * v37)), (5, .long (x15 * (v31 - v36))), (0, .ref a0), (1, .int a1), (2, .int a2), (3, .int a3), (4, .int v4)]) hx hb dX12_bestOfMen_83 hl (k := 7) rfl rfl (by decide) rfl (fun ls hl => ?_)
          refine lv_goto (tgt := 30) hx hb dX12_bestOfMen_86 (by decide) ?_
          exact ih30 (x15 * (v31 - v36)) (x16 * v37) (x17 + 1) S35 _ _ _ h hI (lv_sub hl [3, 4, 5, 6, 7, 2, 1, 0] rfl)
    exact hL30 FU 1 1 0 S6 _ _ _ h hI (lv_sub hl [4, 5, 6, 7, 3, 2, 1, 0] rfl)
  · have h := hq_f h c8
    refine lv_ldc2 (v := (-9223372036854775808)) hx hb hown (hts _ kw_1180) dX12_bestOfMen_17 ?_
    exact hq_lret hx hb hr hlocks h0 hI h dX12_bestOfMen_20
