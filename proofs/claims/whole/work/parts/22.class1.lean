/-! the class, first half: printed by wip/whole/gen.py -/
-- RodDips.barn(I)I
theorem dX11_barn_0 : decode cX11_barn 0 = .ok (.iload_n 1, 1) := by decide +kernel
theorem dX11_barn_1 : decode cX11_barn 1 = .ok (.iconst 2, 1) := by decide +kernel
theorem dX11_barn_2 : decode cX11_barn 2 = .ok (.if_icmp .lt 9, 3) := by decide +kernel
theorem dX11_barn_5 : decode cX11_barn 5 = .ok (.iload_n 1, 1) := by decide +kernel
theorem dX11_barn_6 : decode cX11_barn 6 = .ok (.bipush 100, 2) := by decide +kernel
theorem dX11_barn_8 : decode cX11_barn 8 = .ok (.if_icmp .le 6, 3) := by decide +kernel
theorem dX11_barn_11 : decode cX11_barn 11 = .ok (.bipush (-2), 2) := by decide +kernel
theorem dX11_barn_13 : decode cX11_barn 13 = .ok (.ireturn, 1) := by decide +kernel
theorem dX11_barn_14 : decode cX11_barn 14 = .ok (.aload_n 0, 1) := by decide +kernel
theorem dX11_barn_15 : decode cX11_barn 15 = .ok (.getfield 21, 3) := by decide +kernel
theorem dX11_barn_18 : decode cX11_barn 18 = .ok (.ifCond .le 6, 3) := by decide +kernel
theorem dX11_barn_21 : decode cX11_barn 21 = .ok (.bipush (-3), 2) := by decide +kernel
theorem dX11_barn_23 : decode cX11_barn 23 = .ok (.ireturn, 1) := by decide +kernel
theorem dX11_barn_24 : decode cX11_barn 24 = .ok (.aload_n 0, 1) := by decide +kernel
theorem dX11_barn_25 : decode cX11_barn 25 = .ok (.getfield 11, 3) := by decide +kernel
theorem dX11_barn_28 : decode cX11_barn 28 = .ok (.istore_n 2, 1) := by decide +kernel
theorem dX11_barn_29 : decode cX11_barn 29 = .ok (.aload_n 0, 1) := by decide +kernel
theorem dX11_barn_30 : decode cX11_barn 30 = .ok (.iload_n 1, 1) := by decide +kernel
theorem dX11_barn_31 : decode cX11_barn 31 = .ok (.putfield 11, 3) := by decide +kernel
theorem dX11_barn_34 : decode cX11_barn 34 = .ok (.iload_n 2, 1) := by decide +kernel
theorem dX11_barn_35 : decode cX11_barn 35 = .ok (.ireturn, 1) := by decide +kernel
def f_X11_barn (S : HSt) (a0 : Nat) (a1 : Int32) : Option (Int32 × HSt) := if a1 < 2 then (some ((-2), S)) else (if a1 ≤ 100 then ((gI S a0 11 2).bind fun v3 => if v3 ≤ 0 then ((gI S a0 11 0).bind fun v6 => (pV S a0 11 0 (.int a1)).bind fun S8 => some (v6, S8)) else (some ((-3), S))) else (some ((-2), S)))
abbrev rm_X11_barn : Room := { frames := 0, cells := 0, slots := 0, locals := 0 }
abbrev w_X11_barn : List Cond := Cond.code yX11_barn cX11_barn 3 (Option.some FieldType.int) :: lwG
theorem yd_X11_barn : yX11_barn.cls ≠ "java/lang/invoke/MethodHandle" ∧ yX11_barn.cls ≠ "java/lang/invoke/VarHandle" ∧ (parseMethodDescriptor yX11_barn.desc).map (fun d => d.parameters.length) = some 1 := by decide +kernel
theorem ye_X11_barn : yX11_barn.cls = RX11 ∧ yX11_barn.cls ≠ "java/lang/invoke/MethodHandle" ∧ yX11_barn.cls ≠ "java/lang/invoke/VarHandle" ∧ (parseMethodDescriptor yX11_barn.desc).map (fun d => d.parameters.length) = some 1 := by decide +kernel
set_option maxHeartbeats 4000000 in
set_option maxRecDepth 100000 in
theorem c_X11_barn (l : Launch) (D : va_G) (kA ρ : Nat → Nat) (HB : Heap) (S : HSt) (a0 : Nat) (a1 : Int32) (res : Int32 × HSt) (h : f_X11_barn S a0 a1 = some res) : Met l yX11_barn w_X11_barn rm_X11_barn (hPc D kA ρ HB S [.ref a0, .int a1]) (hQi D kA HB S res) 0 0 (hFree HB) := by
  refine Met.ofW (cc := cX11_barn) (maxL := 3) (ret := (Option.some FieldType.int)) (by decide) rfl ?_
  intro p e s m args below meth c s₁ B hml hv
  obtain ⟨rfl, hE, h0⟩ := hv
  have hx := B.exec
  have hb := B.bytes
  have hr := B.returns
  have hts0 := atoms_spec (ws := w_X11_barn) B.pre
  have hts : ∀ w ∈ lwG, w.before _ s = true := fun w hw => hts0 w (List.mem_cons_of_mem _ hw)
  have hown : s.vm.findClass RX11 = some m.cls := findClass_of_methodNamed B.named
  have hlocks := B.notSynchronized
  have hI : hqX D kA HB S.2 S s.heap [] := ⟨h0, Nat.le_refl _, fun _ q => absurd q List.not_mem_nil⟩
  have hl := lv_entry ([.ref a0, .int a1]) (n := 3) (Nat.le_of_ble_eq_true rfl)
  rw [lg_entry_eq]
  generalize (lg_sl ([.ref a0, .int a1]) ++ List.replicate (3 - (lg_sl ([.ref a0, .int a1])).length) Slot.unset).toArray = ls at hl ⊢
  have hl : lv_has ls 3 [(0, .ref a0), (1, .int a1)] := hl
  unfold f_X11_barn at h
  refine lv_iload_n hx hb dX11_barn_0 rfl (lv_at hl 1 rfl) ?_
  refine lv_iconst (v := 2) hx hb dX11_barn_1 (by decide) ?_
  refine lv_icmp_lt (tgt := 11) hx hb dX11_barn_2 (by decide) (fun c1 => ?_) (fun c1 => ?_)
  · have h := hq_t h c1
    refine lv_bipush (v := (-2)) hx hb dX11_barn_11 (by decide) ?_
    exact hq_iret hx hb hr hlocks h0 hI h dX11_barn_13
  · have h := hq_f h c1
    refine lv_iload_n hx hb dX11_barn_5 rfl (lv_at hl 1 rfl) ?_
    refine lv_bipush (v := 100) hx hb dX11_barn_6 (by decide) ?_
    refine lv_icmp_le (tgt := 14) hx hb dX11_barn_8 (by decide) (fun c2 => ?_) (fun c2 => ?_)
    · have h := hq_t h c2
      refine lv_aload_n hx hb dX11_barn_14 rfl (lv_at hl 0 rfl) ?_
      obtain ⟨v3, g4, h⟩ := hq_bind h
      obtain ⟨fs_g4, hs_g4, hv_g4⟩ := gI_at g4
      refine hq_get hx hb hts hown hE hI hs_g4 inG11 rfl 2 (by decide) kw_134 hv_g4 dX11_barn_15 ?_
      refine lv_if_le (tgt := 24) hx hb dX11_barn_18 (by decide) (fun c5 => ?_) (fun c5 => ?_)
      · have h := hq_t h c5
        refine lv_aload_n hx hb dX11_barn_24 rfl (lv_at hl 0 rfl) ?_
        obtain ⟨v6, g7, h⟩ := hq_bind h
        obtain ⟨fs_g7, hs_g7, hv_g7⟩ := gI_at g7
        refine hq_get hx hb hts hown hE hI hs_g7 inG11 rfl 0 (by decide) kw_132 hv_g7 dX11_barn_25 ?_
        refine lv_istore_n (lv' := [(2, .int v6), (0, .ref a0), (1, .int a1)]) hx hb dX11_barn_28 rfl hl (by decide) rfl (fun ls hl => ?_)
        refine lv_aload_n hx hb dX11_barn_29 rfl (lv_at hl 1 rfl) ?_
        refine lv_iload_n hx hb dX11_barn_30 rfl (lv_at hl 2 rfl) ?_
        obtain ⟨S8, g9, h⟩ := hq_bind h
        obtain ⟨fs_g9, hs_g9, hl_g9, e_g9⟩ := pV_at g9
        refine hq_put hx hb hts hown hE hI hs_g9 inG11 tyX11 tyX11_ok nmX11 rfl 0 (by decide) kw_132 rfl (v := .int a1) rfl rfl rfl hl_g9 e_g9 dX11_barn_31 (fun H locs hI => ?_)
        refine lv_iload_n hx hb dX11_barn_34 rfl (lv_at hl 0 rfl) ?_
        exact hq_iret hx hb hr hlocks h0 hI h dX11_barn_35
      · have h := hq_f h c5
        refine lv_bipush (v := (-3)) hx hb dX11_barn_21 (by decide) ?_
        exact hq_iret hx hb hr hlocks h0 hI h dX11_barn_23
    · have h := hq_f h c2
      refine lv_bipush (v := (-2)) hx hb dX11_barn_11 (by decide) ?_
      exact hq_iret hx hb hr hlocks h0 hI h dX11_barn_13
-- RodDips.feed(JI)I
theorem dX11_feed_0 : decode cX11_feed 0 = .ok (.iload_n 3, 1) := by decide +kernel
theorem dX11_feed_1 : decode cX11_feed 1 = .ok (.iconst 1, 1) := by decide +kernel
theorem dX11_feed_2 : decode cX11_feed 2 = .ok (.if_icmp .lt 9, 3) := by decide +kernel
theorem dX11_feed_5 : decode cX11_feed 5 = .ok (.iload_n 3, 1) := by decide +kernel
theorem dX11_feed_6 : decode cX11_feed 6 = .ok (.bipush 8, 2) := by decide +kernel
theorem dX11_feed_8 : decode cX11_feed 8 = .ok (.if_icmp .le 6, 3) := by decide +kernel
theorem dX11_feed_11 : decode cX11_feed 11 = .ok (.bipush (-2), 2) := by decide +kernel
theorem dX11_feed_13 : decode cX11_feed 13 = .ok (.ireturn, 1) := by decide +kernel
theorem dX11_feed_14 : decode cX11_feed 14 = .ok (.aload_n 0, 1) := by decide +kernel
theorem dX11_feed_15 : decode cX11_feed 15 = .ok (.getfield 27, 3) := by decide +kernel
theorem dX11_feed_18 : decode cX11_feed 18 = .ok (.lload_n 1, 1) := by decide +kernel
theorem dX11_feed_19 : decode cX11_feed 19 = .ok (.iload_n 3, 1) := by decide +kernel
theorem dX11_feed_20 : decode cX11_feed 20 = .ok (.invokevirtual 136, 3) := by decide +kernel
theorem dX11_feed_23 : decode cX11_feed 23 = .ok (.ifCond .eq 13, 3) := by decide +kernel
theorem dX11_feed_26 : decode cX11_feed 26 = .ok (.aload_n 0, 1) := by decide +kernel
theorem dX11_feed_27 : decode cX11_feed 27 = .ok (.getfield 27, 3) := by decide +kernel
theorem dX11_feed_30 : decode cX11_feed 30 = .ok (.getfield 140, 3) := by decide +kernel
theorem dX11_feed_33 : decode cX11_feed 33 = .ok (.goto 5, 3) := by decide +kernel
theorem dX11_feed_36 : decode cX11_feed 36 = .ok (.bipush (-4), 2) := by decide +kernel
theorem dX11_feed_38 : decode cX11_feed 38 = .ok (.ireturn, 1) := by decide +kernel
def f_X11_feed (S : HSt) (a0 : Nat) (a1 : Int64) (a2 : Int32) : Option (Int32 × HSt) := if a2 < 1 then (some ((-2), S)) else (if a2 ≤ 8 then ((gR S a0 11 3).bind fun b3 => if gC S b3 = some 6 then (bd2 (f_X6_add S b3 a1 a2) fun v8 S7 => if v8 = 0 then (some ((-4), S7)) else ((gR S7 a0 11 3).bind fun b10 => (gI S7 b10 6 1).bind fun v12 => some (v12, S7))) else none) else (some ((-2), S)))
abbrev rm_X11_feed : Room := { frames := 1, cells := 0, slots := 0, locals := 24 }
abbrev w_X11_feed : List Cond := Cond.code yX11_feed cX11_feed 4 (Option.some FieldType.int) :: lwG
theorem yd_X11_feed : yX11_feed.cls ≠ "java/lang/invoke/MethodHandle" ∧ yX11_feed.cls ≠ "java/lang/invoke/VarHandle" ∧ (parseMethodDescriptor yX11_feed.desc).map (fun d => d.parameters.length) = some 2 := by decide +kernel
theorem ye_X11_feed : yX11_feed.cls = RX11 ∧ yX11_feed.cls ≠ "java/lang/invoke/MethodHandle" ∧ yX11_feed.cls ≠ "java/lang/invoke/VarHandle" ∧ (parseMethodDescriptor yX11_feed.desc).map (fun d => d.parameters.length) = some 2 := by decide +kernel
set_option maxHeartbeats 4000000 in
set_option maxRecDepth 100000 in
theorem c_X11_feed (l : Launch) (D : va_G) (kA ρ : Nat → Nat) (HB : Heap) (S : HSt) (a0 : Nat) (a1 : Int64) (a2 : Int32) (res : Int32 × HSt) (h : f_X11_feed S a0 a1 a2 = some res) : Met l yX11_feed w_X11_feed rm_X11_feed (hPc D kA ρ HB S [.ref a0, .long a1, .int a2]) (hQi D kA HB S res) 0 0 (hFree HB) := by
  refine Met.ofW (cc := cX11_feed) (maxL := 4) (ret := (Option.some FieldType.int)) (by decide) rfl ?_
  intro p e s m args below meth c s₁ B hml hv
  obtain ⟨rfl, hE, h0⟩ := hv
  have hx := B.exec
  have hb := B.bytes
  have hr := B.returns
  have hts0 := atoms_spec (ws := w_X11_feed) B.pre
  have hts : ∀ w ∈ lwG, w.before _ s = true := fun w hw => hts0 w (List.mem_cons_of_mem _ hw)
  have hown : s.vm.findClass RX11 = some m.cls := findClass_of_methodNamed B.named
  have hlocks := B.notSynchronized
  have hI : hqX D kA HB S.2 S s.heap [] := ⟨h0, Nat.le_refl _, fun _ q => absurd q List.not_mem_nil⟩
  have hl := lv_entry ([.ref a0, .long a1, .int a2]) (n := 4) (Nat.le_of_ble_eq_true rfl)
  rw [lg_entry_eq]
  generalize (lg_sl ([.ref a0, .long a1, .int a2]) ++ List.replicate (4 - (lg_sl ([.ref a0, .long a1, .int a2])).length) Slot.unset).toArray = ls at hl ⊢
  have hl : lv_has ls 4 [(0, .ref a0), (1, .long a1), (3, .int a2)] := hl
  unfold f_X11_feed at h
  refine lv_iload_n hx hb dX11_feed_0 rfl (lv_at hl 2 rfl) ?_
  refine lv_iconst (v := 1) hx hb dX11_feed_1 (by decide) ?_
  refine lv_icmp_lt (tgt := 11) hx hb dX11_feed_2 (by decide) (fun c1 => ?_) (fun c1 => ?_)
  · have h := hq_t h c1
    refine lv_bipush (v := (-2)) hx hb dX11_feed_11 (by decide) ?_
    exact hq_iret hx hb hr hlocks h0 hI h dX11_feed_13
  · have h := hq_f h c1
    refine lv_iload_n hx hb dX11_feed_5 rfl (lv_at hl 2 rfl) ?_
    refine lv_bipush (v := 8) hx hb dX11_feed_6 (by decide) ?_
    refine lv_icmp_le (tgt := 14) hx hb dX11_feed_8 (by decide) (fun c2 => ?_) (fun c2 => ?_)
    · have h := hq_t h c2
      refine lv_aload_n hx hb dX11_feed_14 rfl (lv_at hl 0 rfl) ?_
      obtain ⟨b3, g4, h⟩ := hq_bind h
      obtain ⟨fs_g4, hs_g4, hv_g4⟩ := gR_at g4
      refine hq_get hx hb hts hown hE hI hs_g4 inG11 rfl 3 (by decide) kw_135 hv_g4 dX11_feed_15 ?_
      refine lv_lload_n hx hb dX11_feed_18 rfl (lv_at hl 1 rfl) ?_
      refine lv_iload_n hx hb dX11_feed_19 rfl (lv_at hl 2 rfl) ?_
      obtain ⟨g6, h⟩ := hq_g h
      obtain ⟨v8, S7, g5, h⟩ := hq_bd2 h
      refine hq_calli hI (va_runV (As := [.long a1, .int a2]) (rest := []) ⟨hx, hb, hml, hown, hts⟩ (c_X6_add l D kA ρ HB S b3 a1 a2 _ g5) (cwV 2 hts (gdIn (List.forall_mem_cons.mpr ⟨kw_366, (List.forall_mem_cons.mpr ⟨kw_367, (List.forall_mem_cons.mpr ⟨kw_368, (List.forall_mem_cons.mpr ⟨kw_2, (fun _ h => absurd h List.not_mem_nil)⟩)⟩)⟩)⟩) kw_369) rfl rfl rfl ye_X6_add ⟨Nat.le_of_ble_eq_true rfl, Nat.le_of_ble_eq_true rfl⟩) (hq_preC hE hI g6 rfl _) rfl rfl hl.1 rfl (lv_room (Nat.le_of_ble_eq_true rfl)) dX11_feed_20 ⟨Nat.le_of_ble_eq_true rfl, Nat.le_of_ble_eq_true rfl⟩) (fun H locs hI => ?_)
      refine lv_if_eq (tgt := 36) hx hb dX11_feed_23 (by decide) (fun c9 => ?_) (fun c9 => ?_)
      · have h := hq_t h c9
        refine lv_bipush (v := (-4)) hx hb dX11_feed_36 (by decide) ?_
        exact hq_iret hx hb hr hlocks h0 hI h dX11_feed_38
      · have h := hq_f h c9
        refine lv_aload_n hx hb dX11_feed_26 rfl (lv_at hl 0 rfl) ?_
        obtain ⟨b10, g11, h⟩ := hq_bind h
        obtain ⟨fs_g11, hs_g11, hv_g11⟩ := gR_at g11
        refine hq_get hx hb hts hown hE hI hs_g11 inG11 rfl 3 (by decide) kw_135 hv_g11 dX11_feed_27 ?_
        obtain ⟨v12, g13, h⟩ := hq_bind h
        obtain ⟨fs_g13, hs_g13, hv_g13⟩ := gI_at g13
        refine hq_getN hx hb hts hown hE hI hs_g13 inG6 rfl 1 (by decide) kn_41 hv_g13 dX11_feed_30 ?_
        refine lv_goto (tgt := 38) hx hb dX11_feed_33 (by decide) ?_
        exact hq_iret hx hb hr hlocks h0 hI h dX11_feed_38
    · have h := hq_f h c2
      refine lv_bipush (v := (-2)) hx hb dX11_feed_11 (by decide) ?_
      exact hq_iret hx hb hr hlocks h0 hI h dX11_feed_13
-- RodDips.plan()I
theorem dX11_plan_0 : decode cX11_plan 0 = .ok (.aload_n 0, 1) := by decide +kernel
theorem dX11_plan_1 : decode cX11_plan 1 = .ok (.getfield 37, 3) := by decide +kernel
theorem dX11_plan_4 : decode cX11_plan 4 = .ok (.iconst 5, 1) := by decide +kernel
theorem dX11_plan_5 : decode cX11_plan 5 = .ok (.if_icmp .lt 6, 3) := by decide +kernel
theorem dX11_plan_8 : decode cX11_plan 8 = .ok (.bipush (-4), 2) := by decide +kernel
theorem dX11_plan_10 : decode cX11_plan 10 = .ok (.ireturn, 1) := by decide +kernel
theorem dX11_plan_11 : decode cX11_plan 11 = .ok (.aload_n 0, 1) := by decide +kernel
theorem dX11_plan_12 : decode cX11_plan 12 = .ok (.getfield 27, 3) := by decide +kernel
theorem dX11_plan_15 : decode cX11_plan 15 = .ok (.aload_n 0, 1) := by decide +kernel
theorem dX11_plan_16 : decode cX11_plan 16 = .ok (.getfield 33, 3) := by decide +kernel
theorem dX11_plan_19 : decode cX11_plan 19 = .ok (.aload_n 0, 1) := by decide +kernel
theorem dX11_plan_20 : decode cX11_plan 20 = .ok (.getfield 37, 3) := by decide +kernel
theorem dX11_plan_23 : decode cX11_plan 23 = .ok (.aaload, 1) := by decide +kernel
theorem dX11_plan_24 : decode cX11_plan 24 = .ok (.invokevirtual 143, 3) := by decide +kernel
theorem dX11_plan_27 : decode cX11_plan 27 = .ok (.istore_n 1, 1) := by decide +kernel
theorem dX11_plan_28 : decode cX11_plan 28 = .ok (.iload_n 1, 1) := by decide +kernel
theorem dX11_plan_29 : decode cX11_plan 29 = .ok (.iconst (-1), 1) := by decide +kernel
theorem dX11_plan_30 : decode cX11_plan 30 = .ok (.if_icmp .ne 17, 3) := by decide +kernel
theorem dX11_plan_33 : decode cX11_plan 33 = .ok (.aload_n 0, 1) := by decide +kernel
theorem dX11_plan_34 : decode cX11_plan 34 = .ok (.dup, 1) := by decide +kernel
theorem dX11_plan_35 : decode cX11_plan 35 = .ok (.getfield 37, 3) := by decide +kernel
theorem dX11_plan_38 : decode cX11_plan 38 = .ok (.dup_x1, 1) := by decide +kernel
theorem dX11_plan_39 : decode cX11_plan 39 = .ok (.iconst 1, 1) := by decide +kernel
theorem dX11_plan_40 : decode cX11_plan 40 = .ok (.iadd, 1) := by decide +kernel
theorem dX11_plan_41 : decode cX11_plan 41 = .ok (.putfield 37, 3) := by decide +kernel
theorem dX11_plan_44 : decode cX11_plan 44 = .ok (.goto 7, 3) := by decide +kernel
theorem dX11_plan_47 : decode cX11_plan 47 = .ok (.bipush (-10), 2) := by decide +kernel
theorem dX11_plan_49 : decode cX11_plan 49 = .ok (.iload_n 1, 1) := by decide +kernel
theorem dX11_plan_50 : decode cX11_plan 50 = .ok (.isub, 1) := by decide +kernel
theorem dX11_plan_51 : decode cX11_plan 51 = .ok (.ireturn, 1) := by decide +kernel
def f_X11_plan (ρ : Nat → Nat) (S : HSt) (a0 : Nat) : Option (Int32 × HSt) := (gI S a0 11 5).bind fun v1 => if v1 < 5 then ((gR S a0 11 3).bind fun b4 => (gR S a0 11 4).bind fun b6 => (gI S a0 11 5).bind fun v8 => (aQ S b6 5 v8).bind fun b11 => oC b11 (none) fun r12 => if gC S b4 = some 6 then (bd2 (f_X6_readInto ρ S b4 r12) fun v16 S15 => if v16 = (-1) then ((gI S15 a0 11 5).bind fun v18 => (pV S15 a0 11 5 (.int (v18 + 1))).bind fun S20 => some (v18, S20)) else (some ((-10) - v16, S15))) else none) else (some ((-4), S))
abbrev rm_X11_plan : Room := { frames := 503, cells := 0, slots := 0, locals := 10071 }
abbrev w_X11_plan : List Cond := Cond.code yX11_plan cX11_plan 2 (Option.some FieldType.int) :: lwG
theorem yd_X11_plan : yX11_plan.cls ≠ "java/lang/invoke/MethodHandle" ∧ yX11_plan.cls ≠ "java/lang/invoke/VarHandle" ∧ (parseMethodDescriptor yX11_plan.desc).map (fun d => d.parameters.length) = some 0 := by decide +kernel
theorem ye_X11_plan : yX11_plan.cls = RX11 ∧ yX11_plan.cls ≠ "java/lang/invoke/MethodHandle" ∧ yX11_plan.cls ≠ "java/lang/invoke/VarHandle" ∧ (parseMethodDescriptor yX11_plan.desc).map (fun d => d.parameters.length) = some 0 := by decide +kernel
set_option maxHeartbeats 4000000 in
set_option maxRecDepth 100000 in
theorem c_X11_plan (l : Launch) (D : va_G) (kA ρ : Nat → Nat) (HB : Heap) (S : HSt) (a0 : Nat) (res : Int32 × HSt) (h : f_X11_plan ρ S a0 = some res) : Met l yX11_plan w_X11_plan rm_X11_plan (hPc D kA ρ HB S [.ref a0]) (hQi D kA HB S res) 0 0 (hFree HB) := by
  refine Met.ofW (cc := cX11_plan) (maxL := 2) (ret := (Option.some FieldType.int)) (by decide) rfl ?_
  intro p e s m args below meth c s₁ B hml hv
  obtain ⟨rfl, hE, h0⟩ := hv
  have hx := B.exec
  have hb := B.bytes
  have hr := B.returns
  have hts0 := atoms_spec (ws := w_X11_plan) B.pre
  have hts : ∀ w ∈ lwG, w.before _ s = true := fun w hw => hts0 w (List.mem_cons_of_mem _ hw)
  have hown : s.vm.findClass RX11 = some m.cls := findClass_of_methodNamed B.named
  have hlocks := B.notSynchronized
  have hI : hqX D kA HB S.2 S s.heap [] := ⟨h0, Nat.le_refl _, fun _ q => absurd q List.not_mem_nil⟩
  have hl := lv_entry ([.ref a0]) (n := 2) (Nat.le_of_ble_eq_true rfl)
  rw [lg_entry_eq]
  generalize (lg_sl ([.ref a0]) ++ List.replicate (2 - (lg_sl ([.ref a0])).length) Slot.unset).toArray = ls at hl ⊢
  have hl : lv_has ls 2 [(0, .ref a0)] := hl
  unfold f_X11_plan at h
  refine lv_aload_n hx hb dX11_plan_0 rfl (lv_at hl 0 rfl) ?_
  obtain ⟨v1, g2, h⟩ := hq_bind h
  obtain ⟨fs_g2, hs_g2, hv_g2⟩ := gI_at g2
  refine hq_get hx hb hts hown hE hI hs_g2 inG11 rfl 5 (by decide) kw_137 hv_g2 dX11_plan_1 ?_
  refine lv_iconst (v := 5) hx hb dX11_plan_4 (by decide) ?_
  refine lv_icmp_lt (tgt := 11) hx hb dX11_plan_5 (by decide) (fun c3 => ?_) (fun c3 => ?_)
  · have h := hq_t h c3
    refine lv_aload_n hx hb dX11_plan_11 rfl (lv_at hl 0 rfl) ?_
    obtain ⟨b4, g5, h⟩ := hq_bind h
    obtain ⟨fs_g5, hs_g5, hv_g5⟩ := gR_at g5
    refine hq_get hx hb hts hown hE hI hs_g5 inG11 rfl 3 (by decide) kw_135 hv_g5 dX11_plan_12 ?_
    refine lv_aload_n hx hb dX11_plan_15 rfl (lv_at hl 0 rfl) ?_
    obtain ⟨b6, g7, h⟩ := hq_bind h
    obtain ⟨fs_g7, hs_g7, hv_g7⟩ := gR_at g7
    refine hq_get hx hb hts hown hE hI hs_g7 inG11 rfl 4 (by decide) kw_136 hv_g7 dX11_plan_16 ?_
    refine lv_aload_n hx hb dX11_plan_19 rfl (lv_at hl 0 rfl) ?_
    obtain ⟨v8, g9, h⟩ := hq_bind h
    obtain ⟨fs_g9, hs_g9, hv_g9⟩ := gI_at g9
    refine hq_get hx hb hts hown hE hI hs_g9 inG11 rfl 5 (by decide) kw_137 hv_g9 dX11_plan_20 ?_
    obtain ⟨b11, g10, h⟩ := hq_bind h
    refine hq_aald5 hx hb hE hI g10 dX11_plan_23 ?_
    rcases b11 with _ | r12
    · have h := oC_n h
      cases h
    · have h := oC_s h
      obtain ⟨g14, h⟩ := hq_g h
      obtain ⟨v16, S15, g13, h⟩ := hq_bd2 h
      refine hq_calli hI (va_runV (As := [.ref r12]) (rest := []) ⟨hx, hb, hml, hown, hts⟩ (c_X6_readInto l D kA ρ HB S b4 r12 _ g13) (cwV 1 hts (gdIn (List.forall_mem_cons.mpr ⟨kw_374, (List.forall_mem_cons.mpr ⟨kw_375, (List.forall_mem_cons.mpr ⟨kw_376, (List.forall_mem_cons.mpr ⟨kw_2, (fun _ h => absurd h List.not_mem_nil)⟩)⟩)⟩)⟩) kw_377) rfl rfl rfl ye_X6_readInto ⟨Nat.le_of_ble_eq_true rfl, Nat.le_of_ble_eq_true rfl⟩) (hq_preC hE hI g14 rfl _) rfl rfl hl.1 rfl (lv_room (Nat.le_of_ble_eq_true rfl)) dX11_plan_24 ⟨Nat.le_of_ble_eq_true rfl, Nat.le_of_ble_eq_true rfl⟩) (fun H locs hI => ?_)
      refine lv_istore_n (lv' := [(1, .int v16), (0, .ref a0)]) hx hb dX11_plan_27 rfl hl (by decide) rfl (fun ls hl => ?_)
      refine lv_iload_n hx hb dX11_plan_28 rfl (lv_at hl 0 rfl) ?_
      refine lv_iconst (v := (-1)) hx hb dX11_plan_29 (by decide) ?_
      refine lv_icmp_ne (tgt := 47) hx hb dX11_plan_30 (by decide) (fun c17 => ?_) (fun c17 => ?_)
      · have h := hq_f h c17
        refine lv_bipush (v := (-10)) hx hb dX11_plan_47 (by decide) ?_
        refine lv_iload_n hx hb dX11_plan_49 rfl (lv_at hl 0 rfl) ?_
        refine lv_isub hx hb dX11_plan_50 ?_
        exact hq_iret hx hb hr hlocks h0 hI h dX11_plan_51
      · have h := hq_t h c17
        refine lv_aload_n hx hb dX11_plan_33 rfl (lv_at hl 1 rfl) ?_
        refine lv_dup hx hb dX11_plan_34 rfl ?_
        obtain ⟨v18, g19, h⟩ := hq_bind h
        obtain ⟨fs_g19, hs_g19, hv_g19⟩ := gI_at g19
        refine hq_get hx hb hts hown hE hI hs_g19 inG11 rfl 5 (by decide) kw_137 hv_g19 dX11_plan_35 ?_
        refine lv_dup_x1 hx hb dX11_plan_38 rfl rfl ?_
        refine lv_iconst (v := 1) hx hb dX11_plan_39 (by decide) ?_
        refine lv_iadd hx hb dX11_plan_40 ?_
        obtain ⟨S20, g21, h⟩ := hq_bind h
        obtain ⟨fs_g21, hs_g21, hl_g21, e_g21⟩ := pV_at g21
        refine hq_put hx hb hts hown hE hI hs_g21 inG11 tyX11 tyX11_ok nmX11 rfl 5 (by decide) kw_137 rfl (v := .int (v18 + 1)) rfl rfl rfl hl_g21 e_g21 dX11_plan_41 (fun H locs hI => ?_)
        refine lv_goto (tgt := 51) hx hb dX11_plan_44 (by decide) ?_
        exact hq_iret hx hb hr hlocks h0 hI h dX11_plan_51
  · have h := hq_f h c3
    refine lv_bipush (v := (-4)) hx hb dX11_plan_8 (by decide) ?_
    exact hq_iret hx hb hr hlocks h0 hI h dX11_plan_10
-- RodDips.law()I
theorem dX11_law_0 : decode cX11_law 0 = .ok (.aload_n 0, 1) := by decide +kernel
theorem dX11_law_1 : decode cX11_law 1 = .ok (.getfield 43, 3) := by decide +kernel
theorem dX11_law_4 : decode cX11_law 4 = .ok (.iconst 5, 1) := by decide +kernel
theorem dX11_law_5 : decode cX11_law 5 = .ok (.if_icmp .lt 6, 3) := by decide +kernel
theorem dX11_law_8 : decode cX11_law 8 = .ok (.bipush (-4), 2) := by decide +kernel
theorem dX11_law_10 : decode cX11_law 10 = .ok (.ireturn, 1) := by decide +kernel
theorem dX11_law_11 : decode cX11_law 11 = .ok (.aload_n 0, 1) := by decide +kernel
theorem dX11_law_12 : decode cX11_law 12 = .ok (.getfield 27, 3) := by decide +kernel
theorem dX11_law_15 : decode cX11_law 15 = .ok (.aload_n 0, 1) := by decide +kernel
theorem dX11_law_16 : decode cX11_law 16 = .ok (.getfield 40, 3) := by decide +kernel
theorem dX11_law_19 : decode cX11_law 19 = .ok (.aload_n 0, 1) := by decide +kernel
theorem dX11_law_20 : decode cX11_law 20 = .ok (.getfield 43, 3) := by decide +kernel
theorem dX11_law_23 : decode cX11_law 23 = .ok (.aaload, 1) := by decide +kernel
theorem dX11_law_24 : decode cX11_law 24 = .ok (.invokevirtual 143, 3) := by decide +kernel
theorem dX11_law_27 : decode cX11_law 27 = .ok (.istore_n 1, 1) := by decide +kernel
theorem dX11_law_28 : decode cX11_law 28 = .ok (.iload_n 1, 1) := by decide +kernel
theorem dX11_law_29 : decode cX11_law 29 = .ok (.iconst (-1), 1) := by decide +kernel
theorem dX11_law_30 : decode cX11_law 30 = .ok (.if_icmp .ne 17, 3) := by decide +kernel
theorem dX11_law_33 : decode cX11_law 33 = .ok (.aload_n 0, 1) := by decide +kernel
theorem dX11_law_34 : decode cX11_law 34 = .ok (.dup, 1) := by decide +kernel
theorem dX11_law_35 : decode cX11_law 35 = .ok (.getfield 43, 3) := by decide +kernel
theorem dX11_law_38 : decode cX11_law 38 = .ok (.dup_x1, 1) := by decide +kernel
theorem dX11_law_39 : decode cX11_law 39 = .ok (.iconst 1, 1) := by decide +kernel
theorem dX11_law_40 : decode cX11_law 40 = .ok (.iadd, 1) := by decide +kernel
theorem dX11_law_41 : decode cX11_law 41 = .ok (.putfield 43, 3) := by decide +kernel
theorem dX11_law_44 : decode cX11_law 44 = .ok (.goto 7, 3) := by decide +kernel
theorem dX11_law_47 : decode cX11_law 47 = .ok (.bipush (-10), 2) := by decide +kernel
theorem dX11_law_49 : decode cX11_law 49 = .ok (.iload_n 1, 1) := by decide +kernel
theorem dX11_law_50 : decode cX11_law 50 = .ok (.isub, 1) := by decide +kernel
theorem dX11_law_51 : decode cX11_law 51 = .ok (.ireturn, 1) := by decide +kernel
def f_X11_law (ρ : Nat → Nat) (S : HSt) (a0 : Nat) : Option (Int32 × HSt) := (gI S a0 11 7).bind fun v1 => if v1 < 5 then ((gR S a0 11 3).bind fun b4 => (gR S a0 11 6).bind fun b6 => (gI S a0 11 7).bind fun v8 => (aQ S b6 5 v8).bind fun b11 => oC b11 (none) fun r12 => if gC S b4 = some 6 then (bd2 (f_X6_readInto ρ S b4 r12) fun v16 S15 => if v16 = (-1) then ((gI S15 a0 11 7).bind fun v18 => (pV S15 a0 11 7 (.int (v18 + 1))).bind fun S20 => some (v18, S20)) else (some ((-10) - v16, S15))) else none) else (some ((-4), S))
abbrev rm_X11_law : Room := { frames := 503, cells := 0, slots := 0, locals := 10071 }
abbrev w_X11_law : List Cond := Cond.code yX11_law cX11_law 2 (Option.some FieldType.int) :: lwG
theorem yd_X11_law : yX11_law.cls ≠ "java/lang/invoke/MethodHandle" ∧ yX11_law.cls ≠ "java/lang/invoke/VarHandle" ∧ (parseMethodDescriptor yX11_law.desc).map (fun d => d.parameters.length) = some 0 := by decide +kernel
theorem ye_X11_law : yX11_law.cls = RX11 ∧ yX11_law.cls ≠ "java/lang/invoke/MethodHandle" ∧ yX11_law.cls ≠ "java/lang/invoke/VarHandle" ∧ (parseMethodDescriptor yX11_law.desc).map (fun d => d.parameters.length) = some 0 := by decide +kernel
set_option maxHeartbeats 4000000 in
set_option maxRecDepth 100000 in
theorem c_X11_law (l : Launch) (D : va_G) (kA ρ : Nat → Nat) (HB : Heap) (S : HSt) (a0 : Nat) (res : Int32 × HSt) (h : f_X11_law ρ S a0 = some res) : Met l yX11_law w_X11_law rm_X11_law (hPc D kA ρ HB S [.ref a0]) (hQi D kA HB S res) 0 0 (hFree HB) := by
  refine Met.ofW (cc := cX11_law) (maxL := 2) (ret := (Option.some FieldType.int)) (by decide) rfl ?_
  intro p e s m args below meth c s₁ B hml hv
  obtain ⟨rfl, hE, h0⟩ := hv
  have hx := B.exec
  have hb := B.bytes
  have hr := B.returns
  have hts0 := atoms_spec (ws := w_X11_law) B.pre
  have hts : ∀ w ∈ lwG, w.before _ s = true := fun w hw => hts0 w (List.mem_cons_of_mem _ hw)
  have hown : s.vm.findClass RX11 = some m.cls := findClass_of_methodNamed B.named
  have hlocks := B.notSynchronized
  have hI : hqX D kA HB S.2 S s.heap [] := ⟨h0, Nat.le_refl _, fun _ q => absurd q List.not_mem_nil⟩
  have hl := lv_entry ([.ref a0]) (n := 2) (Nat.le_of_ble_eq_true rfl)
  rw [lg_entry_eq]
  generalize (lg_sl ([.ref a0]) ++ List.replicate (2 - (lg_sl ([.ref a0])).length) Slot.unset).toArray = ls at hl ⊢
  have hl : lv_has ls 2 [(0, .ref a0)] := hl
  unfold f_X11_law at h
  refine lv_aload_n hx hb dX11_law_0 rfl (lv_at hl 0 rfl) ?_
  obtain ⟨v1, g2, h⟩ := hq_bind h
  obtain ⟨fs_g2, hs_g2, hv_g2⟩ := gI_at g2
  refine hq_get hx hb hts hown hE hI hs_g2 inG11 rfl 7 (by decide) kw_139 hv_g2 dX11_law_1 ?_
  refine lv_iconst (v := 5) hx hb dX11_law_4 (by decide) ?_
  refine lv_icmp_lt (tgt := 11) hx hb dX11_law_5 (by decide) (fun c3 => ?_) (fun c3 => ?_)
  · have h := hq_t h c3
    refine lv_aload_n hx hb dX11_law_11 rfl (lv_at hl 0 rfl) ?_
    obtain ⟨b4, g5, h⟩ := hq_bind h
    obtain ⟨fs_g5, hs_g5, hv_g5⟩ := gR_at g5
    refine hq_get hx hb hts hown hE hI hs_g5 inG11 rfl 3 (by decide) kw_135 hv_g5 dX11_law_12 ?_
    refine lv_aload_n hx hb dX11_law_15 rfl (lv_at hl 0 rfl) ?_
    obtain ⟨b6, g7, h⟩ := hq_bind h
    obtain ⟨fs_g7, hs_g7, hv_g7⟩ := gR_at g7
    refine hq_get hx hb hts hown hE hI hs_g7 inG11 rfl 6 (by decide) kw_138 hv_g7 dX11_law_16 ?_
    refine lv_aload_n hx hb dX11_law_19 rfl (lv_at hl 0 rfl) ?_
    obtain ⟨v8, g9, h⟩ := hq_bind h
    obtain ⟨fs_g9, hs_g9, hv_g9⟩ := gI_at g9
    refine hq_get hx hb hts hown hE hI hs_g9 inG11 rfl 7 (by decide) kw_139 hv_g9 dX11_law_20 ?_
    obtain ⟨b11, g10, h⟩ := hq_bind h
    refine hq_aald5 hx hb hE hI g10 dX11_law_23 ?_
    rcases b11 with _ | r12
    · have h := oC_n h
      cases h
    · have h := oC_s h
      obtain ⟨g14, h⟩ := hq_g h
      obtain ⟨v16, S15, g13, h⟩ := hq_bd2 h
      refine hq_calli hI (va_runV (As := [.ref r12]) (rest := []) ⟨hx, hb, hml, hown, hts⟩ (c_X6_readInto l D kA ρ HB S b4 r12 _ g13) (cwV 1 hts (gdIn (List.forall_mem_cons.mpr ⟨kw_374, (List.forall_mem_cons.mpr ⟨kw_375, (List.forall_mem_cons.mpr ⟨kw_376, (List.forall_mem_cons.mpr ⟨kw_2, (fun _ h => absurd h List.not_mem_nil)⟩)⟩)⟩)⟩) kw_377) rfl rfl rfl ye_X6_readInto ⟨Nat.le_of_ble_eq_true rfl, Nat.le_of_ble_eq_true rfl⟩) (hq_preC hE hI g14 rfl _) rfl rfl hl.1 rfl (lv_room (Nat.le_of_ble_eq_true rfl)) dX11_law_24 ⟨Nat.le_of_ble_eq_true rfl, Nat.le_of_ble_eq_true rfl⟩) (fun H locs hI => ?_)
      refine lv_istore_n (lv' := [(1, .int v16), (0, .ref a0)]) hx hb dX11_law_27 rfl hl (by decide) rfl (fun ls hl => ?_)
      refine lv_iload_n hx hb dX11_law_28 rfl (lv_at hl 0 rfl) ?_
      refine lv_iconst (v := (-1)) hx hb dX11_law_29 (by decide) ?_
      refine lv_icmp_ne (tgt := 47) hx hb dX11_law_30 (by decide) (fun c17 => ?_) (fun c17 => ?_)
      · have h := hq_f h c17
        refine lv_bipush (v := (-10)) hx hb dX11_law_47 (by decide) ?_
        refine lv_iload_n hx hb dX11_law_49 rfl (lv_at hl 0 rfl) ?_
        refine lv_isub hx hb dX11_law_50 ?_
        exact hq_iret hx hb hr hlocks h0 hI h dX11_law_51
      · have h := hq_t h c17
        refine lv_aload_n hx hb dX11_law_33 rfl (lv_at hl 1 rfl) ?_
        refine lv_dup hx hb dX11_law_34 rfl ?_
        obtain ⟨v18, g19, h⟩ := hq_bind h
        obtain ⟨fs_g19, hs_g19, hv_g19⟩ := gI_at g19
        refine hq_get hx hb hts hown hE hI hs_g19 inG11 rfl 7 (by decide) kw_139 hv_g19 dX11_law_35 ?_
        refine lv_dup_x1 hx hb dX11_law_38 rfl rfl ?_
        refine lv_iconst (v := 1) hx hb dX11_law_39 (by decide) ?_
        refine lv_iadd hx hb dX11_law_40 ?_
        obtain ⟨S20, g21, h⟩ := hq_bind h
        obtain ⟨fs_g21, hs_g21, hl_g21, e_g21⟩ := pV_at g21
        refine hq_put hx hb hts hown hE hI hs_g21 inG11 tyX11 tyX11_ok nmX11 rfl 7 (by decide) kw_139 rfl (v := .int (v18 + 1)) rfl rfl rfl hl_g21 e_g21 dX11_law_41 (fun H locs hI => ?_)
        refine lv_goto (tgt := 51) hx hb dX11_law_44 (by decide) ?_
        exact hq_iret hx hb hr hlocks h0 hI h dX11_law_51
  · have h := hq_f h c3
    refine lv_bipush (v := (-4)) hx hb dX11_law_8 (by decide) ?_
    exact hq_iret hx hb hr hlocks h0 hI h dX11_law_10
-- RodDips.holes(II)I
theorem dX11_holes_0 : decode cX11_holes 0 = .ok (.iload_n 1, 1) := by decide +kernel
theorem dX11_holes_1 : decode cX11_holes 1 = .ok (.ifCond .lt 21, 3) := by decide +kernel
theorem dX11_holes_4 : decode cX11_holes 4 = .ok (.iload_n 1, 1) := by decide +kernel
theorem dX11_holes_5 : decode cX11_holes 5 = .ok (.sipush 1000, 3) := by decide +kernel
theorem dX11_holes_8 : decode cX11_holes 8 = .ok (.if_icmp .gt 14, 3) := by decide +kernel
theorem dX11_holes_11 : decode cX11_holes 11 = .ok (.iload_n 2, 1) := by decide +kernel
theorem dX11_holes_12 : decode cX11_holes 12 = .ok (.iconst 1, 1) := by decide +kernel
theorem dX11_holes_13 : decode cX11_holes 13 = .ok (.if_icmp .lt 9, 3) := by decide +kernel
theorem dX11_holes_16 : decode cX11_holes 16 = .ok (.iload_n 2, 1) := by decide +kernel
theorem dX11_holes_17 : decode cX11_holes 17 = .ok (.bipush 99, 2) := by decide +kernel
theorem dX11_holes_19 : decode cX11_holes 19 = .ok (.if_icmp .le 6, 3) := by decide +kernel
theorem dX11_holes_22 : decode cX11_holes 22 = .ok (.bipush (-2), 2) := by decide +kernel
theorem dX11_holes_24 : decode cX11_holes 24 = .ok (.ireturn, 1) := by decide +kernel
theorem dX11_holes_25 : decode cX11_holes 25 = .ok (.lconst 1, 1) := by decide +kernel
theorem dX11_holes_26 : decode cX11_holes 26 = .ok (.lstore_n 3, 1) := by decide +kernel
theorem dX11_holes_27 : decode cX11_holes 27 = .ok (.lconst 1, 1) := by decide +kernel
theorem dX11_holes_28 : decode cX11_holes 28 = .ok (.lstore 5, 2) := by decide +kernel
theorem dX11_holes_30 : decode cX11_holes 30 = .ok (.iconst 0, 1) := by decide +kernel
theorem dX11_holes_31 : decode cX11_holes 31 = .ok (.istore 7, 2) := by decide +kernel
theorem dX11_holes_33 : decode cX11_holes 33 = .ok (.iload 7, 2) := by decide +kernel
theorem dX11_holes_35 : decode cX11_holes 35 = .ok (.iconst 5, 1) := by decide +kernel
theorem dX11_holes_36 : decode cX11_holes 36 = .ok (.if_icmp .gt 35, 3) := by decide +kernel
theorem dX11_holes_39 : decode cX11_holes 39 = .ok (.lload_n 3, 1) := by decide +kernel
theorem dX11_holes_40 : decode cX11_holes 40 = .ok (.iload_n 2, 1) := by decide +kernel
theorem dX11_holes_41 : decode cX11_holes 41 = .ok (.i2l, 1) := by decide +kernel
theorem dX11_holes_42 : decode cX11_holes 42 = .ok (.lmul, 1) := by decide +kernel
theorem dX11_holes_43 : decode cX11_holes 43 = .ok (.lload 5, 2) := by decide +kernel
theorem dX11_holes_45 : decode cX11_holes 45 = .ok (.lcmp, 1) := by decide +kernel
theorem dX11_holes_46 : decode cX11_holes 46 = .ok (.ifCond .gt 6, 3) := by decide +kernel
theorem dX11_holes_49 : decode cX11_holes 49 = .ok (.iload 7, 2) := by decide +kernel
theorem dX11_holes_51 : decode cX11_holes 51 = .ok (.ireturn, 1) := by decide +kernel
theorem dX11_holes_52 : decode cX11_holes 52 = .ok (.lload_n 3, 1) := by decide +kernel
theorem dX11_holes_53 : decode cX11_holes 53 = .ok (.iload_n 1, 1) := by decide +kernel
theorem dX11_holes_54 : decode cX11_holes 54 = .ok (.i2l, 1) := by decide +kernel
theorem dX11_holes_55 : decode cX11_holes 55 = .ok (.lmul, 1) := by decide +kernel
theorem dX11_holes_56 : decode cX11_holes 56 = .ok (.lstore_n 3, 1) := by decide +kernel
theorem dX11_holes_57 : decode cX11_holes 57 = .ok (.lload 5, 2) := by decide +kernel
theorem dX11_holes_59 : decode cX11_holes 59 = .ok (.ldc2_w 264, 3) := by decide +kernel
theorem dX11_holes_62 : decode cX11_holes 62 = .ok (.lmul, 1) := by decide +kernel
theorem dX11_holes_63 : decode cX11_holes 63 = .ok (.lstore 5, 2) := by decide +kernel
theorem dX11_holes_65 : decode cX11_holes 65 = .ok (.iinc 7 1, 3) := by decide +kernel
theorem dX11_holes_68 : decode cX11_holes 68 = .ok (.goto (-35), 3) := by decide +kernel
theorem dX11_holes_71 : decode cX11_holes 71 = .ok (.bipush (-5), 2) := by decide +kernel
theorem dX11_holes_73 : decode cX11_holes 73 = .ok (.ireturn, 1) := by decide +kernel
def f_X11_holes_K71 (S5 : HSt) : Option (Int32 × HSt) := some ((-5), S5)
def f_X11_holes_B33 (a1 : Int32) (a2 : Int32) (kx71 : (HSt → Option (Int32 × HSt))) (kb33 : (Int64 → Int64 → Int32 → HSt → Option (Int32 × HSt))) (x6 : Int64) (x7 : Int64) (x8 : Int32) (S9 : HSt) : Option (Int32 × HSt) := if 5 < x8 then (kx71 S9) else (if 0 < (lg_cmp (x6 * (Int32.toInt64 a2)) x7) then (kb33 (x6 * (Int32.toInt64 a1)) (x7 * 1000) (x8 + 1) S9) else (some (x8, S9)))
def f_X11_holes_L33 (a1 : Int32) (a2 : Int32) (kx71 : (HSt → Option (Int32 × HSt))) : Nat → Int64 → Int64 → Int32 → HSt → Option (Int32 × HSt)
  | 0, _, _, _, _ => none
  | n + 1, x6, x7, x8, S => f_X11_holes_B33 a1 a2 kx71 (f_X11_holes_L33 a1 a2 kx71 n) x6 x7 x8 S
def f_X11_holes (S : HSt) (a0 : Nat) (a1 : Int32) (a2 : Int32) : Option (Int32 × HSt) := if a1 < 0 then (some ((-2), S)) else (if 1000 < a1 then (some ((-2), S)) else (if a2 < 1 then (some ((-2), S)) else (if a2 ≤ 99 then ((f_X11_holes_L33 a1 a2 f_X11_holes_K71 FU) 1 1 0 S) else (some ((-2), S)))))
abbrev rm_X11_holes : Room := { frames := 0, cells := 0, slots := 0, locals := 0 }
abbrev w_X11_holes : List Cond := Cond.code yX11_holes cX11_holes 8 (Option.some FieldType.int) :: lwG
theorem yd_X11_holes : yX11_holes.cls ≠ "java/lang/invoke/MethodHandle" ∧ yX11_holes.cls ≠ "java/lang/invoke/VarHandle" ∧ (parseMethodDescriptor yX11_holes.desc).map (fun d => d.parameters.length) = some 2 := by decide +kernel
theorem ye_X11_holes : yX11_holes.cls = RX11 ∧ yX11_holes.cls ≠ "java/lang/invoke/MethodHandle" ∧ yX11_holes.cls ≠ "java/lang/invoke/VarHandle" ∧ (parseMethodDescriptor yX11_holes.desc).map (fun d => d.parameters.length) = some 2 := by decide +kernel
set_option maxHeartbeats 4000000 in
set_option maxRecDepth 100000 in
theorem c_X11_holes (l : Launch) (D : va_G) (kA ρ : Nat → Nat) (HB : Heap) (S : HSt) (a0 : Nat) (a1 : Int32) (a2 : Int32) (res : Int32 × HSt) (h : f_X11_holes S a0 a1 a2 = some res) : Met l yX11_holes w_X11_holes rm_X11_holes (hPc D kA ρ HB S [.ref a0, .int a1, .int a2]) (hQi D kA HB S res) 0 0 (hFree HB) := by
  refine Met.ofW (cc := cX11_holes) (maxL := 8) (ret := (Option.some FieldType.int)) (by decide) rfl ?_
  intro p e s m args below meth c s₁ B hml hv
  obtain ⟨rfl, hE, h0⟩ := hv
  have hx := B.exec
  have hb := B.bytes
  have hr := B.returns
  have hts0 := atoms_spec (ws := w_X11_holes) B.pre
  have hts : ∀ w ∈ lwG, w.before _ s = true := fun w hw => hts0 w (List.mem_cons_of_mem _ hw)
  have hown : s.vm.findClass RX11 = some m.cls := findClass_of_methodNamed B.named
  have hlocks := B.notSynchronized
  have hI : hqX D kA HB S.2 S s.heap [] := ⟨h0, Nat.le_refl _, fun _ q => absurd q List.not_mem_nil⟩
  have hl := lv_entry ([.ref a0, .int a1, .int a2]) (n := 8) (Nat.le_of_ble_eq_true rfl)
  rw [lg_entry_eq]
  generalize (lg_sl ([.ref a0, .int a1, .int a2]) ++ List.replicate (8 - (lg_sl ([.ref a0, .int a1, .int a2])).length) Slot.unset).toArray = ls at hl ⊢
  have hl : lv_has ls 8 [(0, .ref a0), (1, .int a1), (2, .int a2)] := hl
  unfold f_X11_holes at h
  refine lv_iload_n hx hb dX11_holes_0 rfl (lv_at hl 1 rfl) ?_
  refine lv_if_lt (tgt := 22) hx hb dX11_holes_1 (by decide) (fun c1 => ?_) (fun c1 => ?_)
  · have h := hq_t h c1
    refine lv_bipush (v := (-2)) hx hb dX11_holes_22 (by decide) ?_
    exact hq_iret hx hb hr hlocks h0 hI h dX11_holes_24
  · have h := hq_f h c1
    refine lv_iload_n hx hb dX11_holes_4 rfl (lv_at hl 1 rfl) ?_
    refine lv_sipush (v := 1000) hx hb dX11_holes_5 (by decide) ?_
    refine lv_icmp_gt (tgt := 22) hx hb dX11_holes_8 (by decide) (fun c2 => ?_) (fun c2 => ?_)
    · have h := hq_t h c2
      refine lv_bipush (v := (-2)) hx hb dX11_holes_22 (by decide) ?_
      exact hq_iret hx hb hr hlocks h0 hI h dX11_holes_24
    · have h := hq_f h c2
      refine lv_iload_n hx hb dX11_holes_11 rfl (lv_at hl 2 rfl) ?_
      refine lv_iconst (v := 1) hx hb dX11_holes_12 (by decide) ?_
      refine lv_icmp_lt (tgt := 22) hx hb dX11_holes_13 (by decide) (fun c3 => ?_) (fun c3 => ?_)
      · have h := hq_t h c3
        refine lv_bipush (v := (-2)) hx hb dX11_holes_22 (by decide) ?_
        exact hq_iret hx hb hr hlocks h0 hI h dX11_holes_24
      · have h := hq_f h c3
        refine lv_iload_n hx hb dX11_holes_16 rfl (lv_at hl 2 rfl) ?_
        refine lv_bipush (v := 99) hx hb dX11_holes_17 (by decide) ?_
        refine lv_icmp_le (tgt := 25) hx hb dX11_holes_19 (by decide) (fun c4 => ?_) (fun c4 => ?_)
        · have h := hq_t h c4
          refine lv_lconst (v := 1) hx hb dX11_holes_25 (by decide) ?_
          refine lv_lstore_n (lv' := [(3, .long 1), (0, .ref a0), (1, .int a1), (2, .int a2)]) hx hb dX11_holes_26 rfl hl (by decide) rfl (fun ls hl => ?_)
          refine lv_lconst (v := 1) hx hb dX11_holes_27 (by decide) ?_
          refine lv_lstore (lv' := [(5, .long 1), (3, .long 1), (0, .ref a0), (1, .int a1), (2, .int a2)]) hx hb dX11_holes_28 hl (by decide) rfl (fun ls hl => ?_)
          refine lv_iconst (v := 0) hx hb dX11_holes_30 (by decide) ?_
          refine lv_istore (lv' := [(7, .int 0), (5, .long 1), (3, .long 1), (0, .ref a0), (1, .int a1), (2, .int a2)]) hx hb dX11_holes_31 hl (by decide) rfl (fun ls hl => ?_)
          have hK71 : ∀ (S5 : HSt) (H : Heap) (locs : List Loc) (ls : Array Slot), f_X11_holes_K71 S5 = some res → hqX D kA HB S.2 S5 H locs → lv_has ls 8 [] → W p l e rm_X11_holes s m ([.ref a0, .int a1, .int a2] : List Value).toArray below meth c H locs 0 0 (MQ below (hQi D kA HB S res) ([.ref a0, .int a1, .int a2] : List Value).toArray s 0 0 (hFree HB)) (F0 m 71 ls []) := by
            intro S5 H locs ls h hI hl
            unfold f_X11_holes_K71 at h
            refine lv_bipush (v := (-5)) hx hb dX11_holes_71 (by decide) ?_
            exact hq_iret hx hb hr hlocks h0 hI h dX11_holes_73
          have hL33 : ∀ (n33 : Nat) (x6 : Int64) (x7 : Int64) (x8 : Int32) (S9 : HSt) (H : Heap) (locs : List Loc) (ls : Array Slot), (f_X11_holes_L33 a1 a2 f_X11_holes_K71 n33) x6 x7 x8 S9 = some res → hqX D kA HB S.2 S9 H locs → lv_has ls 8 [(1, .int a1), (2, .int a2), (3, .long x6), (5, .long x7), (7, .int x8)] → W p l e rm_X11_holes s m ([.ref a0, .int a1, .int a2] : List Value).toArray below meth c H locs 0 0 (MQ below (hQi D kA HB S res) ([.ref a0, .int a1, .int a2] : List Value).toArray s 0 0 (hFree HB)) (F0 m 33 ls []) := by
            intro n33
            induction n33 with
            | zero =>
              intro x6 x7 x8 S9 H locs ls h
              have h : (none : Option (Int32 × HSt)) = some res := h
              cases h
            | succ n33 ih33 =>
              intro x6 x7 x8 S9 H locs ls h hI hl
              have h : f_X11_holes_B33 a1 a2 f_X11_holes_K71 (f_X11_holes_L33 a1 a2 f_X11_holes_K71 n33) x6 x7 x8 S9 = some res := h
              unfold f_X11_holes_B33 at h
              refine lv_iload hx hb dX11_holes_33 (lv_at hl 4 rfl) ?_
              refine lv_iconst (v := 5) hx hb dX11_holes_35 (by decide) ?_
              refine lv_icmp_gt (tgt := 71) hx hb dX11_holes_36 (by decide) (fun c10 => ?_) (fun c10 => ?_)
              · have h := hq_t h c10
                exact hK71 S9 _ _ _ h hI (lv_sub hl [] rfl)
              · have h := hq_f h c10
                refine lv_lload_n hx hb dX11_holes_39 rfl (lv_at hl 2 rfl) ?_
                refine lv_iload_n hx hb dX11_holes_40 rfl (lv_at hl 1 rfl) ?_
                refine lv_i2l (v := Int32.toInt64 a2) hx hb dX11_holes_41 rfl ?_
                refine lv_lmul hx hb dX11_holes_42 ?_
                refine lv_lload hx hb dX11_holes_43 (lv_at hl 3 rfl) ?_
                refine W.lcmp hx hb dX11_holes_45 ?_
                refine lv_if_gt (tgt := 52) hx hb dX11_holes_46 (by decide) (fun c11 => ?_) (fun c11 => ?_)
                · have h := hq_t h c11
                  refine lv_lload_n hx hb dX11_holes_52 rfl (lv_at hl 2 rfl) ?_
                  refine lv_iload_n hx hb dX11_holes_53 rfl (lv_at hl 0 rfl) ?_
                  refine lv_i2l (v := Int32.toInt64 a1) hx hb dX11_holes_54 rfl ?_
                  refine lv_lmul hx hb dX11_holes_55 ?_
                  refine lv_lstore_n (lv' := [(3, .long (x6 * (Int32.toInt64 a1))), (1, .int a1), (2, .int a2), (5, .long x7), (7, .int x8)]) hx hb dX11_holes_56 rfl hl (by decide) rfl (fun ls hl => ?_)
                  refine lv_lload hx hb dX11_holes_57 (lv_at hl 3 rfl) ?_
                  refine lv_ldc2 (v := 1000) hx hb hown (hts _ kw_778) dX11_holes_59 ?_
                  refine lv_lmul hx hb dX11_holes_62 ?_
                  refine lv_lstore (lv' := [(5, .long (x7 * 1000)), (3, .long (x6 * (Int32.toInt64 a1))), (1, .int a1), (2, .int a2), (7, .int x8)]) hx hb dX11_holes_63 hl (by decide) rfl (fun ls hl => ?_)
                  refine lv_iinc (v := (x8 + 1)) (lv' := [(7, .int (x8 + 1)), (5, .long (x7 * 1000)), (3, .long (x6 * (Int32.toInt64 a1))), (1, .int a1), (2, .int a2)]) hx hb dX11_holes_65 hl (k := 4) rfl rfl (by decide) rfl (fun ls hl => ?_)
                  refine lv_goto (tgt := 33) hx hb dX11_holes_68 (by decide) ?_
                  exact ih33 (x6 * (Int32.toInt64 a1)) (x7 * 1000) (x8 + 1) S9 _ _ _ h hI (lv_sub hl [3, 4, 2, 1, 0] rfl)
                · have h := hq_f h c11
                  refine lv_iload hx hb dX11_holes_49 (lv_at hl 4 rfl) ?_
                  exact hq_iret hx hb hr hlocks h0 hI h dX11_holes_51
          exact hL33 FU 1 1 0 S _ _ _ h hI (lv_sub hl [4, 5, 2, 1, 0] rfl)
        · have h := hq_f h c4
          refine lv_bipush (v := (-2)) hx hb dX11_holes_22 (by decide) ?_
          exact hq_iret hx hb hr hlocks h0 hI h dX11_holes_24
-- RodDips.rod(III)I
theorem dX11_rod_0 : decode cX11_rod 0 = .ok (.iload_n 1, 1) := by decide +kernel
theorem dX11_rod_1 : decode cX11_rod 1 = .ok (.ifCond .lt 32, 3) := by decide +kernel
theorem dX11_rod_4 : decode cX11_rod 4 = .ok (.iload_n 1, 1) := by decide +kernel
theorem dX11_rod_5 : decode cX11_rod 5 = .ok (.bipush 9, 2) := by decide +kernel
theorem dX11_rod_7 : decode cX11_rod 7 = .ok (.if_icmp .gt 26, 3) := by decide +kernel
theorem dX11_rod_10 : decode cX11_rod 10 = .ok (.iload_n 2, 1) := by decide +kernel
theorem dX11_rod_11 : decode cX11_rod 11 = .ok (.bipush (-99), 2) := by decide +kernel
theorem dX11_rod_13 : decode cX11_rod 13 = .ok (.if_icmp .lt 20, 3) := by decide +kernel
theorem dX11_rod_16 : decode cX11_rod 16 = .ok (.iload_n 2, 1) := by decide +kernel
theorem dX11_rod_17 : decode cX11_rod 17 = .ok (.bipush 99, 2) := by decide +kernel
theorem dX11_rod_19 : decode cX11_rod 19 = .ok (.if_icmp .gt 14, 3) := by decide +kernel
theorem dX11_rod_22 : decode cX11_rod 22 = .ok (.iload_n 3, 1) := by decide +kernel
theorem dX11_rod_23 : decode cX11_rod 23 = .ok (.ifCond .lt 10, 3) := by decide +kernel
theorem dX11_rod_26 : decode cX11_rod 26 = .ok (.iload_n 3, 1) := by decide +kernel
theorem dX11_rod_27 : decode cX11_rod 27 = .ok (.sipush 999, 3) := by decide +kernel
theorem dX11_rod_30 : decode cX11_rod 30 = .ok (.if_icmp .le 6, 3) := by decide +kernel
theorem dX11_rod_33 : decode cX11_rod 33 = .ok (.bipush (-2), 2) := by decide +kernel
theorem dX11_rod_35 : decode cX11_rod 35 = .ok (.ireturn, 1) := by decide +kernel
theorem dX11_rod_36 : decode cX11_rod 36 = .ok (.iconst 0, 1) := by decide +kernel
theorem dX11_rod_37 : decode cX11_rod 37 = .ok (.istore 4, 2) := by decide +kernel
theorem dX11_rod_39 : decode cX11_rod 39 = .ok (.iload 4, 2) := by decide +kernel
theorem dX11_rod_41 : decode cX11_rod 41 = .ok (.bipush 100, 2) := by decide +kernel
theorem dX11_rod_43 : decode cX11_rod 43 = .ok (.if_icmp .ge 22, 3) := by decide +kernel
theorem dX11_rod_46 : decode cX11_rod 46 = .ok (.iload_n 1, 1) := by decide +kernel
theorem dX11_rod_47 : decode cX11_rod 47 = .ok (.iload 4, 2) := by decide +kernel
theorem dX11_rod_49 : decode cX11_rod 49 = .ok (.imul, 1) := by decide +kernel
theorem dX11_rod_50 : decode cX11_rod 50 = .ok (.iload_n 2, 1) := by decide +kernel
theorem dX11_rod_51 : decode cX11_rod 51 = .ok (.iadd, 1) := by decide +kernel
theorem dX11_rod_52 : decode cX11_rod 52 = .ok (.iload_n 3, 1) := by decide +kernel
theorem dX11_rod_53 : decode cX11_rod 53 = .ok (.if_icmp .le 6, 3) := by decide +kernel
theorem dX11_rod_56 : decode cX11_rod 56 = .ok (.iload 4, 2) := by decide +kernel
theorem dX11_rod_58 : decode cX11_rod 58 = .ok (.ireturn, 1) := by decide +kernel
theorem dX11_rod_59 : decode cX11_rod 59 = .ok (.iinc 4 1, 3) := by decide +kernel
theorem dX11_rod_62 : decode cX11_rod 62 = .ok (.goto (-23), 3) := by decide +kernel
theorem dX11_rod_65 : decode cX11_rod 65 = .ok (.bipush (-5), 2) := by decide +kernel
theorem dX11_rod_67 : decode cX11_rod 67 = .ok (.ireturn, 1) := by decide +kernel
def f_X11_rod_K65 (S7 : HSt) : Option (Int32 × HSt) := some ((-5), S7)
def f_X11_rod_B39 (a1 : Int32) (a2 : Int32) (a3 : Int32) (kx65 : (HSt → Option (Int32 × HSt))) (kb39 : (Int32 → HSt → Option (Int32 × HSt))) (x8 : Int32) (S9 : HSt) : Option (Int32 × HSt) := if 100 ≤ x8 then (kx65 S9) else (if ((a1 * x8) + a2) ≤ a3 then (kb39 (x8 + 1) S9) else (some (x8, S9)))
def f_X11_rod_L39 (a1 : Int32) (a2 : Int32) (a3 : Int32) (kx65 : (HSt → Option (Int32 × HSt))) : Nat → Int32 → HSt → Option (Int32 × HSt)
  | 0, _, _ => none
  | n + 1, x8, S => f_X11_rod_B39 a1 a2 a3 kx65 (f_X11_rod_L39 a1 a2 a3 kx65 n) x8 S
def f_X11_rod (S : HSt) (a0 : Nat) (a1 : Int32) (a2 : Int32) (a3 : Int32) : Option (Int32 × HSt) := if a1 < 0 then (some ((-2), S)) else (if 9 < a1 then (some ((-2), S)) else (if a2 < (-99) then (some ((-2), S)) else (if 99 < a2 then (some ((-2), S)) else (if a3 < 0 then (some ((-2), S)) else (if a3 ≤ 999 then ((f_X11_rod_L39 a1 a2 a3 f_X11_rod_K65 FU) 0 S) else (some ((-2), S)))))))
abbrev rm_X11_rod : Room := { frames := 0, cells := 0, slots := 0, locals := 0 }
abbrev w_X11_rod : List Cond := Cond.code yX11_rod cX11_rod 5 (Option.some FieldType.int) :: lwG
theorem yd_X11_rod : yX11_rod.cls ≠ "java/lang/invoke/MethodHandle" ∧ yX11_rod.cls ≠ "java/lang/invoke/VarHandle" ∧ (parseMethodDescriptor yX11_rod.desc).map (fun d => d.parameters.length) = some 3 := by decide +kernel
theorem ye_X11_rod : yX11_rod.cls = RX11 ∧ yX11_rod.cls ≠ "java/lang/invoke/MethodHandle" ∧ yX11_rod.cls ≠ "java/lang/invoke/VarHandle" ∧ (parseMethodDescriptor yX11_rod.desc).map (fun d => d.parameters.length) = some 3 := by decide +kernel
set_option maxHeartbeats 4000000 in
set_option maxRecDepth 100000 in
theorem c_X11_rod (l : Launch) (D : va_G) (kA ρ : Nat → Nat) (HB : Heap) (S : HSt) (a0 : Nat) (a1 : Int32) (a2 : Int32) (a3 : Int32) (res : Int32 × HSt) (h : f_X11_rod S a0 a1 a2 a3 = some res) : Met l yX11_rod w_X11_rod rm_X11_rod (hPc D kA ρ HB S [.ref a0, .int a1, .int a2, .int a3]) (hQi D kA HB S res) 0 0 (hFree HB) := by
  refine Met.ofW (cc := cX11_rod) (maxL := 5) (ret := (Option.some FieldType.int)) (by decide) rfl ?_
  intro p e s m args below meth c s₁ B hml hv
  obtain ⟨rfl, hE, h0⟩ := hv
  have hx := B.exec
  have hb := B.bytes
  have hr := B.returns
  have hts0 := atoms_spec (ws := w_X11_rod) B.pre
  have hts : ∀ w ∈ lwG, w.before _ s = true := fun w hw => hts0 w (List.mem_cons_of_mem _ hw)
  have hown : s.vm.findClass RX11 = some m.cls := findClass_of_methodNamed B.named
  have hlocks := B.notSynchronized
  have hI : hqX D kA HB S.2 S s.heap [] := ⟨h0, Nat.le_refl _, fun _ q => absurd q List.not_mem_nil⟩
  have hl := lv_entry ([.ref a0, .int a1, .int a2, .int a3]) (n := 5) (Nat.le_of_ble_eq_true rfl)
  rw [lg_entry_eq]
  generalize (lg_sl ([.ref a0, .int a1, .int a2, .int a3]) ++ List.replicate (5 - (lg_sl ([.ref a0, .int a1, .int a2, .int a3])).length) Slot.unset).toArray = ls at hl ⊢
  have hl : lv_has ls 5 [(0, .ref a0), (1, .int a1), (2, .int a2), (3, .int a3)] := hl
  unfold f_X11_rod at h
  refine lv_iload_n hx hb dX11_rod_0 rfl (lv_at hl 1 rfl) ?_
  refine lv_if_lt (tgt := 33) hx hb dX11_rod_1 (by decide) (fun c1 => ?_) (fun c1 => ?_)
  · have h := hq_t h c1
    refine lv_bipush (v := (-2)) hx hb dX11_rod_33 (by decide) ?_
    exact hq_iret hx hb hr hlocks h0 hI h dX11_rod_35
  · have h := hq_f h c1
    refine lv_iload_n hx hb dX11_rod_4 rfl (lv_at hl 1 rfl) ?_
    refine lv_bipush (v := 9) hx hb dX11_rod_5 (by decide) ?_
    refine lv_icmp_gt (tgt := 33) hx hb dX11_rod_7 (by decide) (fun c2 => ?_) (fun c2 => ?_)
    · have h := hq_t h c2
      refine lv_bipush (v := (-2)) hx hb dX11_rod_33 (by decide) ?_
      exact hq_iret hx hb hr hlocks h0 hI h dX11_rod_35
    · have h := hq_f h c2
      refine lv_iload_n hx hb dX11_rod_10 rfl (lv_at hl 2 rfl) ?_
      refine lv_bipush (v := (-99)) hx hb dX11_rod_11 (by decide) ?_
      refine lv_icmp_lt (tgt := 33) hx hb dX11_rod_13 (by decide) (fun c3 => ?_) (fun c3 => ?_)
      · have h := hq_t h c3
        refine lv_bipush (v := (-2)) hx hb dX11_rod_33 (by decide) ?_
        exact hq_iret hx hb hr hlocks h0 hI h dX11_rod_35
      · have h := hq_f h c3
        refine lv_iload_n hx hb dX11_rod_16 rfl (lv_at hl 2 rfl) ?_
        refine lv_bipush (v := 99) hx hb dX11_rod_17 (by decide) ?_
        refine lv_icmp_gt (tgt := 33) hx hb dX11_rod_19 (by decide) (fun c4 => ?_) (fun c4 => ?_)
        · have h := hq_t h c4
          refine lv_bipush (v := (-2)) hx hb dX11_rod_33 (by decide) ?_
          exact hq_iret hx hb hr hlocks h0 hI h dX11_rod_35
        · have h := hq_f h c4
          refine lv_iload_n hx hb dX11_rod_22 rfl (lv_at hl 3 rfl) ?_
          refine lv_if_lt (tgt := 33) hx hb dX11_rod_23 (by decide) (fun c5 => ?_) (fun c5 => ?_)
          · have h := hq_t h c5
            refine lv_bipush (v := (-2)) hx hb dX11_rod_33 (by decide) ?_
            exact hq_iret hx hb hr hlocks h0 hI h dX11_rod_35
          · have h := hq_f h c5
            refine lv_iload_n hx hb dX11_rod_26 rfl (lv_at hl 3 rfl) ?_
            refine lv_sipush (v := 999) hx hb dX11_rod_27 (by decide) ?_
            refine lv_icmp_le (tgt := 36) hx hb dX11_rod_30 (by decide) (fun c6 => ?_) (fun c6 => ?_)
            · have h := hq_t h c6
              refine lv_iconst (v := 0) hx hb dX11_rod_36 (by decide) ?_
              refine lv_istore (lv' := [(4, .int 0), (0, .ref a0), (1, .int a1), (2, .int a2), (3, .int a3)]) hx hb dX11_rod_37 hl (by decide) rfl (fun ls hl => ?_)
              have hK65 : ∀ (S7 : HSt) (H : Heap) (locs : List Loc) (ls : Array Slot), f_X11_rod_K65 S7 = some res → hqX D kA HB S.2 S7 H locs → lv_has ls 5 [] → W p l e rm_X11_rod s m ([.ref a0, .int a1, .int a2, .int a3] : List Value).toArray below meth c H locs 0 0 (MQ below (hQi D kA HB S res) ([.ref a0, .int a1, .int a2, .int a3] : List Value).toArray s 0 0 (hFree HB)) (F0 m 65 ls []) := by
                intro S7 H locs ls h hI hl
                unfold f_X11_rod_K65 at h
                refine lv_bipush (v := (-5)) hx hb dX11_rod_65 (by decide) ?_
                exact hq_iret hx hb hr hlocks h0 hI h dX11_rod_67
              have hL39 : ∀ (n39 : Nat) (x8 : Int32) (S9 : HSt) (H : Heap) (locs : List Loc) (ls : Array Slot), (f_X11_rod_L39 a1 a2 a3 f_X11_rod_K65 n39) x8 S9 = some res → hqX D kA HB S.2 S9 H locs → lv_has ls 5 [(1, .int a1), (2, .int a2), (3, .int a3), (4, .int x8)] → W p l e rm_X11_rod s m ([.ref a0, .int a1, .int a2, .int a3] : List Value).toArray below meth c H locs 0 0 (MQ below (hQi D kA HB S res) ([.ref a0, .int a1, .int a2, .int a3] : List Value).toArray s 0 0 (hFree HB)) (F0 m 39 ls []) := by
                intro n39
                induction n39 with
                | zero =>
                  intro x8 S9 H locs ls h
                  have h : (none : Option (Int32 × HSt)) = some res := h
                  cases h
                | succ n39 ih39 =>
                  intro x8 S9 H locs ls h hI hl
                  have h : f_X11_rod_B39 a1 a2 a3 f_X11_rod_K65 (f_X11_rod_L39 a1 a2 a3 f_X11_rod_K65 n39) x8 S9 = some res := h
                  unfold f_X11_rod_B39 at h
                  refine lv_iload hx hb dX11_rod_39 (lv_at hl 3 rfl) ?_
                  refine lv_bipush (v := 100) hx hb dX11_rod_41 (by decide) ?_
                  refine lv_icmp_ge (tgt := 65) hx hb dX11_rod_43 (by decide) (fun c10 => ?_) (fun c10 => ?_)
                  · have h := hq_t h c10
                    exact hK65 S9 _ _ _ h hI (lv_sub hl [] rfl)
                  · have h := hq_f h c10
                    refine lv_iload_n hx hb dX11_rod_46 rfl (lv_at hl 0 rfl) ?_
                    refine lv_iload hx hb dX11_rod_47 (lv_at hl 3 rfl) ?_
                    refine lv_imul hx hb dX11_rod_49 ?_
                    refine lv_iload_n hx hb dX11_rod_50 rfl (lv_at hl 1 rfl) ?_
                    refine lv_iadd hx hb dX11_rod_51 ?_
                    refine lv_iload_n hx hb dX11_rod_52 rfl (lv_at hl 2 rfl) ?_
                    refine lv_icmp_le (tgt := 59) hx hb dX11_rod_53 (by decide) (fun c11 => ?_) (fun c11 => ?_)
                    · have h := hq_t h c11
                      refine lv_iinc (v := (x8 + 1)) (lv' := [(4, .int (x8 + 1)), (1, .int a1), (2, .int a2), (3, .int a3)]) hx hb dX11_rod_59 hl (k := 3) rfl rfl (by decide) rfl (fun ls hl => ?_)
                      refine lv_goto (tgt := 39) hx hb dX11_rod_62 (by decide) ?_
                      exact ih39 (x8 + 1) S9 _ _ _ h hI (lv_sub hl [1, 2, 3, 0] rfl)
                    · have h := hq_f h c11
                      refine lv_iload hx hb dX11_rod_56 (lv_at hl 3 rfl) ?_
                      exact hq_iret hx hb hr hlocks h0 hI h dX11_rod_58
              exact hL39 FU 0 S _ _ _ h hI (lv_sub hl [2, 3, 4, 0] rfl)
            · have h := hq_f h c6
              refine lv_bipush (v := (-2)) hx hb dX11_rod_33 (by decide) ?_
              exact hq_iret hx hb hr hlocks h0 hI h dX11_rod_35
-- RodDips.trace(I)I
theorem dX11_trace_0 : decode cX11_trace 0 = .ok (.aload_n 0, 1) := by decide +kernel
theorem dX11_trace_1 : decode cX11_trace 1 = .ok (.getfield 59, 3) := by decide +kernel
theorem dX11_trace_4 : decode cX11_trace 4 = .ok (.iload_n 1, 1) := by decide +kernel
theorem dX11_trace_5 : decode cX11_trace 5 = .ok (.invokevirtual 278, 3) := by decide +kernel
theorem dX11_trace_8 : decode cX11_trace 8 = .ok (.ireturn, 1) := by decide +kernel
def f_X11_trace (S : HSt) (a0 : Nat) (a1 : Int32) : Option (Int32 × HSt) := (gR S a0 11 10).bind fun b1 => if gC S b1 = some 8 then (bd2 (f_X8_bodyAt S b1 a1) fun v6 S5 => some (v6, S5)) else none
abbrev rm_X11_trace : Room := { frames := 1, cells := 0, slots := 0, locals := 21 }
abbrev w_X11_trace : List Cond := Cond.code yX11_trace cX11_trace 2 (Option.some FieldType.int) :: lwG
theorem yd_X11_trace : yX11_trace.cls ≠ "java/lang/invoke/MethodHandle" ∧ yX11_trace.cls ≠ "java/lang/invoke/VarHandle" ∧ (parseMethodDescriptor yX11_trace.desc).map (fun d => d.parameters.length) = some 1 := by decide +kernel
theorem ye_X11_trace : yX11_trace.cls = RX11 ∧ yX11_trace.cls ≠ "java/lang/invoke/MethodHandle" ∧ yX11_trace.cls ≠ "java/lang/invoke/VarHandle" ∧ (parseMethodDescriptor yX11_trace.desc).map (fun d => d.parameters.length) = some 1 := by decide +kernel
set_option maxHeartbeats 4000000 in
set_option maxRecDepth 100000 in
theorem c_X11_trace (l : Launch) (D : va_G) (kA ρ : Nat → Nat) (HB : Heap) (S : HSt) (a0 : Nat) (a1 : Int32) (res : Int32 × HSt) (h : f_X11_trace S a0 a1 = some res) : Met l yX11_trace w_X11_trace rm_X11_trace (hPc D kA ρ HB S [.ref a0, .int a1]) (hQi D kA HB S res) 0 0 (hFree HB) := by
  refine Met.ofW (cc := cX11_trace) (maxL := 2) (ret := (Option.some FieldType.int)) (by decide) rfl ?_
  intro p e s m args below meth c s₁ B hml hv
  obtain ⟨rfl, hE, h0⟩ := hv
  have hx := B.exec
  have hb := B.bytes
  have hr := B.returns
  have hts0 := atoms_spec (ws := w_X11_trace) B.pre
  have hts : ∀ w ∈ lwG, w.before _ s = true := fun w hw => hts0 w (List.mem_cons_of_mem _ hw)
  have hown : s.vm.findClass RX11 = some m.cls := findClass_of_methodNamed B.named
  have hlocks := B.notSynchronized
  have hI : hqX D kA HB S.2 S s.heap [] := ⟨h0, Nat.le_refl _, fun _ q => absurd q List.not_mem_nil⟩
  have hl := lv_entry ([.ref a0, .int a1]) (n := 2) (Nat.le_of_ble_eq_true rfl)
  rw [lg_entry_eq]
  generalize (lg_sl ([.ref a0, .int a1]) ++ List.replicate (2 - (lg_sl ([.ref a0, .int a1])).length) Slot.unset).toArray = ls at hl ⊢
  have hl : lv_has ls 2 [(0, .ref a0), (1, .int a1)] := hl
  unfold f_X11_trace at h
  refine lv_aload_n hx hb dX11_trace_0 rfl (lv_at hl 0 rfl) ?_
  obtain ⟨b1, g2, h⟩ := hq_bind h
  obtain ⟨fs_g2, hs_g2, hv_g2⟩ := gR_at g2
  refine hq_get hx hb hts hown hE hI hs_g2 inG11 rfl 10 (by decide) kw_142 hv_g2 dX11_trace_1 ?_
  refine lv_iload_n hx hb dX11_trace_4 rfl (lv_at hl 1 rfl) ?_
  obtain ⟨g4, h⟩ := hq_g h
  obtain ⟨v6, S5, g3, h⟩ := hq_bd2 h
  refine hq_calli hI (va_runV (As := [.int a1]) (rest := []) ⟨hx, hb, hml, hown, hts⟩ (c_X8_bodyAt l D kA ρ HB S b1 a1 _ g3) (cwV 1 hts (gdIn (List.forall_mem_cons.mpr ⟨kw_906, (List.forall_mem_cons.mpr ⟨kw_907, (List.forall_mem_cons.mpr ⟨kw_908, (List.forall_mem_cons.mpr ⟨kw_4, (fun _ h => absurd h List.not_mem_nil)⟩)⟩)⟩)⟩) kw_909) rfl rfl rfl ye_X8_bodyAt ⟨Nat.le_of_ble_eq_true rfl, Nat.le_of_ble_eq_true rfl⟩) (hq_preC hE hI g4 rfl _) rfl rfl hl.1 rfl (lv_room (Nat.le_of_ble_eq_true rfl)) dX11_trace_5 ⟨Nat.le_of_ble_eq_true rfl, Nat.le_of_ble_eq_true rfl⟩) (fun H locs hI => ?_)
  exact hq_iret hx hb hr hlocks h0 hI h dX11_trace_8
-- RodDips.count(I)I
theorem dX11_count_0 : decode cX11_count 0 = .ok (.iload_n 1, 1) := by decide +kernel
theorem dX11_count_1 : decode cX11_count 1 = .ok (.tableswitch 75 0 5 #[39, 44, 49, 54, 59, 67], 39) := by decide +kernel
theorem dX11_count_40 : decode cX11_count 40 = .ok (.aload_n 0, 1) := by decide +kernel
theorem dX11_count_41 : decode cX11_count 41 = .ok (.getfield 11, 3) := by decide +kernel
theorem dX11_count_44 : decode cX11_count 44 = .ok (.ireturn, 1) := by decide +kernel
theorem dX11_count_45 : decode cX11_count 45 = .ok (.aload_n 0, 1) := by decide +kernel
theorem dX11_count_46 : decode cX11_count 46 = .ok (.getfield 21, 3) := by decide +kernel
theorem dX11_count_49 : decode cX11_count 49 = .ok (.ireturn, 1) := by decide +kernel
theorem dX11_count_50 : decode cX11_count 50 = .ok (.aload_n 0, 1) := by decide +kernel
theorem dX11_count_51 : decode cX11_count 51 = .ok (.getfield 37, 3) := by decide +kernel
theorem dX11_count_54 : decode cX11_count 54 = .ok (.ireturn, 1) := by decide +kernel
theorem dX11_count_55 : decode cX11_count 55 = .ok (.aload_n 0, 1) := by decide +kernel
theorem dX11_count_56 : decode cX11_count 56 = .ok (.getfield 43, 3) := by decide +kernel
theorem dX11_count_59 : decode cX11_count 59 = .ok (.ireturn, 1) := by decide +kernel
theorem dX11_count_60 : decode cX11_count 60 = .ok (.aload_n 0, 1) := by decide +kernel
theorem dX11_count_61 : decode cX11_count 61 = .ok (.getfield 27, 3) := by decide +kernel
theorem dX11_count_64 : decode cX11_count 64 = .ok (.getfield 140, 3) := by decide +kernel
theorem dX11_count_67 : decode cX11_count 67 = .ok (.ireturn, 1) := by decide +kernel
theorem dX11_count_68 : decode cX11_count 68 = .ok (.aload_n 0, 1) := by decide +kernel
theorem dX11_count_69 : decode cX11_count 69 = .ok (.getfield 59, 3) := by decide +kernel
theorem dX11_count_72 : decode cX11_count 72 = .ok (.getfield 289, 3) := by decide +kernel
theorem dX11_count_75 : decode cX11_count 75 = .ok (.ireturn, 1) := by decide +kernel
theorem dX11_count_76 : decode cX11_count 76 = .ok (.iconst (-1), 1) := by decide +kernel
theorem dX11_count_77 : decode cX11_count 77 = .ok (.ireturn, 1) := by decide +kernel
def f_X11_count (S : HSt) (a0 : Nat) (a1 : Int32) : Option (Int32 × HSt) := if a1 = 0 then ((gI S a0 11 0).bind fun v7 => some (v7, S)) else (if a1 = 1 then ((gI S a0 11 2).bind fun v9 => some (v9, S)) else (if a1 = 2 then ((gI S a0 11 5).bind fun v11 => some (v11, S)) else (if a1 = 3 then ((gI S a0 11 7).bind fun v13 => some (v13, S)) else (if a1 = 4 then ((gR S a0 11 3).bind fun b15 => (gI S b15 6 1).bind fun v17 => some (v17, S)) else (if a1 = 5 then ((gR S a0 11 10).bind fun b19 => (gI S b19 8 1).bind fun v21 => some (v21, S)) else (some ((-1), S)))))))
abbrev rm_X11_count : Room := { frames := 0, cells := 0, slots := 0, locals := 0 }
abbrev w_X11_count : List Cond := Cond.code yX11_count cX11_count 2 (Option.some FieldType.int) :: lwG
theorem yd_X11_count : yX11_count.cls ≠ "java/lang/invoke/MethodHandle" ∧ yX11_count.cls ≠ "java/lang/invoke/VarHandle" ∧ (parseMethodDescriptor yX11_count.desc).map (fun d => d.parameters.length) = some 1 := by decide +kernel
theorem ye_X11_count : yX11_count.cls = RX11 ∧ yX11_count.cls ≠ "java/lang/invoke/MethodHandle" ∧ yX11_count.cls ≠ "java/lang/invoke/VarHandle" ∧ (parseMethodDescriptor yX11_count.desc).map (fun d => d.parameters.length) = some 1 := by decide +kernel
set_option maxHeartbeats 4000000 in
set_option maxRecDepth 100000 in
theorem c_X11_count (l : Launch) (D : va_G) (kA ρ : Nat → Nat) (HB : Heap) (S : HSt) (a0 : Nat) (a1 : Int32) (res : Int32 × HSt) (h : f_X11_count S a0 a1 = some res) : Met l yX11_count w_X11_count rm_X11_count (hPc D kA ρ HB S [.ref a0, .int a1]) (hQi D kA HB S res) 0 0 (hFree HB) := by
  refine Met.ofW (cc := cX11_count) (maxL := 2) (ret := (Option.some FieldType.int)) (by decide) rfl ?_
  intro p e s m args below meth c s₁ B hml hv
  obtain ⟨rfl, hE, h0⟩ := hv
  have hx := B.exec
  have hb := B.bytes
  have hr := B.returns
  have hts0 := atoms_spec (ws := w_X11_count) B.pre
  have hts : ∀ w ∈ lwG, w.before _ s = true := fun w hw => hts0 w (List.mem_cons_of_mem _ hw)
  have hown : s.vm.findClass RX11 = some m.cls := findClass_of_methodNamed B.named
  have hlocks := B.notSynchronized
  have hI : hqX D kA HB S.2 S s.heap [] := ⟨h0, Nat.le_refl _, fun _ q => absurd q List.not_mem_nil⟩
  have hl := lv_entry ([.ref a0, .int a1]) (n := 2) (Nat.le_of_ble_eq_true rfl)
  rw [lg_entry_eq]
  generalize (lg_sl ([.ref a0, .int a1]) ++ List.replicate (2 - (lg_sl ([.ref a0, .int a1])).length) Slot.unset).toArray = ls at hl ⊢
  have hl : lv_has ls 2 [(0, .ref a0), (1, .int a1)] := hl
  unfold f_X11_count at h
  refine lv_iload_n hx hb dX11_count_0 rfl (lv_at hl 1 rfl) ?_
  by_cases c1 : a1 = 0
  · have h := hq_t h c1
    refine lv_tableIn (tgt := 40) hx hb dX11_count_1 (by rw [c1]; decide) (by rw [c1]; decide) (by rw [c1]; rfl) (by decide) ?_
    refine lv_aload_n hx hb dX11_count_40 rfl (lv_at hl 0 rfl) ?_
    obtain ⟨v7, g8, h⟩ := hq_bind h
    obtain ⟨fs_g8, hs_g8, hv_g8⟩ := gI_at g8
    refine hq_get hx hb hts hown hE hI hs_g8 inG11 rfl 0 (by decide) kw_132 hv_g8 dX11_count_41 ?_
    exact hq_iret hx hb hr hlocks h0 hI h dX11_count_44
  have h := hq_f h c1
  by_cases c2 : a1 = 1
  · have h := hq_t h c2
    refine lv_tableIn (tgt := 45) hx hb dX11_count_1 (by rw [c2]; decide) (by rw [c2]; decide) (by rw [c2]; rfl) (by decide) ?_
    refine lv_aload_n hx hb dX11_count_45 rfl (lv_at hl 0 rfl) ?_
    obtain ⟨v9, g10, h⟩ := hq_bind h
    obtain ⟨fs_g10, hs_g10, hv_g10⟩ := gI_at g10
    refine hq_get hx hb hts hown hE hI hs_g10 inG11 rfl 2 (by decide) kw_134 hv_g10 dX11_count_46 ?_
    exact hq_iret hx hb hr hlocks h0 hI h dX11_count_49
  have h := hq_f h c2
  by_cases c3 : a1 = 2
  · have h := hq_t h c3
    refine lv_tableIn (tgt := 50) hx hb dX11_count_1 (by rw [c3]; decide) (by rw [c3]; decide) (by rw [c3]; rfl) (by decide) ?_
    refine lv_aload_n hx hb dX11_count_50 rfl (lv_at hl 0 rfl) ?_
    obtain ⟨v11, g12, h⟩ := hq_bind h
    obtain ⟨fs_g12, hs_g12, hv_g12⟩ := gI_at g12
    refine hq_get hx hb hts hown hE hI hs_g12 inG11 rfl 5 (by decide) kw_137 hv_g12 dX11_count_51 ?_
    exact hq_iret hx hb hr hlocks h0 hI h dX11_count_54
  have h := hq_f h c3
  by_cases c4 : a1 = 3
  · have h := hq_t h c4
    refine lv_tableIn (tgt := 55) hx hb dX11_count_1 (by rw [c4]; decide) (by rw [c4]; decide) (by rw [c4]; rfl) (by decide) ?_
    refine lv_aload_n hx hb dX11_count_55 rfl (lv_at hl 0 rfl) ?_
    obtain ⟨v13, g14, h⟩ := hq_bind h
    obtain ⟨fs_g14, hs_g14, hv_g14⟩ := gI_at g14
    refine hq_get hx hb hts hown hE hI hs_g14 inG11 rfl 7 (by decide) kw_139 hv_g14 dX11_count_56 ?_
    exact hq_iret hx hb hr hlocks h0 hI h dX11_count_59
  have h := hq_f h c4
  by_cases c5 : a1 = 4
  · have h := hq_t h c5
    refine lv_tableIn (tgt := 60) hx hb dX11_count_1 (by rw [c5]; decide) (by rw [c5]; decide) (by rw [c5]; rfl) (by decide) ?_
    refine lv_aload_n hx hb dX11_count_60 rfl (lv_at hl 0 rfl) ?_
    obtain ⟨b15, g16, h⟩ := hq_bind h
    obtain ⟨fs_g16, hs_g16, hv_g16⟩ := gR_at g16
    refine hq_get hx hb hts hown hE hI hs_g16 inG11 rfl 3 (by decide) kw_135 hv_g16 dX11_count_61 ?_
    obtain ⟨v17, g18, h⟩ := hq_bind h
    obtain ⟨fs_g18, hs_g18, hv_g18⟩ := gI_at g18
    refine hq_getN hx hb hts hown hE hI hs_g18 inG6 rfl 1 (by decide) kn_41 hv_g18 dX11_count_64 ?_
    exact hq_iret hx hb hr hlocks h0 hI h dX11_count_67
  have h := hq_f h c5
  by_cases c6 : a1 = 5
  · have h := hq_t h c6
    refine lv_tableIn (tgt := 68) hx hb dX11_count_1 (by rw [c6]; decide) (by rw [c6]; decide) (by rw [c6]; rfl) (by decide) ?_
    refine lv_aload_n hx hb dX11_count_68 rfl (lv_at hl 0 rfl) ?_
    obtain ⟨b19, g20, h⟩ := hq_bind h
    obtain ⟨fs_g20, hs_g20, hv_g20⟩ := gR_at g20
    refine hq_get hx hb hts hown hE hI hs_g20 inG11 rfl 10 (by decide) kw_142 hv_g20 dX11_count_69 ?_
    obtain ⟨v21, g22, h⟩ := hq_bind h
    obtain ⟨fs_g22, hs_g22, hv_g22⟩ := gI_at g22
    refine hq_getN hx hb hts hown hE hI hs_g22 inG8 rfl 1 (by decide) kn_79 hv_g22 dX11_count_72 ?_
    exact hq_iret hx hb hr hlocks h0 hI h dX11_count_75
  have h := hq_f h c6
  have t_c1 := lv_neT c1 (a := 0) (by decide)
  have t_c2 := lv_neT c2 (a := 1) (by decide)
  have t_c3 := lv_neT c3 (a := 2) (by decide)
  have t_c4 := lv_neT c4 (a := 3) (by decide)
  have t_c5 := lv_neT c5 (a := 4) (by decide)
  have t_c6 := lv_neT c6 (a := 5) (by decide)
  refine lv_tableOut (tgt := 76) hx hb dX11_count_1 (by omega) (by decide) ?_
  refine lv_iconst (v := (-1)) hx hb dX11_count_76 (by decide) ?_
  exact hq_iret hx hb hr hlocks h0 hI h dX11_count_77
-- RodDips.isMan(I)Z
theorem dX11_isMan_0 : decode cX11_isMan 0 = .ok (.iload_n 0, 1) := by decide +kernel
theorem dX11_isMan_1 : decode cX11_isMan 1 = .ok (.ifCond .lt 13, 3) := by decide +kernel
theorem dX11_isMan_4 : decode cX11_isMan 4 = .ok (.iload_n 0, 1) := by decide +kernel
theorem dX11_isMan_5 : decode cX11_isMan 5 = .ok (.bipush 6, 2) := by decide +kernel
theorem dX11_isMan_7 : decode cX11_isMan 7 = .ok (.if_icmp .ge 7, 3) := by decide +kernel
theorem dX11_isMan_10 : decode cX11_isMan 10 = .ok (.iconst 1, 1) := by decide +kernel
theorem dX11_isMan_11 : decode cX11_isMan 11 = .ok (.goto 4, 3) := by decide +kernel
theorem dX11_isMan_14 : decode cX11_isMan 14 = .ok (.iconst 0, 1) := by decide +kernel
theorem dX11_isMan_15 : decode cX11_isMan 15 = .ok (.ireturn, 1) := by decide +kernel
def f_X11_isMan (S : HSt) (a0 : Int32) : Option (Int32 × HSt) := if a0 < 0 then (some (0, S)) else (if 6 ≤ a0 then (some (0, S)) else (some (1, S)))
abbrev rm_X11_isMan : Room := { frames := 0, cells := 0, slots := 0, locals := 0 }
abbrev w_X11_isMan : List Cond := Cond.code yX11_isMan cX11_isMan 1 (Option.some FieldType.boolean) :: lwG
theorem yd_X11_isMan : yX11_isMan.cls ≠ "java/lang/invoke/MethodHandle" ∧ yX11_isMan.cls ≠ "java/lang/invoke/VarHandle" ∧ (parseMethodDescriptor yX11_isMan.desc).map (fun d => d.parameters.length) = some 1 := by decide +kernel
set_option maxHeartbeats 4000000 in
set_option maxRecDepth 100000 in
theorem c_X11_isMan (l : Launch) (D : va_G) (kA ρ : Nat → Nat) (HB : Heap) (S : HSt) (a0 : Int32) (res : Int32 × HSt) (h : f_X11_isMan S a0 = some res) : Met l yX11_isMan w_X11_isMan rm_X11_isMan (hPc D kA ρ HB S [.int a0]) (hQi D kA HB S res) 0 0 (hFree HB) := by
  refine Met.ofW (cc := cX11_isMan) (maxL := 1) (ret := (Option.some FieldType.boolean)) (by decide) rfl ?_
  intro p e s m args below meth c s₁ B hml hv
  obtain ⟨rfl, hE, h0⟩ := hv
  have hx := B.exec
  have hb := B.bytes
  have hr := B.returns
  have hts0 := atoms_spec (ws := w_X11_isMan) B.pre
  have hts : ∀ w ∈ lwG, w.before _ s = true := fun w hw => hts0 w (List.mem_cons_of_mem _ hw)
  have hown : s.vm.findClass RX11 = some m.cls := findClass_of_methodNamed B.named
  have hlocks := B.notSynchronized
  have hI : hqX D kA HB S.2 S s.heap [] := ⟨h0, Nat.le_refl _, fun _ q => absurd q List.not_mem_nil⟩
  have hl := lv_entry ([.int a0]) (n := 1) (Nat.le_of_ble_eq_true rfl)
  rw [lg_entry_eq]
  generalize (lg_sl ([.int a0]) ++ List.replicate (1 - (lg_sl ([.int a0])).length) Slot.unset).toArray = ls at hl ⊢
  have hl : lv_has ls 1 [(0, .int a0)] := hl
  unfold f_X11_isMan at h
  refine lv_iload_n hx hb dX11_isMan_0 rfl (lv_at hl 0 rfl) ?_
  refine lv_if_lt (tgt := 14) hx hb dX11_isMan_1 (by decide) (fun c1 => ?_) (fun c1 => ?_)
  · have h := hq_t h c1
    refine lv_iconst (v := 0) hx hb dX11_isMan_14 (by decide) ?_
    exact hq_zret hx hb hr hlocks h0 hI (by decide) h dX11_isMan_15
  · have h := hq_f h c1
    refine lv_iload_n hx hb dX11_isMan_4 rfl (lv_at hl 0 rfl) ?_
    refine lv_bipush (v := 6) hx hb dX11_isMan_5 (by decide) ?_
    refine lv_icmp_ge (tgt := 14) hx hb dX11_isMan_7 (by decide) (fun c2 => ?_) (fun c2 => ?_)
    · have h := hq_t h c2
      refine lv_iconst (v := 0) hx hb dX11_isMan_14 (by decide) ?_
      exact hq_zret hx hb hr hlocks h0 hI (by decide) h dX11_isMan_15
    · have h := hq_f h c2
      refine lv_iconst (v := 1) hx hb dX11_isMan_10 (by decide) ?_
      refine lv_goto (tgt := 15) hx hb dX11_isMan_11 (by decide) ?_
      exact hq_zret hx hb hr hlocks h0 hI (by decide) h dX11_isMan_15
-- RodDips.isKind(I)Z
theorem dX11_isKind_0 : decode cX11_isKind 0 = .ok (.iload_n 0, 1) := by decide +kernel
theorem dX11_isKind_1 : decode cX11_isKind 1 = .ok (.ifCond .lt 13, 3) := by decide +kernel
theorem dX11_isKind_4 : decode cX11_isKind 4 = .ok (.iload_n 0, 1) := by decide +kernel
theorem dX11_isKind_5 : decode cX11_isKind 5 = .ok (.bipush 7, 2) := by decide +kernel
theorem dX11_isKind_7 : decode cX11_isKind 7 = .ok (.if_icmp .ge 7, 3) := by decide +kernel
theorem dX11_isKind_10 : decode cX11_isKind 10 = .ok (.iconst 1, 1) := by decide +kernel
theorem dX11_isKind_11 : decode cX11_isKind 11 = .ok (.goto 4, 3) := by decide +kernel
theorem dX11_isKind_14 : decode cX11_isKind 14 = .ok (.iconst 0, 1) := by decide +kernel
theorem dX11_isKind_15 : decode cX11_isKind 15 = .ok (.ireturn, 1) := by decide +kernel
def f_X11_isKind (S : HSt) (a0 : Int32) : Option (Int32 × HSt) := if a0 < 0 then (some (0, S)) else (if 7 ≤ a0 then (some (0, S)) else (some (1, S)))
abbrev rm_X11_isKind : Room := { frames := 0, cells := 0, slots := 0, locals := 0 }
abbrev w_X11_isKind : List Cond := Cond.code yX11_isKind cX11_isKind 1 (Option.some FieldType.boolean) :: lwG
theorem yd_X11_isKind : yX11_isKind.cls ≠ "java/lang/invoke/MethodHandle" ∧ yX11_isKind.cls ≠ "java/lang/invoke/VarHandle" ∧ (parseMethodDescriptor yX11_isKind.desc).map (fun d => d.parameters.length) = some 1 := by decide +kernel
set_option maxHeartbeats 4000000 in
set_option maxRecDepth 100000 in
theorem c_X11_isKind (l : Launch) (D : va_G) (kA ρ : Nat → Nat) (HB : Heap) (S : HSt) (a0 : Int32) (res : Int32 × HSt) (h : f_X11_isKind S a0 = some res) : Met l yX11_isKind w_X11_isKind rm_X11_isKind (hPc D kA ρ HB S [.int a0]) (hQi D kA HB S res) 0 0 (hFree HB) := by
  refine Met.ofW (cc := cX11_isKind) (maxL := 1) (ret := (Option.some FieldType.boolean)) (by decide) rfl ?_
  intro p e s m args below meth c s₁ B hml hv
  obtain ⟨rfl, hE, h0⟩ := hv
  have hx := B.exec
  have hb := B.bytes
  have hr := B.returns
  have hts0 := atoms_spec (ws := w_X11_isKind) B.pre
  have hts : ∀ w ∈ lwG, w.before _ s = true := fun w hw => hts0 w (List.mem_cons_of_mem _ hw)
  have hown : s.vm.findClass RX11 = some m.cls := findClass_of_methodNamed B.named
  have hlocks := B.notSynchronized
  have hI : hqX D kA HB S.2 S s.heap [] := ⟨h0, Nat.le_refl _, fun _ q => absurd q List.not_mem_nil⟩
  have hl := lv_entry ([.int a0]) (n := 1) (Nat.le_of_ble_eq_true rfl)
  rw [lg_entry_eq]
  generalize (lg_sl ([.int a0]) ++ List.replicate (1 - (lg_sl ([.int a0])).length) Slot.unset).toArray = ls at hl ⊢
  have hl : lv_has ls 1 [(0, .int a0)] := hl
  unfold f_X11_isKind at h
  refine lv_iload_n hx hb dX11_isKind_0 rfl (lv_at hl 0 rfl) ?_
  refine lv_if_lt (tgt := 14) hx hb dX11_isKind_1 (by decide) (fun c1 => ?_) (fun c1 => ?_)
  · have h := hq_t h c1
    refine lv_iconst (v := 0) hx hb dX11_isKind_14 (by decide) ?_
    exact hq_zret hx hb hr hlocks h0 hI (by decide) h dX11_isKind_15
  · have h := hq_f h c1
    refine lv_iload_n hx hb dX11_isKind_4 rfl (lv_at hl 0 rfl) ?_
    refine lv_bipush (v := 7) hx hb dX11_isKind_5 (by decide) ?_
    refine lv_icmp_ge (tgt := 14) hx hb dX11_isKind_7 (by decide) (fun c2 => ?_) (fun c2 => ?_)
    · have h := hq_t h c2
      refine lv_iconst (v := 0) hx hb dX11_isKind_14 (by decide) ?_
      exact hq_zret hx hb hr hlocks h0 hI (by decide) h dX11_isKind_15
    · have h := hq_f h c2
      refine lv_iconst (v := 1) hx hb dX11_isKind_10 (by decide) ?_
      refine lv_goto (tgt := 15) hx hb dX11_isKind_11 (by decide) ?_
      exact hq_zret hx hb hr hlocks h0 hI (by decide) h dX11_isKind_15
-- RodDips.isHitNumber(I)Z
theorem dX11_isHitNumber_0 : decode cX11_isHitNumber 0 = .ok (.iload_n 0, 1) := by decide +kernel
theorem dX11_isHitNumber_1 : decode cX11_isHitNumber 1 = .ok (.ifCond .lt 13, 3) := by decide +kernel
theorem dX11_isHitNumber_4 : decode cX11_isHitNumber 4 = .ok (.iload_n 0, 1) := by decide +kernel
theorem dX11_isHitNumber_5 : decode cX11_isHitNumber 5 = .ok (.bipush 9, 2) := by decide +kernel
theorem dX11_isHitNumber_7 : decode cX11_isHitNumber 7 = .ok (.if_icmp .gt 7, 3) := by decide +kernel
theorem dX11_isHitNumber_10 : decode cX11_isHitNumber 10 = .ok (.iconst 1, 1) := by decide +kernel
theorem dX11_isHitNumber_11 : decode cX11_isHitNumber 11 = .ok (.goto 4, 3) := by decide +kernel
theorem dX11_isHitNumber_14 : decode cX11_isHitNumber 14 = .ok (.iconst 0, 1) := by decide +kernel
theorem dX11_isHitNumber_15 : decode cX11_isHitNumber 15 = .ok (.ireturn, 1) := by decide +kernel
def f_X11_isHitNumber (S : HSt) (a0 : Int32) : Option (Int32 × HSt) := if a0 < 0 then (some (0, S)) else (if 9 < a0 then (some (0, S)) else (some (1, S)))
abbrev rm_X11_isHitNumber : Room := { frames := 0, cells := 0, slots := 0, locals := 0 }
abbrev w_X11_isHitNumber : List Cond := Cond.code yX11_isHitNumber cX11_isHitNumber 1 (Option.some FieldType.boolean) :: lwG
theorem yd_X11_isHitNumber : yX11_isHitNumber.cls ≠ "java/lang/invoke/MethodHandle" ∧ yX11_isHitNumber.cls ≠ "java/lang/invoke/VarHandle" ∧ (parseMethodDescriptor yX11_isHitNumber.desc).map (fun d => d.parameters.length) = some 1 := by decide +kernel
set_option maxHeartbeats 4000000 in
set_option maxRecDepth 100000 in
theorem c_X11_isHitNumber (l : Launch) (D : va_G) (kA ρ : Nat → Nat) (HB : Heap) (S : HSt) (a0 : Int32) (res : Int32 × HSt) (h : f_X11_isHitNumber S a0 = some res) : Met l yX11_isHitNumber w_X11_isHitNumber rm_X11_isHitNumber (hPc D kA ρ HB S [.int a0]) (hQi D kA HB S res) 0 0 (hFree HB) := by
  refine Met.ofW (cc := cX11_isHitNumber) (maxL := 1) (ret := (Option.some FieldType.boolean)) (by decide) rfl ?_
  intro p e s m args below meth c s₁ B hml hv
  obtain ⟨rfl, hE, h0⟩ := hv
  have hx := B.exec
  have hb := B.bytes
  have hr := B.returns
  have hts0 := atoms_spec (ws := w_X11_isHitNumber) B.pre
  have hts : ∀ w ∈ lwG, w.before _ s = true := fun w hw => hts0 w (List.mem_cons_of_mem _ hw)
  have hown : s.vm.findClass RX11 = some m.cls := findClass_of_methodNamed B.named
  have hlocks := B.notSynchronized
  have hI : hqX D kA HB S.2 S s.heap [] := ⟨h0, Nat.le_refl _, fun _ q => absurd q List.not_mem_nil⟩
  have hl := lv_entry ([.int a0]) (n := 1) (Nat.le_of_ble_eq_true rfl)
  rw [lg_entry_eq]
  generalize (lg_sl ([.int a0]) ++ List.replicate (1 - (lg_sl ([.int a0])).length) Slot.unset).toArray = ls at hl ⊢
  have hl : lv_has ls 1 [(0, .int a0)] := hl
  unfold f_X11_isHitNumber at h
  refine lv_iload_n hx hb dX11_isHitNumber_0 rfl (lv_at hl 0 rfl) ?_
  refine lv_if_lt (tgt := 14) hx hb dX11_isHitNumber_1 (by decide) (fun c1 => ?_) (fun c1 => ?_)
  · have h := hq_t h c1
    refine lv_iconst (v := 0) hx hb dX11_isHitNumber_14 (by decide) ?_
    exact hq_zret hx hb hr hlocks h0 hI (by decide) h dX11_isHitNumber_15
  · have h := hq_f h c1
    refine lv_iload_n hx hb dX11_isHitNumber_4 rfl (lv_at hl 0 rfl) ?_
    refine lv_bipush (v := 9) hx hb dX11_isHitNumber_5 (by decide) ?_
    refine lv_icmp_gt (tgt := 14) hx hb dX11_isHitNumber_7 (by decide) (fun c2 => ?_) (fun c2 => ?_)
    · have h := hq_t h c2
      refine lv_iconst (v := 0) hx hb dX11_isHitNumber_14 (by decide) ?_
      exact hq_zret hx hb hr hlocks h0 hI (by decide) h dX11_isHitNumber_15
    · have h := hq_f h c2
      refine lv_iconst (v := 1) hx hb dX11_isHitNumber_10 (by decide) ?_
      refine lv_goto (tgt := 15) hx hb dX11_isHitNumber_11 (by decide) ?_
      exact hq_zret hx hb hr hlocks h0 hI (by decide) h dX11_isHitNumber_15
-- RodDips.isOneOfTwo(I)Z
theorem dX11_isOneOfTwo_0 : decode cX11_isOneOfTwo 0 = .ok (.iload_n 0, 1) := by decide +kernel
theorem dX11_isOneOfTwo_1 : decode cX11_isOneOfTwo 1 = .ok (.ifCond .eq 8, 3) := by decide +kernel
theorem dX11_isOneOfTwo_4 : decode cX11_isOneOfTwo 4 = .ok (.iload_n 0, 1) := by decide +kernel
theorem dX11_isOneOfTwo_5 : decode cX11_isOneOfTwo 5 = .ok (.iconst 1, 1) := by decide +kernel
theorem dX11_isOneOfTwo_6 : decode cX11_isOneOfTwo 6 = .ok (.if_icmp .ne 7, 3) := by decide +kernel
theorem dX11_isOneOfTwo_9 : decode cX11_isOneOfTwo 9 = .ok (.iconst 1, 1) := by decide +kernel
theorem dX11_isOneOfTwo_10 : decode cX11_isOneOfTwo 10 = .ok (.goto 4, 3) := by decide +kernel
theorem dX11_isOneOfTwo_13 : decode cX11_isOneOfTwo 13 = .ok (.iconst 0, 1) := by decide +kernel
theorem dX11_isOneOfTwo_14 : decode cX11_isOneOfTwo 14 = .ok (.ireturn, 1) := by decide +kernel
def f_X11_isOneOfTwo (S : HSt) (a0 : Int32) : Option (Int32 × HSt) := if a0 = 0 then (some (1, S)) else (if a0 = 1 then (some (1, S)) else (some (0, S)))
abbrev rm_X11_isOneOfTwo : Room := { frames := 0, cells := 0, slots := 0, locals := 0 }
abbrev w_X11_isOneOfTwo : List Cond := Cond.code yX11_isOneOfTwo cX11_isOneOfTwo 1 (Option.some FieldType.boolean) :: lwG
theorem yd_X11_isOneOfTwo : yX11_isOneOfTwo.cls ≠ "java/lang/invoke/MethodHandle" ∧ yX11_isOneOfTwo.cls ≠ "java/lang/invoke/VarHandle" ∧ (parseMethodDescriptor yX11_isOneOfTwo.desc).map (fun d => d.parameters.length) = some 1 := by decide +kernel
set_option maxHeartbeats 4000000 in
set_option maxRecDepth 100000 in
theorem c_X11_isOneOfTwo (l : Launch) (D : va_G) (kA ρ : Nat → Nat) (HB : Heap) (S : HSt) (a0 : Int32) (res : Int32 × HSt) (h : f_X11_isOneOfTwo S a0 = some res) : Met l yX11_isOneOfTwo w_X11_isOneOfTwo rm_X11_isOneOfTwo (hPc D kA ρ HB S [.int a0]) (hQi D kA HB S res) 0 0 (hFree HB) := by
  refine Met.ofW (cc := cX11_isOneOfTwo) (maxL := 1) (ret := (Option.some FieldType.boolean)) (by decide) rfl ?_
  intro p e s m args below meth c s₁ B hml hv
  obtain ⟨rfl, hE, h0⟩ := hv
  have hx := B.exec
  have hb := B.bytes
  have hr := B.returns
  have hts0 := atoms_spec (ws := w_X11_isOneOfTwo) B.pre
  have hts : ∀ w ∈ lwG, w.before _ s = true := fun w hw => hts0 w (List.mem_cons_of_mem _ hw)
  have hown : s.vm.findClass RX11 = some m.cls := findClass_of_methodNamed B.named
  have hlocks := B.notSynchronized
  have hI : hqX D kA HB S.2 S s.heap [] := ⟨h0, Nat.le_refl _, fun _ q => absurd q List.not_mem_nil⟩
  have hl := lv_entry ([.int a0]) (n := 1) (Nat.le_of_ble_eq_true rfl)
  rw [lg_entry_eq]
  generalize (lg_sl ([.int a0]) ++ List.replicate (1 - (lg_sl ([.int a0])).length) Slot.unset).toArray = ls at hl ⊢
  have hl : lv_has ls 1 [(0, .int a0)] := hl
  unfold f_X11_isOneOfTwo at h
  refine lv_iload_n hx hb dX11_isOneOfTwo_0 rfl (lv_at hl 0 rfl) ?_
  refine lv_if_eq (tgt := 9) hx hb dX11_isOneOfTwo_1 (by decide) (fun c1 => ?_) (fun c1 => ?_)
  · have h := hq_t h c1
    refine lv_iconst (v := 1) hx hb dX11_isOneOfTwo_9 (by decide) ?_
    refine lv_goto (tgt := 14) hx hb dX11_isOneOfTwo_10 (by decide) ?_
    exact hq_zret hx hb hr hlocks h0 hI (by decide) h dX11_isOneOfTwo_14
  · have h := hq_f h c1
    refine lv_iload_n hx hb dX11_isOneOfTwo_4 rfl (lv_at hl 0 rfl) ?_
    refine lv_iconst (v := 1) hx hb dX11_isOneOfTwo_5 (by decide) ?_
    refine lv_icmp_ne (tgt := 13) hx hb dX11_isOneOfTwo_6 (by decide) (fun c2 => ?_) (fun c2 => ?_)
    · have h := hq_f h c2
      refine lv_iconst (v := 0) hx hb dX11_isOneOfTwo_13 (by decide) ?_
      exact hq_zret hx hb hr hlocks h0 hI (by decide) h dX11_isOneOfTwo_14
    · have h := hq_t h c2
      refine lv_iconst (v := 1) hx hb dX11_isOneOfTwo_9 (by decide) ?_
      refine lv_goto (tgt := 14) hx hb dX11_isOneOfTwo_10 (by decide) ?_
      exact hq_zret hx hb hr hlocks h0 hI (by decide) h dX11_isOneOfTwo_14
-- RodDips.isPercent(I)Z
theorem dX11_isPercent_0 : decode cX11_isPercent 0 = .ok (.iload_n 0, 1) := by decide +kernel
theorem dX11_isPercent_1 : decode cX11_isPercent 1 = .ok (.ifCond .lt 13, 3) := by decide +kernel
theorem dX11_isPercent_4 : decode cX11_isPercent 4 = .ok (.iload_n 0, 1) := by decide +kernel
theorem dX11_isPercent_5 : decode cX11_isPercent 5 = .ok (.bipush 100, 2) := by decide +kernel
theorem dX11_isPercent_7 : decode cX11_isPercent 7 = .ok (.if_icmp .gt 7, 3) := by decide +kernel
theorem dX11_isPercent_10 : decode cX11_isPercent 10 = .ok (.iconst 1, 1) := by decide +kernel
theorem dX11_isPercent_11 : decode cX11_isPercent 11 = .ok (.goto 4, 3) := by decide +kernel
theorem dX11_isPercent_14 : decode cX11_isPercent 14 = .ok (.iconst 0, 1) := by decide +kernel
theorem dX11_isPercent_15 : decode cX11_isPercent 15 = .ok (.ireturn, 1) := by decide +kernel
def f_X11_isPercent (S : HSt) (a0 : Int32) : Option (Int32 × HSt) := if a0 < 0 then (some (0, S)) else (if 100 < a0 then (some (0, S)) else (some (1, S)))
abbrev rm_X11_isPercent : Room := { frames := 0, cells := 0, slots := 0, locals := 0 }
abbrev w_X11_isPercent : List Cond := Cond.code yX11_isPercent cX11_isPercent 1 (Option.some FieldType.boolean) :: lwG
theorem yd_X11_isPercent : yX11_isPercent.cls ≠ "java/lang/invoke/MethodHandle" ∧ yX11_isPercent.cls ≠ "java/lang/invoke/VarHandle" ∧ (parseMethodDescriptor yX11_isPercent.desc).map (fun d => d.parameters.length) = some 1 := by decide +kernel
set_option maxHeartbeats 4000000 in
set_option maxRecDepth 100000 in
theorem c_X11_isPercent (l : Launch) (D : va_G) (kA ρ : Nat → Nat) (HB : Heap) (S : HSt) (a0 : Int32) (res : Int32 × HSt) (h : f_X11_isPercent S a0 = some res) : Met l yX11_isPercent w_X11_isPercent rm_X11_isPercent (hPc D kA ρ HB S [.int a0]) (hQi D kA HB S res) 0 0 (hFree HB) := by
  refine Met.ofW (cc := cX11_isPercent) (maxL := 1) (ret := (Option.some FieldType.boolean)) (by decide) rfl ?_
  intro p e s m args below meth c s₁ B hml hv
  obtain ⟨rfl, hE, h0⟩ := hv
  have hx := B.exec
  have hb := B.bytes
  have hr := B.returns
  have hts0 := atoms_spec (ws := w_X11_isPercent) B.pre
  have hts : ∀ w ∈ lwG, w.before _ s = true := fun w hw => hts0 w (List.mem_cons_of_mem _ hw)
  have hown : s.vm.findClass RX11 = some m.cls := findClass_of_methodNamed B.named
  have hlocks := B.notSynchronized
  have hI : hqX D kA HB S.2 S s.heap [] := ⟨h0, Nat.le_refl _, fun _ q => absurd q List.not_mem_nil⟩
  have hl := lv_entry ([.int a0]) (n := 1) (Nat.le_of_ble_eq_true rfl)
  rw [lg_entry_eq]
  generalize (lg_sl ([.int a0]) ++ List.replicate (1 - (lg_sl ([.int a0])).length) Slot.unset).toArray = ls at hl ⊢
  have hl : lv_has ls 1 [(0, .int a0)] := hl
  unfold f_X11_isPercent at h
  refine lv_iload_n hx hb dX11_isPercent_0 rfl (lv_at hl 0 rfl) ?_
  refine lv_if_lt (tgt := 14) hx hb dX11_isPercent_1 (by decide) (fun c1 => ?_) (fun c1 => ?_)
  · have h := hq_t h c1
    refine lv_iconst (v := 0) hx hb dX11_isPercent_14 (by decide) ?_
    exact hq_zret hx hb hr hlocks h0 hI (by decide) h dX11_isPercent_15
  · have h := hq_f h c1
    refine lv_iload_n hx hb dX11_isPercent_4 rfl (lv_at hl 0 rfl) ?_
    refine lv_bipush (v := 100) hx hb dX11_isPercent_5 (by decide) ?_
    refine lv_icmp_gt (tgt := 14) hx hb dX11_isPercent_7 (by decide) (fun c2 => ?_) (fun c2 => ?_)
    · have h := hq_t h c2
      refine lv_iconst (v := 0) hx hb dX11_isPercent_14 (by decide) ?_
      exact hq_zret hx hb hr hlocks h0 hI (by decide) h dX11_isPercent_15
    · have h := hq_f h c2
      refine lv_iconst (v := 1) hx hb dX11_isPercent_10 (by decide) ?_
      refine lv_goto (tgt := 15) hx hb dX11_isPercent_11 (by decide) ?_
      exact hq_zret hx hb hr hlocks h0 hI (by decide) h dX11_isPercent_15
-- RodDips.isPlace(I)Z
theorem dX11_isPlace_0 : decode cX11_isPlace 0 = .ok (.iload_n 1, 1) := by decide +kernel
theorem dX11_isPlace_1 : decode cX11_isPlace 1 = .ok (.ifCond .lt 15, 3) := by decide +kernel
theorem dX11_isPlace_4 : decode cX11_isPlace 4 = .ok (.iload_n 1, 1) := by decide +kernel
theorem dX11_isPlace_5 : decode cX11_isPlace 5 = .ok (.aload_n 0, 1) := by decide +kernel
theorem dX11_isPlace_6 : decode cX11_isPlace 6 = .ok (.getfield 11, 3) := by decide +kernel
theorem dX11_isPlace_9 : decode cX11_isPlace 9 = .ok (.if_icmp .ge 7, 3) := by decide +kernel
theorem dX11_isPlace_12 : decode cX11_isPlace 12 = .ok (.iconst 1, 1) := by decide +kernel
theorem dX11_isPlace_13 : decode cX11_isPlace 13 = .ok (.goto 4, 3) := by decide +kernel
theorem dX11_isPlace_16 : decode cX11_isPlace 16 = .ok (.iconst 0, 1) := by decide +kernel
theorem dX11_isPlace_17 : decode cX11_isPlace 17 = .ok (.ireturn, 1) := by decide +kernel
def f_X11_isPlace (S : HSt) (a0 : Nat) (a1 : Int32) : Option (Int32 × HSt) := if a1 < 0 then (some (0, S)) else ((gI S a0 11 0).bind fun v2 => if v2 ≤ a1 then (some (0, S)) else (some (1, S)))
abbrev rm_X11_isPlace : Room := { frames := 0, cells := 0, slots := 0, locals := 0 }
abbrev w_X11_isPlace : List Cond := Cond.code yX11_isPlace cX11_isPlace 2 (Option.some FieldType.boolean) :: lwG
theorem yd_X11_isPlace : yX11_isPlace.cls ≠ "java/lang/invoke/MethodHandle" ∧ yX11_isPlace.cls ≠ "java/lang/invoke/VarHandle" ∧ (parseMethodDescriptor yX11_isPlace.desc).map (fun d => d.parameters.length) = some 1 := by decide +kernel
theorem ye_X11_isPlace : yX11_isPlace.cls = RX11 ∧ yX11_isPlace.cls ≠ "java/lang/invoke/MethodHandle" ∧ yX11_isPlace.cls ≠ "java/lang/invoke/VarHandle" ∧ (parseMethodDescriptor yX11_isPlace.desc).map (fun d => d.parameters.length) = some 1 := by decide +kernel
set_option maxHeartbeats 4000000 in
set_option maxRecDepth 100000 in
theorem c_X11_isPlace (l : Launch) (D : va_G) (kA ρ : Nat → Nat) (HB : Heap) (S : HSt) (a0 : Nat) (a1 : Int32) (res : Int32 × HSt) (h : f_X11_isPlace S a0 a1 = some res) : Met l yX11_isPlace w_X11_isPlace rm_X11_isPlace (hPc D kA ρ HB S [.ref a0, .int a1]) (hQi D kA HB S res) 0 0 (hFree HB) := by
  refine Met.ofW (cc := cX11_isPlace) (maxL := 2) (ret := (Option.some FieldType.boolean)) (by decide) rfl ?_
  intro p e s m args below meth c s₁ B hml hv
  obtain ⟨rfl, hE, h0⟩ := hv
  have hx := B.exec
  have hb := B.bytes
  have hr := B.returns
  have hts0 := atoms_spec (ws := w_X11_isPlace) B.pre
  have hts : ∀ w ∈ lwG, w.before _ s = true := fun w hw => hts0 w (List.mem_cons_of_mem _ hw)
  have hown : s.vm.findClass RX11 = some m.cls := findClass_of_methodNamed B.named
  have hlocks := B.notSynchronized
  have hI : hqX D kA HB S.2 S s.heap [] := ⟨h0, Nat.le_refl _, fun _ q => absurd q List.not_mem_nil⟩
  have hl := lv_entry ([.ref a0, .int a1]) (n := 2) (Nat.le_of_ble_eq_true rfl)
  rw [lg_entry_eq]
  generalize (lg_sl ([.ref a0, .int a1]) ++ List.replicate (2 - (lg_sl ([.ref a0, .int a1])).length) Slot.unset).toArray = ls at hl ⊢
  have hl : lv_has ls 2 [(0, .ref a0), (1, .int a1)] := hl
  unfold f_X11_isPlace at h
  refine lv_iload_n hx hb dX11_isPlace_0 rfl (lv_at hl 1 rfl) ?_
  refine lv_if_lt (tgt := 16) hx hb dX11_isPlace_1 (by decide) (fun c1 => ?_) (fun c1 => ?_)
  · have h := hq_t h c1
    refine lv_iconst (v := 0) hx hb dX11_isPlace_16 (by decide) ?_
    exact hq_zret hx hb hr hlocks h0 hI (by decide) h dX11_isPlace_17
  · have h := hq_f h c1
    refine lv_iload_n hx hb dX11_isPlace_4 rfl (lv_at hl 1 rfl) ?_
    refine lv_aload_n hx hb dX11_isPlace_5 rfl (lv_at hl 0 rfl) ?_
    obtain ⟨v2, g3, h⟩ := hq_bind h
    obtain ⟨fs_g3, hs_g3, hv_g3⟩ := gI_at g3
    refine hq_get hx hb hts hown hE hI hs_g3 inG11 rfl 0 (by decide) kw_132 hv_g3 dX11_isPlace_6 ?_
    refine lv_icmp_ge (tgt := 16) hx hb dX11_isPlace_9 (by decide) (fun c4 => ?_) (fun c4 => ?_)
    · have h := hq_t h c4
      refine lv_iconst (v := 0) hx hb dX11_isPlace_16 (by decide) ?_
      exact hq_zret hx hb hr hlocks h0 hI (by decide) h dX11_isPlace_17
    · have h := hq_f h c4
      refine lv_iconst (v := 1) hx hb dX11_isPlace_12 (by decide) ?_
      refine lv_goto (tgt := 17) hx hb dX11_isPlace_13 (by decide) ?_
      exact hq_zret hx hb hr hlocks h0 hI (by decide) h dX11_isPlace_17
-- RodDips.isSet(I)Z
theorem dX11_isSet_0 : decode cX11_isSet 0 = .ok (.iload_n 1, 1) := by decide +kernel
theorem dX11_isSet_1 : decode cX11_isSet 1 = .ok (.aload_n 0, 1) := by decide +kernel
theorem dX11_isSet_2 : decode cX11_isSet 2 = .ok (.getfield 21, 3) := by decide +kernel
theorem dX11_isSet_5 : decode cX11_isSet 5 = .ok (.ishr, 1) := by decide +kernel
theorem dX11_isSet_6 : decode cX11_isSet 6 = .ok (.ifCond .ne 7, 3) := by decide +kernel
theorem dX11_isSet_9 : decode cX11_isSet 9 = .ok (.iconst 1, 1) := by decide +kernel
theorem dX11_isSet_10 : decode cX11_isSet 10 = .ok (.goto 4, 3) := by decide +kernel
theorem dX11_isSet_13 : decode cX11_isSet 13 = .ok (.iconst 0, 1) := by decide +kernel
theorem dX11_isSet_14 : decode cX11_isSet 14 = .ok (.ireturn, 1) := by decide +kernel
def f_X11_isSet (S : HSt) (a0 : Nat) (a1 : Int32) : Option (Int32 × HSt) := (gI S a0 11 2).bind fun v1 => if (a1 >>> (v1 &&& 31)) = 0 then (some (1, S)) else (some (0, S))
abbrev rm_X11_isSet : Room := { frames := 0, cells := 0, slots := 0, locals := 0 }
abbrev w_X11_isSet : List Cond := Cond.code yX11_isSet cX11_isSet 2 (Option.some FieldType.boolean) :: lwG
theorem yd_X11_isSet : yX11_isSet.cls ≠ "java/lang/invoke/MethodHandle" ∧ yX11_isSet.cls ≠ "java/lang/invoke/VarHandle" ∧ (parseMethodDescriptor yX11_isSet.desc).map (fun d => d.parameters.length) = some 1 := by decide +kernel
theorem ye_X11_isSet : yX11_isSet.cls = RX11 ∧ yX11_isSet.cls ≠ "java/lang/invoke/MethodHandle" ∧ yX11_isSet.cls ≠ "java/lang/invoke/VarHandle" ∧ (parseMethodDescriptor yX11_isSet.desc).map (fun d => d.parameters.length) = some 1 := by decide +kernel
set_option maxHeartbeats 4000000 in
set_option maxRecDepth 100000 in
theorem c_X11_isSet (l : Launch) (D : va_G) (kA ρ : Nat → Nat) (HB : Heap) (S : HSt) (a0 : Nat) (a1 : Int32) (res : Int32 × HSt) (h : f_X11_isSet S a0 a1 = some res) : Met l yX11_isSet w_X11_isSet rm_X11_isSet (hPc D kA ρ HB S [.ref a0, .int a1]) (hQi D kA HB S res) 0 0 (hFree HB) := by
  refine Met.ofW (cc := cX11_isSet) (maxL := 2) (ret := (Option.some FieldType.boolean)) (by decide) rfl ?_
  intro p e s m args below meth c s₁ B hml hv
  obtain ⟨rfl, hE, h0⟩ := hv
  have hx := B.exec
  have hb := B.bytes
  have hr := B.returns
  have hts0 := atoms_spec (ws := w_X11_isSet) B.pre
  have hts : ∀ w ∈ lwG, w.before _ s = true := fun w hw => hts0 w (List.mem_cons_of_mem _ hw)
  have hown : s.vm.findClass RX11 = some m.cls := findClass_of_methodNamed B.named
  have hlocks := B.notSynchronized
  have hI : hqX D kA HB S.2 S s.heap [] := ⟨h0, Nat.le_refl _, fun _ q => absurd q List.not_mem_nil⟩
  have hl := lv_entry ([.ref a0, .int a1]) (n := 2) (Nat.le_of_ble_eq_true rfl)
  rw [lg_entry_eq]
  generalize (lg_sl ([.ref a0, .int a1]) ++ List.replicate (2 - (lg_sl ([.ref a0, .int a1])).length) Slot.unset).toArray = ls at hl ⊢
  have hl : lv_has ls 2 [(0, .ref a0), (1, .int a1)] := hl
  unfold f_X11_isSet at h
  refine lv_iload_n hx hb dX11_isSet_0 rfl (lv_at hl 1 rfl) ?_
  refine lv_aload_n hx hb dX11_isSet_1 rfl (lv_at hl 0 rfl) ?_
  obtain ⟨v1, g2, h⟩ := hq_bind h
  obtain ⟨fs_g2, hs_g2, hv_g2⟩ := gI_at g2
  refine hq_get hx hb hts hown hE hI hs_g2 inG11 rfl 2 (by decide) kw_134 hv_g2 dX11_isSet_2 ?_
  refine lv_ishr hx hb dX11_isSet_5 ?_
  refine lv_if_ne (tgt := 13) hx hb dX11_isSet_6 (by decide) (fun c3 => ?_) (fun c3 => ?_)
  · have h := hq_f h c3
    refine lv_iconst (v := 0) hx hb dX11_isSet_13 (by decide) ?_
    exact hq_zret hx hb hr hlocks h0 hI (by decide) h dX11_isSet_14
  · have h := hq_t h c3
    refine lv_iconst (v := 1) hx hb dX11_isSet_9 (by decide) ?_
    refine lv_goto (tgt := 14) hx hb dX11_isSet_10 (by decide) ?_
    exact hq_zret hx hb hr hlocks h0 hI (by decide) h dX11_isSet_14
-- RodDips.isKindOrUnder(II)Z
theorem dX11_isKindOrUnder_0 : decode cX11_isKindOrUnder 0 = .ok (.iload_n 0, 1) := by decide +kernel
theorem dX11_isKindOrUnder_1 : decode cX11_isKindOrUnder 1 = .ok (.istore_n 2, 1) := by decide +kernel
theorem dX11_isKindOrUnder_2 : decode cX11_isKindOrUnder 2 = .ok (.iconst 0, 1) := by decide +kernel
theorem dX11_isKindOrUnder_3 : decode cX11_isKindOrUnder 3 = .ok (.istore_n 3, 1) := by decide +kernel
theorem dX11_isKindOrUnder_4 : decode cX11_isKindOrUnder 4 = .ok (.iload_n 3, 1) := by decide +kernel
theorem dX11_isKindOrUnder_5 : decode cX11_isKindOrUnder 5 = .ok (.bipush 7, 2) := by decide +kernel
theorem dX11_isKindOrUnder_7 : decode cX11_isKindOrUnder 7 = .ok (.if_icmp .ge 34, 3) := by decide +kernel
theorem dX11_isKindOrUnder_10 : decode cX11_isKindOrUnder 10 = .ok (.iload_n 2, 1) := by decide +kernel
theorem dX11_isKindOrUnder_11 : decode cX11_isKindOrUnder 11 = .ok (.ifCond .lt 30, 3) := by decide +kernel
theorem dX11_isKindOrUnder_14 : decode cX11_isKindOrUnder 14 = .ok (.iload_n 2, 1) := by decide +kernel
theorem dX11_isKindOrUnder_15 : decode cX11_isKindOrUnder 15 = .ok (.getstatic 292, 3) := by decide +kernel
theorem dX11_isKindOrUnder_18 : decode cX11_isKindOrUnder 18 = .ok (.arraylength, 1) := by decide +kernel
theorem dX11_isKindOrUnder_19 : decode cX11_isKindOrUnder 19 = .ok (.if_icmp .ge 22, 3) := by decide +kernel
theorem dX11_isKindOrUnder_22 : decode cX11_isKindOrUnder 22 = .ok (.iload_n 2, 1) := by decide +kernel
theorem dX11_isKindOrUnder_23 : decode cX11_isKindOrUnder 23 = .ok (.iload_n 1, 1) := by decide +kernel
theorem dX11_isKindOrUnder_24 : decode cX11_isKindOrUnder 24 = .ok (.if_icmp .ne 5, 3) := by decide +kernel
theorem dX11_isKindOrUnder_27 : decode cX11_isKindOrUnder 27 = .ok (.iconst 1, 1) := by decide +kernel
theorem dX11_isKindOrUnder_28 : decode cX11_isKindOrUnder 28 = .ok (.ireturn, 1) := by decide +kernel
theorem dX11_isKindOrUnder_29 : decode cX11_isKindOrUnder 29 = .ok (.getstatic 292, 3) := by decide +kernel
theorem dX11_isKindOrUnder_32 : decode cX11_isKindOrUnder 32 = .ok (.iload_n 2, 1) := by decide +kernel
theorem dX11_isKindOrUnder_33 : decode cX11_isKindOrUnder 33 = .ok (.iaload, 1) := by decide +kernel
theorem dX11_isKindOrUnder_34 : decode cX11_isKindOrUnder 34 = .ok (.istore_n 2, 1) := by decide +kernel
theorem dX11_isKindOrUnder_35 : decode cX11_isKindOrUnder 35 = .ok (.iinc 3 1, 3) := by decide +kernel
theorem dX11_isKindOrUnder_38 : decode cX11_isKindOrUnder 38 = .ok (.goto (-34), 3) := by decide +kernel
theorem dX11_isKindOrUnder_41 : decode cX11_isKindOrUnder 41 = .ok (.iconst 0, 1) := by decide +kernel
theorem dX11_isKindOrUnder_42 : decode cX11_isKindOrUnder 42 = .ok (.ireturn, 1) := by decide +kernel
def f_X11_isKindOrUnder_K41 (S1 : HSt) : Option (Int32 × HSt) := some (0, S1)
def f_X11_isKindOrUnder_B4 (a1 : Int32) (kx41 : (HSt → Option (Int32 × HSt))) (kb4 : (Int32 → Int32 → HSt → Option (Int32 × HSt))) (x2 : Int32) (x3 : Int32) (S4 : HSt) : Option (Int32 × HSt) := if 7 ≤ x3 then (kx41 S4) else (if x2 < 0 then (kx41 S4) else (if 7 ≤ x2 then (kx41 S4) else (if x2 = a1 then (some (1, S4)) else ((kab x2).bind fun v10 => kb4 v10 (x3 + 1) S4))))
def f_X11_isKindOrUnder_L4 (a1 : Int32) (kx41 : (HSt → Option (Int32 × HSt))) : Nat → Int32 → Int32 → HSt → Option (Int32 × HSt)
  | 0, _, _, _ => none
  | n + 1, x2, x3, S => f_X11_isKindOrUnder_B4 a1 kx41 (f_X11_isKindOrUnder_L4 a1 kx41 n) x2 x3 S
def f_X11_isKindOrUnder (ρ : Nat → Nat) (S : HSt) (a0 : Int32) (a1 : Int32) : Option (Int32 × HSt) := (f_X11_isKindOrUnder_L4 a1 f_X11_isKindOrUnder_K41 FU) a0 0 S
abbrev rm_X11_isKindOrUnder : Room := { frames := 0, cells := 0, slots := 0, locals := 0 }
abbrev w_X11_isKindOrUnder : List Cond := Cond.code yX11_isKindOrUnder cX11_isKindOrUnder 4 (Option.some FieldType.boolean) :: lwG
theorem yd_X11_isKindOrUnder : yX11_isKindOrUnder.cls ≠ "java/lang/invoke/MethodHandle" ∧ yX11_isKindOrUnder.cls ≠ "java/lang/invoke/VarHandle" ∧ (parseMethodDescriptor yX11_isKindOrUnder.desc).map (fun d => d.parameters.length) = some 2 := by decide +kernel
set_option maxHeartbeats 4000000 in
set_option maxRecDepth 100000 in
theorem c_X11_isKindOrUnder (l : Launch) (D : va_G) (kA ρ : Nat → Nat) (HB : Heap) (S : HSt) (a0 : Int32) (a1 : Int32) (res : Int32 × HSt) (h : f_X11_isKindOrUnder ρ S a0 a1 = some res) : Met l yX11_isKindOrUnder w_X11_isKindOrUnder rm_X11_isKindOrUnder (hPc D kA ρ HB S [.int a0, .int a1]) (hQi D kA HB S res) 0 0 (hFree HB) := by
  refine Met.ofW (cc := cX11_isKindOrUnder) (maxL := 4) (ret := (Option.some FieldType.boolean)) (by decide) rfl ?_
  intro p e s m args below meth c s₁ B hml hv
  obtain ⟨rfl, hE, h0⟩ := hv
  have hx := B.exec
  have hb := B.bytes
  have hr := B.returns
  have hts0 := atoms_spec (ws := w_X11_isKindOrUnder) B.pre
  have hts : ∀ w ∈ lwG, w.before _ s = true := fun w hw => hts0 w (List.mem_cons_of_mem _ hw)
  have hown : s.vm.findClass RX11 = some m.cls := findClass_of_methodNamed B.named
  have hlocks := B.notSynchronized
  have hI : hqX D kA HB S.2 S s.heap [] := ⟨h0, Nat.le_refl _, fun _ q => absurd q List.not_mem_nil⟩
  have hl := lv_entry ([.int a0, .int a1]) (n := 4) (Nat.le_of_ble_eq_true rfl)
  rw [lg_entry_eq]
  generalize (lg_sl ([.int a0, .int a1]) ++ List.replicate (4 - (lg_sl ([.int a0, .int a1])).length) Slot.unset).toArray = ls at hl ⊢
  have hl : lv_has ls 4 [(0, .int a0), (1, .int a1)] := hl
  unfold f_X11_isKindOrUnder at h
  refine lv_iload_n hx hb dX11_isKindOrUnder_0 rfl (lv_at hl 0 rfl) ?_
  refine lv_istore_n (lv' := [(2, .int a0), (0, .int a0), (1, .int a1)]) hx hb dX11_isKindOrUnder_1 rfl hl (by decide) rfl (fun ls hl => ?_)
  refine lv_iconst (v := 0) hx hb dX11_isKindOrUnder_2 (by decide) ?_
  refine lv_istore_n (lv' := [(3, .int 0), (2, .int a0), (0, .int a0), (1, .int a1)]) hx hb dX11_isKindOrUnder_3 rfl hl (by decide) rfl (fun ls hl => ?_)
  have hK41 : ∀ (S1 : HSt) (H : Heap) (locs : List Loc) (ls : Array Slot), f_X11_isKindOrUnder_K41 S1 = some res → hqX D kA HB S.2 S1 H locs → lv_has ls 4 [] → W p l e rm_X11_isKindOrUnder s m ([.int a0, .int a1] : List Value).toArray below meth c H locs 0 0 (MQ below (hQi D kA HB S res) ([.int a0, .int a1] : List Value).toArray s 0 0 (hFree HB)) (F0 m 41 ls []) := by
    intro S1 H locs ls h hI hl
    unfold f_X11_isKindOrUnder_K41 at h
    refine lv_iconst (v := 0) hx hb dX11_isKindOrUnder_41 (by decide) ?_
    exact hq_zret hx hb hr hlocks h0 hI (by decide) h dX11_isKindOrUnder_42
  have hL4 : ∀ (n4 : Nat) (x2 : Int32) (x3 : Int32) (S4 : HSt) (H : Heap) (locs : List Loc) (ls : Array Slot), (f_X11_isKindOrUnder_L4 a1 f_X11_isKindOrUnder_K41 n4) x2 x3 S4 = some res → hqX D kA HB S.2 S4 H locs → lv_has ls 4 [(1, .int a1), (2, .int x2), (3, .int x3)] → W p l e rm_X11_isKindOrUnder s m ([.int a0, .int a1] : List Value).toArray below meth c H locs 0 0 (MQ below (hQi D kA HB S res) ([.int a0, .int a1] : List Value).toArray s 0 0 (hFree HB)) (F0 m 4 ls []) := by
    intro n4
    induction n4 with
    | zero =>
      intro x2 x3 S4 H locs ls h
      have h : (none : Option (Int32 × HSt)) = some res := h
      cases h
    | succ n4 ih4 =>
      intro x2 x3 S4 H locs ls h hI hl
      have h : f_X11_isKindOrUnder_B4 a1 f_X11_isKindOrUnder_K41 (f_X11_isKindOrUnder_L4 a1 f_X11_isKindOrUnder_K41 n4) x2 x3 S4 = some res := h
      unfold f_X11_isKindOrUnder_B4 at h
      refine lv_iload_n hx hb dX11_isKindOrUnder_4 rfl (lv_at hl 2 rfl) ?_
      refine lv_bipush (v := 7) hx hb dX11_isKindOrUnder_5 (by decide) ?_
      refine lv_icmp_ge (tgt := 41) hx hb dX11_isKindOrUnder_7 (by decide) (fun c5 => ?_) (fun c5 => ?_)
      · have h := hq_t h c5
        exact hK41 S4 _ _ _ h hI (lv_sub hl [] rfl)
      · have h := hq_f h c5
        refine lv_iload_n hx hb dX11_isKindOrUnder_10 rfl (lv_at hl 1 rfl) ?_
        refine lv_if_lt (tgt := 41) hx hb dX11_isKindOrUnder_11 (by decide) (fun c6 => ?_) (fun c6 => ?_)
        · have h := hq_t h c6
          exact hK41 S4 _ _ _ h hI (lv_sub hl [] rfl)
        · have h := hq_f h c6
          refine lv_iload_n hx hb dX11_isKindOrUnder_14 rfl (lv_at hl 1 rfl) ?_
          refine hq_kabs hx hb hts hown hE h0 hI kw_917 dX11_isKindOrUnder_15 ?_
          refine hq_kabn hx hb hE h0 hI dX11_isKindOrUnder_18 ?_
          refine lv_icmp_ge (tgt := 41) hx hb dX11_isKindOrUnder_19 (by decide) (fun c7 => ?_) (fun c7 => ?_)
          · have h := hq_t h c7
            exact hK41 S4 _ _ _ h hI (lv_sub hl [] rfl)
          · have h := hq_f h c7
            refine lv_iload_n hx hb dX11_isKindOrUnder_22 rfl (lv_at hl 1 rfl) ?_
            refine lv_iload_n hx hb dX11_isKindOrUnder_23 rfl (lv_at hl 0 rfl) ?_
            refine lv_icmp_ne (tgt := 29) hx hb dX11_isKindOrUnder_24 (by decide) (fun c8 => ?_) (fun c8 => ?_)
            · have h := hq_f h c8
              refine hq_kabs hx hb hts hown hE h0 hI kw_917 dX11_isKindOrUnder_29 ?_
              refine lv_iload_n hx hb dX11_isKindOrUnder_32 rfl (lv_at hl 1 rfl) ?_
              obtain ⟨v10, g9, h⟩ := hq_bind h
              refine hq_kabi hx hb hE h0 hI g9 dX11_isKindOrUnder_33 ?_
              refine lv_istore_n (lv' := [(2, .int v10), (1, .int a1), (3, .int x3)]) hx hb dX11_isKindOrUnder_34 rfl hl (by decide) rfl (fun ls hl => ?_)
              refine lv_iinc (v := (x3 + 1)) (lv' := [(3, .int (x3 + 1)), (2, .int v10), (1, .int a1)]) hx hb dX11_isKindOrUnder_35 hl (k := 2) rfl rfl (by decide) rfl (fun ls hl => ?_)
              refine lv_goto (tgt := 4) hx hb dX11_isKindOrUnder_38 (by decide) ?_
              exact ih4 v10 (x3 + 1) S4 _ _ _ h hI (lv_sub hl [2, 1, 0] rfl)
            · have h := hq_t h c8
              refine lv_iconst (v := 1) hx hb dX11_isKindOrUnder_27 (by decide) ?_
              exact hq_zret hx hb hr hlocks h0 hI (by decide) h dX11_isKindOrUnder_28
  exact hL4 FU a0 0 S _ _ _ h hI (lv_sub hl [3, 1, 0] rfl)
-- RodDips.tryAt(I)LRodDips$Try;
theorem dX11_tryAt_0 : decode cX11_tryAt 0 = .ok (.iload_n 1, 1) := by decide +kernel
theorem dX11_tryAt_1 : decode cX11_tryAt 1 = .ok (.ifCond .lt 29, 3) := by decide +kernel
theorem dX11_tryAt_4 : decode cX11_tryAt 4 = .ok (.iload_n 1, 1) := by decide +kernel
theorem dX11_tryAt_5 : decode cX11_tryAt 5 = .ok (.aload_n 0, 1) := by decide +kernel
theorem dX11_tryAt_6 : decode cX11_tryAt 6 = .ok (.getfield 21, 3) := by decide +kernel
theorem dX11_tryAt_9 : decode cX11_tryAt 9 = .ok (.if_icmp .ge 21, 3) := by decide +kernel
theorem dX11_tryAt_12 : decode cX11_tryAt 12 = .ok (.iload_n 1, 1) := by decide +kernel
theorem dX11_tryAt_13 : decode cX11_tryAt 13 = .ok (.aload_n 0, 1) := by decide +kernel
theorem dX11_tryAt_14 : decode cX11_tryAt 14 = .ok (.getfield 17, 3) := by decide +kernel
theorem dX11_tryAt_17 : decode cX11_tryAt 17 = .ok (.arraylength, 1) := by decide +kernel
theorem dX11_tryAt_18 : decode cX11_tryAt 18 = .ok (.if_icmp .ge 12, 3) := by decide +kernel
theorem dX11_tryAt_21 : decode cX11_tryAt 21 = .ok (.aload_n 0, 1) := by decide +kernel
theorem dX11_tryAt_22 : decode cX11_tryAt 22 = .ok (.getfield 17, 3) := by decide +kernel
theorem dX11_tryAt_25 : decode cX11_tryAt 25 = .ok (.iload_n 1, 1) := by decide +kernel
theorem dX11_tryAt_26 : decode cX11_tryAt 26 = .ok (.aaload, 1) := by decide +kernel
theorem dX11_tryAt_27 : decode cX11_tryAt 27 = .ok (.goto 4, 3) := by decide +kernel
theorem dX11_tryAt_30 : decode cX11_tryAt 30 = .ok (.aconst_null, 1) := by decide +kernel
theorem dX11_tryAt_31 : decode cX11_tryAt 31 = .ok (.areturn, 1) := by decide +kernel
def f_X11_tryAt (S : HSt) (a0 : Nat) (a1 : Int32) : Option (Option Nat × HSt) := if a1 < 0 then (some (none, S)) else ((gI S a0 11 2).bind fun v2 => if v2 ≤ a1 then (some (none, S)) else ((gR S a0 11 1).bind fun b5 => (aN S b5).bind fun v7 => if v7 ≤ a1 then (some (none, S)) else ((gR S a0 11 1).bind fun b10 => (aQ S b10 4 a1).bind fun b13 => oC b13 (some (none, S)) fun r14 => some (some r14, S))))
abbrev rm_X11_tryAt : Room := { frames := 0, cells := 0, slots := 0, locals := 0 }
abbrev w_X11_tryAt : List Cond := Cond.code yX11_tryAt cX11_tryAt 2 (Option.some (FieldType.object "RodDips$Try")) :: lwG
theorem yd_X11_tryAt : yX11_tryAt.cls ≠ "java/lang/invoke/MethodHandle" ∧ yX11_tryAt.cls ≠ "java/lang/invoke/VarHandle" ∧ (parseMethodDescriptor yX11_tryAt.desc).map (fun d => d.parameters.length) = some 1 := by decide +kernel
theorem ye_X11_tryAt : yX11_tryAt.cls = RX11 ∧ yX11_tryAt.cls ≠ "java/lang/invoke/MethodHandle" ∧ yX11_tryAt.cls ≠ "java/lang/invoke/VarHandle" ∧ (parseMethodDescriptor yX11_tryAt.desc).map (fun d => d.parameters.length) = some 1 := by decide +kernel
set_option maxHeartbeats 4000000 in
set_option maxRecDepth 100000 in
theorem c_X11_tryAt (l : Launch) (D : va_G) (kA ρ : Nat → Nat) (HB : Heap) (S : HSt) (a0 : Nat) (a1 : Int32) (res : Option Nat × HSt) (h : f_X11_tryAt S a0 a1 = some res) : Met l yX11_tryAt w_X11_tryAt rm_X11_tryAt (hPc D kA ρ HB S [.ref a0, .int a1]) (hQq D kA HB S res) 0 0 (hFree HB) := by
  refine Met.ofW (cc := cX11_tryAt) (maxL := 2) (ret := (Option.some (FieldType.object "RodDips$Try"))) (by decide) rfl ?_
  intro p e s m args below meth c s₁ B hml hv
  obtain ⟨rfl, hE, h0⟩ := hv
  have hx := B.exec
  have hb := B.bytes
  have hr := B.returns
  have hts0 := atoms_spec (ws := w_X11_tryAt) B.pre
  have hts : ∀ w ∈ lwG, w.before _ s = true := fun w hw => hts0 w (List.mem_cons_of_mem _ hw)
  have hown : s.vm.findClass RX11 = some m.cls := findClass_of_methodNamed B.named
  have hlocks := B.notSynchronized
  have hI : hqX D kA HB S.2 S s.heap [] := ⟨h0, Nat.le_refl _, fun _ q => absurd q List.not_mem_nil⟩
  have hl := lv_entry ([.ref a0, .int a1]) (n := 2) (Nat.le_of_ble_eq_true rfl)
  rw [lg_entry_eq]
  generalize (lg_sl ([.ref a0, .int a1]) ++ List.replicate (2 - (lg_sl ([.ref a0, .int a1])).length) Slot.unset).toArray = ls at hl ⊢
  have hl : lv_has ls 2 [(0, .ref a0), (1, .int a1)] := hl
  unfold f_X11_tryAt at h
  refine lv_iload_n hx hb dX11_tryAt_0 rfl (lv_at hl 1 rfl) ?_
  refine lv_if_lt (tgt := 30) hx hb dX11_tryAt_1 (by decide) (fun c1 => ?_) (fun c1 => ?_)
  · have h := hq_t h c1
    refine lv_null hx hb dX11_tryAt_30 ?_
    exact hq_aret (v := none) hx hb hr hlocks h0 hI h dX11_tryAt_31
  · have h := hq_f h c1
    refine lv_iload_n hx hb dX11_tryAt_4 rfl (lv_at hl 1 rfl) ?_
    refine lv_aload_n hx hb dX11_tryAt_5 rfl (lv_at hl 0 rfl) ?_
    obtain ⟨v2, g3, h⟩ := hq_bind h
    obtain ⟨fs_g3, hs_g3, hv_g3⟩ := gI_at g3
    refine hq_get hx hb hts hown hE hI hs_g3 inG11 rfl 2 (by decide) kw_134 hv_g3 dX11_tryAt_6 ?_
    refine lv_icmp_ge (tgt := 30) hx hb dX11_tryAt_9 (by decide) (fun c4 => ?_) (fun c4 => ?_)
    · have h := hq_t h c4
      refine lv_null hx hb dX11_tryAt_30 ?_
      exact hq_aret (v := none) hx hb hr hlocks h0 hI h dX11_tryAt_31
    · have h := hq_f h c4
      refine lv_iload_n hx hb dX11_tryAt_12 rfl (lv_at hl 1 rfl) ?_
      refine lv_aload_n hx hb dX11_tryAt_13 rfl (lv_at hl 0 rfl) ?_
      obtain ⟨b5, g6, h⟩ := hq_bind h
      obtain ⟨fs_g6, hs_g6, hv_g6⟩ := gR_at g6
      refine hq_get hx hb hts hown hE hI hs_g6 inG11 rfl 1 (by decide) kw_133 hv_g6 dX11_tryAt_14 ?_
      obtain ⟨v7, g8, h⟩ := hq_bind h
      refine hq_alen hx hb hE hI g8 dX11_tryAt_17 ?_
      refine lv_icmp_ge (tgt := 30) hx hb dX11_tryAt_18 (by decide) (fun c9 => ?_) (fun c9 => ?_)
      · have h := hq_t h c9
        refine lv_null hx hb dX11_tryAt_30 ?_
        exact hq_aret (v := none) hx hb hr hlocks h0 hI h dX11_tryAt_31
      · have h := hq_f h c9
        refine lv_aload_n hx hb dX11_tryAt_21 rfl (lv_at hl 0 rfl) ?_
        obtain ⟨b10, g11, h⟩ := hq_bind h
        obtain ⟨fs_g11, hs_g11, hv_g11⟩ := gR_at g11
        refine hq_get hx hb hts hown hE hI hs_g11 inG11 rfl 1 (by decide) kw_133 hv_g11 dX11_tryAt_22 ?_
        refine lv_iload_n hx hb dX11_tryAt_25 rfl (lv_at hl 1 rfl) ?_
        obtain ⟨b13, g12, h⟩ := hq_bind h
        refine hq_aald4 hx hb hE hI g12 dX11_tryAt_26 ?_
        rcases b13 with _ | r14
        · have h := oC_n h
          refine lv_goto (tgt := 31) hx hb dX11_tryAt_27 (by decide) ?_
          exact hq_aret (v := none) hx hb hr hlocks h0 hI h dX11_tryAt_31
        · have h := oC_s h
          refine lv_goto (tgt := 31) hx hb dX11_tryAt_27 (by decide) ?_
          exact hq_aret (v := some r14) hx hb hr hlocks h0 hI h dX11_tryAt_31
-- RodDips.planAt(I)LRodDips$Text;
theorem dX11_planAt_0 : decode cX11_planAt 0 = .ok (.iload_n 1, 1) := by decide +kernel
theorem dX11_planAt_1 : decode cX11_planAt 1 = .ok (.ifCond .lt 29, 3) := by decide +kernel
theorem dX11_planAt_4 : decode cX11_planAt 4 = .ok (.iload_n 1, 1) := by decide +kernel
theorem dX11_planAt_5 : decode cX11_planAt 5 = .ok (.aload_n 0, 1) := by decide +kernel
theorem dX11_planAt_6 : decode cX11_planAt 6 = .ok (.getfield 37, 3) := by decide +kernel
theorem dX11_planAt_9 : decode cX11_planAt 9 = .ok (.if_icmp .ge 21, 3) := by decide +kernel
theorem dX11_planAt_12 : decode cX11_planAt 12 = .ok (.iload_n 1, 1) := by decide +kernel
theorem dX11_planAt_13 : decode cX11_planAt 13 = .ok (.aload_n 0, 1) := by decide +kernel
theorem dX11_planAt_14 : decode cX11_planAt 14 = .ok (.getfield 33, 3) := by decide +kernel
theorem dX11_planAt_17 : decode cX11_planAt 17 = .ok (.arraylength, 1) := by decide +kernel
theorem dX11_planAt_18 : decode cX11_planAt 18 = .ok (.if_icmp .ge 12, 3) := by decide +kernel
theorem dX11_planAt_21 : decode cX11_planAt 21 = .ok (.aload_n 0, 1) := by decide +kernel
theorem dX11_planAt_22 : decode cX11_planAt 22 = .ok (.getfield 33, 3) := by decide +kernel
theorem dX11_planAt_25 : decode cX11_planAt 25 = .ok (.iload_n 1, 1) := by decide +kernel
theorem dX11_planAt_26 : decode cX11_planAt 26 = .ok (.aaload, 1) := by decide +kernel
theorem dX11_planAt_27 : decode cX11_planAt 27 = .ok (.goto 4, 3) := by decide +kernel
theorem dX11_planAt_30 : decode cX11_planAt 30 = .ok (.aconst_null, 1) := by decide +kernel
theorem dX11_planAt_31 : decode cX11_planAt 31 = .ok (.areturn, 1) := by decide +kernel
def f_X11_planAt (S : HSt) (a0 : Nat) (a1 : Int32) : Option (Option Nat × HSt) := if a1 < 0 then (some (none, S)) else ((gI S a0 11 5).bind fun v2 => if v2 ≤ a1 then (some (none, S)) else ((gR S a0 11 4).bind fun b5 => (aN S b5).bind fun v7 => if v7 ≤ a1 then (some (none, S)) else ((gR S a0 11 4).bind fun b10 => (aQ S b10 5 a1).bind fun b13 => oC b13 (some (none, S)) fun r14 => some (some r14, S))))
abbrev rm_X11_planAt : Room := { frames := 0, cells := 0, slots := 0, locals := 0 }
abbrev w_X11_planAt : List Cond := Cond.code yX11_planAt cX11_planAt 2 (Option.some (FieldType.object "RodDips$Text")) :: lwG
theorem yd_X11_planAt : yX11_planAt.cls ≠ "java/lang/invoke/MethodHandle" ∧ yX11_planAt.cls ≠ "java/lang/invoke/VarHandle" ∧ (parseMethodDescriptor yX11_planAt.desc).map (fun d => d.parameters.length) = some 1 := by decide +kernel
theorem ye_X11_planAt : yX11_planAt.cls = RX11 ∧ yX11_planAt.cls ≠ "java/lang/invoke/MethodHandle" ∧ yX11_planAt.cls ≠ "java/lang/invoke/VarHandle" ∧ (parseMethodDescriptor yX11_planAt.desc).map (fun d => d.parameters.length) = some 1 := by decide +kernel
set_option maxHeartbeats 4000000 in
set_option maxRecDepth 100000 in
theorem c_X11_planAt (l : Launch) (D : va_G) (kA ρ : Nat → Nat) (HB : Heap) (S : HSt) (a0 : Nat) (a1 : Int32) (res : Option Nat × HSt) (h : f_X11_planAt S a0 a1 = some res) : Met l yX11_planAt w_X11_planAt rm_X11_planAt (hPc D kA ρ HB S [.ref a0, .int a1]) (hQq D kA HB S res) 0 0 (hFree HB) := by
  refine Met.ofW (cc := cX11_planAt) (maxL := 2) (ret := (Option.some (FieldType.object "RodDips$Text"))) (by decide) rfl ?_
  intro p e s m args below meth c s₁ B hml hv
  obtain ⟨rfl, hE, h0⟩ := hv
  have hx := B.exec
  have hb := B.bytes
  have hr := B.returns
  have hts0 := atoms_spec (ws := w_X11_planAt) B.pre
  have hts : ∀ w ∈ lwG, w.before _ s = true := fun w hw => hts0 w (List.mem_cons_of_mem _ hw)
  have hown : s.vm.findClass RX11 = some m.cls := findClass_of_methodNamed B.named
  have hlocks := B.notSynchronized
  have hI : hqX D kA HB S.2 S s.heap [] := ⟨h0, Nat.le_refl _, fun _ q => absurd q List.not_mem_nil⟩
  have hl := lv_entry ([.ref a0, .int a1]) (n := 2) (Nat.le_of_ble_eq_true rfl)
  rw [lg_entry_eq]
  generalize (lg_sl ([.ref a0, .int a1]) ++ List.replicate (2 - (lg_sl ([.ref a0, .int a1])).length) Slot.unset).toArray = ls at hl ⊢
  have hl : lv_has ls 2 [(0, .ref a0), (1, .int a1)] := hl
  unfold f_X11_planAt at h
  refine lv_iload_n hx hb dX11_planAt_0 rfl (lv_at hl 1 rfl) ?_
  refine lv_if_lt (tgt := 30) hx hb dX11_planAt_1 (by decide) (fun c1 => ?_) (fun c1 => ?_)
  · have h := hq_t h c1
    refine lv_null hx hb dX11_planAt_30 ?_
    exact hq_aret (v := none) hx hb hr hlocks h0 hI h dX11_planAt_31
  · have h := hq_f h c1
    refine lv_iload_n hx hb dX11_planAt_4 rfl (lv_at hl 1 rfl) ?_
    refine lv_aload_n hx hb dX11_planAt_5 rfl (lv_at hl 0 rfl) ?_
    obtain ⟨v2, g3, h⟩ := hq_bind h
    obtain ⟨fs_g3, hs_g3, hv_g3⟩ := gI_at g3
    refine hq_get hx hb hts hown hE hI hs_g3 inG11 rfl 5 (by decide) kw_137 hv_g3 dX11_planAt_6 ?_
    refine lv_icmp_ge (tgt := 30) hx hb dX11_planAt_9 (by decide) (fun c4 => ?_) (fun c4 => ?_)
    · have h := hq_t h c4
      refine lv_null hx hb dX11_planAt_30 ?_
      exact hq_aret (v := none) hx hb hr hlocks h0 hI h dX11_planAt_31
    · have h := hq_f h c4
      refine lv_iload_n hx hb dX11_planAt_12 rfl (lv_at hl 1 rfl) ?_
      refine lv_aload_n hx hb dX11_planAt_13 rfl (lv_at hl 0 rfl) ?_
      obtain ⟨b5, g6, h⟩ := hq_bind h
      obtain ⟨fs_g6, hs_g6, hv_g6⟩ := gR_at g6
      refine hq_get hx hb hts hown hE hI hs_g6 inG11 rfl 4 (by decide) kw_136 hv_g6 dX11_planAt_14 ?_
      obtain ⟨v7, g8, h⟩ := hq_bind h
      refine hq_alen hx hb hE hI g8 dX11_planAt_17 ?_
      refine lv_icmp_ge (tgt := 30) hx hb dX11_planAt_18 (by decide) (fun c9 => ?_) (fun c9 => ?_)
      · have h := hq_t h c9
        refine lv_null hx hb dX11_planAt_30 ?_
        exact hq_aret (v := none) hx hb hr hlocks h0 hI h dX11_planAt_31
      · have h := hq_f h c9
        refine lv_aload_n hx hb dX11_planAt_21 rfl (lv_at hl 0 rfl) ?_
        obtain ⟨b10, g11, h⟩ := hq_bind h
        obtain ⟨fs_g11, hs_g11, hv_g11⟩ := gR_at g11
        refine hq_get hx hb hts hown hE hI hs_g11 inG11 rfl 4 (by decide) kw_136 hv_g11 dX11_planAt_22 ?_
        refine lv_iload_n hx hb dX11_planAt_25 rfl (lv_at hl 1 rfl) ?_
        obtain ⟨b13, g12, h⟩ := hq_bind h
        refine hq_aald5 hx hb hE hI g12 dX11_planAt_26 ?_
        rcases b13 with _ | r14
        · have h := oC_n h
          refine lv_goto (tgt := 31) hx hb dX11_planAt_27 (by decide) ?_
          exact hq_aret (v := none) hx hb hr hlocks h0 hI h dX11_planAt_31
        · have h := oC_s h
          refine lv_goto (tgt := 31) hx hb dX11_planAt_27 (by decide) ?_
          exact hq_aret (v := some r14) hx hb hr hlocks h0 hI h dX11_planAt_31
-- RodDips.lawAt(I)LRodDips$Text;
theorem dX11_lawAt_0 : decode cX11_lawAt 0 = .ok (.iload_n 1, 1) := by decide +kernel
theorem dX11_lawAt_1 : decode cX11_lawAt 1 = .ok (.ifCond .lt 29, 3) := by decide +kernel
theorem dX11_lawAt_4 : decode cX11_lawAt 4 = .ok (.iload_n 1, 1) := by decide +kernel
theorem dX11_lawAt_5 : decode cX11_lawAt 5 = .ok (.aload_n 0, 1) := by decide +kernel
theorem dX11_lawAt_6 : decode cX11_lawAt 6 = .ok (.getfield 43, 3) := by decide +kernel
theorem dX11_lawAt_9 : decode cX11_lawAt 9 = .ok (.if_icmp .ge 21, 3) := by decide +kernel
theorem dX11_lawAt_12 : decode cX11_lawAt 12 = .ok (.iload_n 1, 1) := by decide +kernel
theorem dX11_lawAt_13 : decode cX11_lawAt 13 = .ok (.aload_n 0, 1) := by decide +kernel
theorem dX11_lawAt_14 : decode cX11_lawAt 14 = .ok (.getfield 40, 3) := by decide +kernel
theorem dX11_lawAt_17 : decode cX11_lawAt 17 = .ok (.arraylength, 1) := by decide +kernel
theorem dX11_lawAt_18 : decode cX11_lawAt 18 = .ok (.if_icmp .ge 12, 3) := by decide +kernel
theorem dX11_lawAt_21 : decode cX11_lawAt 21 = .ok (.aload_n 0, 1) := by decide +kernel
theorem dX11_lawAt_22 : decode cX11_lawAt 22 = .ok (.getfield 40, 3) := by decide +kernel
theorem dX11_lawAt_25 : decode cX11_lawAt 25 = .ok (.iload_n 1, 1) := by decide +kernel
theorem dX11_lawAt_26 : decode cX11_lawAt 26 = .ok (.aaload, 1) := by decide +kernel
theorem dX11_lawAt_27 : decode cX11_lawAt 27 = .ok (.goto 4, 3) := by decide +kernel
theorem dX11_lawAt_30 : decode cX11_lawAt 30 = .ok (.aconst_null, 1) := by decide +kernel
theorem dX11_lawAt_31 : decode cX11_lawAt 31 = .ok (.areturn, 1) := by decide +kernel
def f_X11_lawAt (S : HSt) (a0 : Nat) (a1 : Int32) : Option (Option Nat × HSt) := if a1 < 0 then (some (none, S)) else ((gI S a0 11 7).bind fun v2 => if v2 ≤ a1 then (some (none, S)) else ((gR S a0 11 6).bind fun b5 => (aN S b5).bind fun v7 => if v7 ≤ a1 then (some (none, S)) else ((gR S a0 11 6).bind fun b10 => (aQ S b10 5 a1).bind fun b13 => oC b13 (some (none, S)) fun r14 => some (some r14, S))))
abbrev rm_X11_lawAt : Room := { frames := 0, cells := 0, slots := 0, locals := 0 }
abbrev w_X11_lawAt : List Cond := Cond.code yX11_lawAt cX11_lawAt 2 (Option.some (FieldType.object "RodDips$Text")) :: lwG
theorem yd_X11_lawAt : yX11_lawAt.cls ≠ "java/lang/invoke/MethodHandle" ∧ yX11_lawAt.cls ≠ "java/lang/invoke/VarHandle" ∧ (parseMethodDescriptor yX11_lawAt.desc).map (fun d => d.parameters.length) = some 1 := by decide +kernel
theorem ye_X11_lawAt : yX11_lawAt.cls = RX11 ∧ yX11_lawAt.cls ≠ "java/lang/invoke/MethodHandle" ∧ yX11_lawAt.cls ≠ "java/lang/invoke/VarHandle" ∧ (parseMethodDescriptor yX11_lawAt.desc).map (fun d => d.parameters.length) = some 1 := by decide +kernel
set_option maxHeartbeats 4000000 in
set_option maxRecDepth 100000 in
theorem c_X11_lawAt (l : Launch) (D : va_G) (kA ρ : Nat → Nat) (HB : Heap) (S : HSt) (a0 : Nat) (a1 : Int32) (res : Option Nat × HSt) (h : f_X11_lawAt S a0 a1 = some res) : Met l yX11_lawAt w_X11_lawAt rm_X11_lawAt (hPc D kA ρ HB S [.ref a0, .int a1]) (hQq D kA HB S res) 0 0 (hFree HB) := by
  refine Met.ofW (cc := cX11_lawAt) (maxL := 2) (ret := (Option.some (FieldType.object "RodDips$Text"))) (by decide) rfl ?_
  intro p e s m args below meth c s₁ B hml hv
  obtain ⟨rfl, hE, h0⟩ := hv
  have hx := B.exec
  have hb := B.bytes
  have hr := B.returns
  have hts0 := atoms_spec (ws := w_X11_lawAt) B.pre
  have hts : ∀ w ∈ lwG, w.before _ s = true := fun w hw => hts0 w (List.mem_cons_of_mem _ hw)
  have hown : s.vm.findClass RX11 = some m.cls := findClass_of_methodNamed B.named
  have hlocks := B.notSynchronized
  have hI : hqX D kA HB S.2 S s.heap [] := ⟨h0, Nat.le_refl _, fun _ q => absurd q List.not_mem_nil⟩
  have hl := lv_entry ([.ref a0, .int a1]) (n := 2) (Nat.le_of_ble_eq_true rfl)
  rw [lg_entry_eq]
  generalize (lg_sl ([.ref a0, .int a1]) ++ List.replicate (2 - (lg_sl ([.ref a0, .int a1])).length) Slot.unset).toArray = ls at hl ⊢
  have hl : lv_has ls 2 [(0, .ref a0), (1, .int a1)] := hl
  unfold f_X11_lawAt at h
  refine lv_iload_n hx hb dX11_lawAt_0 rfl (lv_at hl 1 rfl) ?_
  refine lv_if_lt (tgt := 30) hx hb dX11_lawAt_1 (by decide) (fun c1 => ?_) (fun c1 => ?_)
  · have h := hq_t h c1
    refine lv_null hx hb dX11_lawAt_30 ?_
    exact hq_aret (v := none) hx hb hr hlocks h0 hI h dX11_lawAt_31
  · have h := hq_f h c1
    refine lv_iload_n hx hb dX11_lawAt_4 rfl (lv_at hl 1 rfl) ?_
    refine lv_aload_n hx hb dX11_lawAt_5 rfl (lv_at hl 0 rfl) ?_
    obtain ⟨v2, g3, h⟩ := hq_bind h
    obtain ⟨fs_g3, hs_g3, hv_g3⟩ := gI_at g3
    refine hq_get hx hb hts hown hE hI hs_g3 inG11 rfl 7 (by decide) kw_139 hv_g3 dX11_lawAt_6 ?_
    refine lv_icmp_ge (tgt := 30) hx hb dX11_lawAt_9 (by decide) (fun c4 => ?_) (fun c4 => ?_)
    · have h := hq_t h c4
      refine lv_null hx hb dX11_lawAt_30 ?_
      exact hq_aret (v := none) hx hb hr hlocks h0 hI h dX11_lawAt_31
    · have h := hq_f h c4
      refine lv_iload_n hx hb dX11_lawAt_12 rfl (lv_at hl 1 rfl) ?_
      refine lv_aload_n hx hb dX11_lawAt_13 rfl (lv_at hl 0 rfl) ?_
      obtain ⟨b5, g6, h⟩ := hq_bind h
      obtain ⟨fs_g6, hs_g6, hv_g6⟩ := gR_at g6
      refine hq_get hx hb hts hown hE hI hs_g6 inG11 rfl 6 (by decide) kw_138 hv_g6 dX11_lawAt_14 ?_
      obtain ⟨v7, g8, h⟩ := hq_bind h
      refine hq_alen hx hb hE hI g8 dX11_lawAt_17 ?_
      refine lv_icmp_ge (tgt := 30) hx hb dX11_lawAt_18 (by decide) (fun c9 => ?_) (fun c9 => ?_)
      · have h := hq_t h c9
        refine lv_null hx hb dX11_lawAt_30 ?_
        exact hq_aret (v := none) hx hb hr hlocks h0 hI h dX11_lawAt_31
      · have h := hq_f h c9
        refine lv_aload_n hx hb dX11_lawAt_21 rfl (lv_at hl 0 rfl) ?_
        obtain ⟨b10, g11, h⟩ := hq_bind h
        obtain ⟨fs_g11, hs_g11, hv_g11⟩ := gR_at g11
        refine hq_get hx hb hts hown hE hI hs_g11 inG11 rfl 6 (by decide) kw_138 hv_g11 dX11_lawAt_22 ?_
        refine lv_iload_n hx hb dX11_lawAt_25 rfl (lv_at hl 1 rfl) ?_
        obtain ⟨b13, g12, h⟩ := hq_bind h
        refine hq_aald5 hx hb hE hI g12 dX11_lawAt_26 ?_
        rcases b13 with _ | r14
        · have h := oC_n h
          refine lv_goto (tgt := 31) hx hb dX11_lawAt_27 (by decide) ?_
          exact hq_aret (v := none) hx hb hr hlocks h0 hI h dX11_lawAt_31
        · have h := oC_s h
          refine lv_goto (tgt := 31) hx hb dX11_lawAt_27 (by decide) ?_
          exact hq_aret (v := some r14) hx hb hr hlocks h0 hI h dX11_lawAt_31
-- RodDips.madeOfKind(I)LRodDips$Try;
theorem dX11_madeOfKind_0 : decode cX11_madeOfKind 0 = .ok (.iload_n 1, 1) := by decide +kernel
theorem dX11_madeOfKind_1 : decode cX11_madeOfKind 1 = .ok (.tableswitch 111 1 6 #[39, 51, 63, 75, 87, 99], 39) := by decide +kernel
theorem dX11_madeOfKind_40 : decode cX11_madeOfKind 40 = .ok (.new 295, 3) := by decide +kernel
theorem dX11_madeOfKind_43 : decode cX11_madeOfKind 43 = .ok (.dup, 1) := by decide +kernel
theorem dX11_madeOfKind_44 : decode cX11_madeOfKind 44 = .ok (.aload_n 0, 1) := by decide +kernel
theorem dX11_madeOfKind_45 : decode cX11_madeOfKind 45 = .ok (.getfield 59, 3) := by decide +kernel
theorem dX11_madeOfKind_48 : decode cX11_madeOfKind 48 = .ok (.invokespecial 297, 3) := by decide +kernel
theorem dX11_madeOfKind_51 : decode cX11_madeOfKind 51 = .ok (.areturn, 1) := by decide +kernel
theorem dX11_madeOfKind_52 : decode cX11_madeOfKind 52 = .ok (.new 300, 3) := by decide +kernel
theorem dX11_madeOfKind_55 : decode cX11_madeOfKind 55 = .ok (.dup, 1) := by decide +kernel
theorem dX11_madeOfKind_56 : decode cX11_madeOfKind 56 = .ok (.aload_n 0, 1) := by decide +kernel
theorem dX11_madeOfKind_57 : decode cX11_madeOfKind 57 = .ok (.getfield 59, 3) := by decide +kernel
theorem dX11_madeOfKind_60 : decode cX11_madeOfKind 60 = .ok (.invokespecial 302, 3) := by decide +kernel
theorem dX11_madeOfKind_63 : decode cX11_madeOfKind 63 = .ok (.areturn, 1) := by decide +kernel
theorem dX11_madeOfKind_64 : decode cX11_madeOfKind 64 = .ok (.new 303, 3) := by decide +kernel
theorem dX11_madeOfKind_67 : decode cX11_madeOfKind 67 = .ok (.dup, 1) := by decide +kernel
theorem dX11_madeOfKind_68 : decode cX11_madeOfKind 68 = .ok (.aload_n 0, 1) := by decide +kernel
theorem dX11_madeOfKind_69 : decode cX11_madeOfKind 69 = .ok (.getfield 59, 3) := by decide +kernel
theorem dX11_madeOfKind_72 : decode cX11_madeOfKind 72 = .ok (.invokespecial 305, 3) := by decide +kernel
theorem dX11_madeOfKind_75 : decode cX11_madeOfKind 75 = .ok (.areturn, 1) := by decide +kernel
theorem dX11_madeOfKind_76 : decode cX11_madeOfKind 76 = .ok (.new 306, 3) := by decide +kernel
theorem dX11_madeOfKind_79 : decode cX11_madeOfKind 79 = .ok (.dup, 1) := by decide +kernel
theorem dX11_madeOfKind_80 : decode cX11_madeOfKind 80 = .ok (.aload_n 0, 1) := by decide +kernel
theorem dX11_madeOfKind_81 : decode cX11_madeOfKind 81 = .ok (.getfield 59, 3) := by decide +kernel
theorem dX11_madeOfKind_84 : decode cX11_madeOfKind 84 = .ok (.invokespecial 308, 3) := by decide +kernel
theorem dX11_madeOfKind_87 : decode cX11_madeOfKind 87 = .ok (.areturn, 1) := by decide +kernel
theorem dX11_madeOfKind_88 : decode cX11_madeOfKind 88 = .ok (.new 309, 3) := by decide +kernel
theorem dX11_madeOfKind_91 : decode cX11_madeOfKind 91 = .ok (.dup, 1) := by decide +kernel
theorem dX11_madeOfKind_92 : decode cX11_madeOfKind 92 = .ok (.aload_n 0, 1) := by decide +kernel
theorem dX11_madeOfKind_93 : decode cX11_madeOfKind 93 = .ok (.getfield 59, 3) := by decide +kernel
theorem dX11_madeOfKind_96 : decode cX11_madeOfKind 96 = .ok (.invokespecial 311, 3) := by decide +kernel
theorem dX11_madeOfKind_99 : decode cX11_madeOfKind 99 = .ok (.areturn, 1) := by decide +kernel
theorem dX11_madeOfKind_100 : decode cX11_madeOfKind 100 = .ok (.new 312, 3) := by decide +kernel
theorem dX11_madeOfKind_103 : decode cX11_madeOfKind 103 = .ok (.dup, 1) := by decide +kernel
theorem dX11_madeOfKind_104 : decode cX11_madeOfKind 104 = .ok (.aload_n 0, 1) := by decide +kernel
theorem dX11_madeOfKind_105 : decode cX11_madeOfKind 105 = .ok (.getfield 59, 3) := by decide +kernel
theorem dX11_madeOfKind_108 : decode cX11_madeOfKind 108 = .ok (.invokespecial 314, 3) := by decide +kernel
theorem dX11_madeOfKind_111 : decode cX11_madeOfKind 111 = .ok (.areturn, 1) := by decide +kernel
theorem dX11_madeOfKind_112 : decode cX11_madeOfKind 112 = .ok (.new 15, 3) := by decide +kernel
theorem dX11_madeOfKind_115 : decode cX11_madeOfKind 115 = .ok (.dup, 1) := by decide +kernel
theorem dX11_madeOfKind_116 : decode cX11_madeOfKind 116 = .ok (.aload_n 0, 1) := by decide +kernel
theorem dX11_madeOfKind_117 : decode cX11_madeOfKind 117 = .ok (.getfield 59, 3) := by decide +kernel
theorem dX11_madeOfKind_120 : decode cX11_madeOfKind 120 = .ok (.invokespecial 315, 3) := by decide +kernel
theorem dX11_madeOfKind_123 : decode cX11_madeOfKind 123 = .ok (.areturn, 1) := by decide +kernel
def f_X11_madeOfKind (S : HSt) (a0 : Nat) (a1 : Int32) : Option (Option Nat × HSt) := if a1 = 1 then (hqn (hNew S (.inr (2, [.null, .int 0, .int 0, .int 0, .int 0, .int 0, .int 0, .int 0, .int 0]))) fun (S7 : HSt) => (gR S7 a0 11 10).bind fun b8 => (f_X2_init S7 S.2 b8).bind fun S11 => some (some S.2, S11)) else (if a1 = 2 then (hqn (hNew S (.inr (0, [.null, .int 0, .int 0, .int 0, .int 0, .int 0, .int 0, .int 0, .int 0]))) fun (S12 : HSt) => (gR S12 a0 11 10).bind fun b13 => (f_X0_init S12 S.2 b13).bind fun S16 => some (some S.2, S16)) else (if a1 = 3 then (hqn (hNew S (.inr (5, [.null, .int 0, .int 0, .int 0, .int 0, .int 0, .int 0, .int 0, .int 0]))) fun (S17 : HSt) => (gR S17 a0 11 10).bind fun b18 => (f_X5_init S17 S.2 b18).bind fun S21 => some (some S.2, S21)) else (if a1 = 4 then (hqn (hNew S (.inr (3, [.null, .int 0, .int 0, .int 0, .int 0, .int 0, .int 0, .int 0, .int 0]))) fun (S22 : HSt) => (gR S22 a0 11 10).bind fun b23 => (f_X3_init S22 S.2 b23).bind fun S26 => some (some S.2, S26)) else (if a1 = 5 then (hqn (hNew S (.inr (1, [.null, .int 0, .int 0, .int 0, .int 0, .int 0, .int 0, .int 0, .int 0]))) fun (S27 : HSt) => (gR S27 a0 11 10).bind fun b28 => (f_X1_init S27 S.2 b28).bind fun S31 => some (some S.2, S31)) else (if a1 = 6 then (hqn (hNew S (.inr (10, [.null, .int 0, .int 0, .int 0, .int 0, .int 0, .int 0, .int 0, .int 0]))) fun (S32 : HSt) => (gR S32 a0 11 10).bind fun b33 => (f_X10_init S32 S.2 b33).bind fun S36 => some (some S.2, S36)) else (hqn (hNew S (.inr (9, [.null, .int 0, .int 0, .int 0, .int 0, .int 0, .int 0, .int 0, .int 0]))) fun (S37 : HSt) => (gR S37 a0 11 10).bind fun b38 => (f_X9_init S37 S.2 b38).bind fun S41 => some (some S.2, S41)))))))
abbrev rm_X11_madeOfKind : Room := { frames := 4, cells := 7, slots := 63, locals := 75 }
abbrev w_X11_madeOfKind : List Cond := Cond.code yX11_madeOfKind cX11_madeOfKind 2 (Option.some (FieldType.object "RodDips$Try")) :: lwG
theorem yd_X11_madeOfKind : yX11_madeOfKind.cls ≠ "java/lang/invoke/MethodHandle" ∧ yX11_madeOfKind.cls ≠ "java/lang/invoke/VarHandle" ∧ (parseMethodDescriptor yX11_madeOfKind.desc).map (fun d => d.parameters.length) = some 1 := by decide +kernel
theorem ye_X11_madeOfKind : yX11_madeOfKind.cls = RX11 ∧ yX11_madeOfKind.cls ≠ "java/lang/invoke/MethodHandle" ∧ yX11_madeOfKind.cls ≠ "java/lang/invoke/VarHandle" ∧ (parseMethodDescriptor yX11_madeOfKind.desc).map (fun d => d.parameters.length) = some 1 := by decide +kernel
set_option maxHeartbeats 4000000 in
set_option maxRecDepth 100000 in
theorem c_X11_madeOfKind (l : Launch) (D : va_G) (kA ρ : Nat → Nat) (HB : Heap) (S : HSt) (a0 : Nat) (a1 : Int32) (res : Option Nat × HSt) (h : f_X11_madeOfKind S a0 a1 = some res) : Met l yX11_madeOfKind w_X11_madeOfKind rm_X11_madeOfKind (hPc D kA ρ HB S [.ref a0, .int a1]) (hQq D kA HB S res) 7 63 (hFree HB) := by
  refine Met.ofW (cc := cX11_madeOfKind) (maxL := 2) (ret := (Option.some (FieldType.object "RodDips$Try"))) (by decide) rfl ?_
  intro p e s m args below meth c s₁ B hml hv
  obtain ⟨rfl, hE, h0⟩ := hv
  have hx := B.exec
  have hb := B.bytes
  have hr := B.returns
  have hts0 := atoms_spec (ws := w_X11_madeOfKind) B.pre
  have hts : ∀ w ∈ lwG, w.before _ s = true := fun w hw => hts0 w (List.mem_cons_of_mem _ hw)
  have hown : s.vm.findClass RX11 = some m.cls := findClass_of_methodNamed B.named
  have hlocks := B.notSynchronized
  have hI : hqX D kA HB S.2 S s.heap [] := ⟨h0, Nat.le_refl _, fun _ q => absurd q List.not_mem_nil⟩
  have hl := lv_entry ([.ref a0, .int a1]) (n := 2) (Nat.le_of_ble_eq_true rfl)
  rw [lg_entry_eq]
  generalize (lg_sl ([.ref a0, .int a1]) ++ List.replicate (2 - (lg_sl ([.ref a0, .int a1])).length) Slot.unset).toArray = ls at hl ⊢
  have hl : lv_has ls 2 [(0, .ref a0), (1, .int a1)] := hl
  unfold f_X11_madeOfKind at h
  refine lv_iload_n hx hb dX11_madeOfKind_0 rfl (lv_at hl 1 rfl) ?_
  by_cases c1 : a1 = 1
  · have h := hq_t h c1
    refine lv_tableIn (tgt := 40) hx hb dX11_madeOfKind_1 (by rw [c1]; decide) (by rw [c1]; decide) (by rw [c1]; rfl) (by decide) ?_
    refine hq_new (ci := 2) hx hb hts hown hE hI inG2 tyX2 tyX2_ok kw_209 kw_210 kw_8 rfl [.null, .int 0, .int 0, .int 0, .int 0, .int 0, .int 0, .int 0, .int 0] (hfs_2) (Nat.le_of_ble_eq_true rfl) (Nat.le_of_ble_eq_true rfl) dX11_madeOfKind_40 (fun H hI => ?_)
    obtain ⟨S7, e_S7⟩ : ∃ z, z = hNew S (.inr (2, [.null, .int 0, .int 0, .int 0, .int 0, .int 0, .int 0, .int 0, .int 0])) := ⟨_, rfl⟩
    rw [← e_S7] at hI
    have h := hq_nm h e_S7
    refine lv_dup hx hb dX11_madeOfKind_43 rfl ?_
    refine lv_aload_n hx hb dX11_madeOfKind_44 rfl (lv_at hl 0 rfl) ?_
    obtain ⟨b8, g9, h⟩ := hq_bind h
    obtain ⟨fs_g9, hs_g9, hv_g9⟩ := gR_at g9
    refine hq_get hx hb hts hown hE hI hs_g9 inG11 rfl 10 (by decide) kw_142 hv_g9 dX11_madeOfKind_45 ?_
    obtain ⟨S11, g10, h⟩ := hq_bind h
    refine hq_callv hI (va_runIN (As := [.ref b8]) (rest := [.ref S.2]) ⟨hx, hb, hml, hown, hts⟩ (c_X2_init l D kA ρ HB S7 S.2 b8 _ g10) ⟨va_cnB 1 hts (gdIn (hd := []) (fun _ h => absurd h List.not_mem_nil) kw_213) rfl rfl rfl (hE.2.1 _ kn_211) (hts _ kw_8) yd_X2_init ⟨Nat.le_of_ble_eq_true rfl, Nat.le_of_ble_eq_true rfl⟩, rfl, hts _ kw_212⟩ (hq_preS hE hI _) rfl rfl hl.1 rfl (lv_room (Nat.le_of_ble_eq_true rfl)) dX11_madeOfKind_48 ⟨Nat.le_of_ble_eq_true rfl, Nat.le_of_ble_eq_true rfl⟩) (fun H locs hI => ?_)
    refine W.widen (k := 7) (n := 63) (Nat.le_of_ble_eq_true rfl) (Nat.le_of_ble_eq_true rfl) ?_
    exact hq_aret (v := some S.2) hx hb hr hlocks h0 hI h dX11_madeOfKind_51
  have h := hq_f h c1
  by_cases c2 : a1 = 2
  · have h := hq_t h c2
    refine lv_tableIn (tgt := 52) hx hb dX11_madeOfKind_1 (by rw [c2]; decide) (by rw [c2]; decide) (by rw [c2]; rfl) (by decide) ?_
    refine hq_new (ci := 0) hx hb hts hown hE hI inG0 tyX0 tyX0_ok kw_255 kw_256 kw_9 rfl [.null, .int 0, .int 0, .int 0, .int 0, .int 0, .int 0, .int 0, .int 0] (hfs_0) (Nat.le_of_ble_eq_true rfl) (Nat.le_of_ble_eq_true rfl) dX11_madeOfKind_52 (fun H hI => ?_)
    obtain ⟨S12, e_S12⟩ : ∃ z, z = hNew S (.inr (0, [.null, .int 0, .int 0, .int 0, .int 0, .int 0, .int 0, .int 0, .int 0])) := ⟨_, rfl⟩
    rw [← e_S12] at hI
    have h := hq_nm h e_S12
    refine lv_dup hx hb dX11_madeOfKind_55 rfl ?_
    refine lv_aload_n hx hb dX11_madeOfKind_56 rfl (lv_at hl 0 rfl) ?_
    obtain ⟨b13, g14, h⟩ := hq_bind h
    obtain ⟨fs_g14, hs_g14, hv_g14⟩ := gR_at g14
    refine hq_get hx hb hts hown hE hI hs_g14 inG11 rfl 10 (by decide) kw_142 hv_g14 dX11_madeOfKind_57 ?_
    obtain ⟨S16, g15, h⟩ := hq_bind h
    refine hq_callv hI (va_runIN (As := [.ref b13]) (rest := [.ref S.2]) ⟨hx, hb, hml, hown, hts⟩ (c_X0_init l D kA ρ HB S12 S.2 b13 _ g15) ⟨va_cnB 1 hts (gdIn (hd := []) (fun _ h => absurd h List.not_mem_nil) kw_259) rfl rfl rfl (hE.2.1 _ kn_257) (hts _ kw_9) yd_X0_init ⟨Nat.le_of_ble_eq_true rfl, Nat.le_of_ble_eq_true rfl⟩, rfl, hts _ kw_258⟩ (hq_preS hE hI _) rfl rfl hl.1 rfl (lv_room (Nat.le_of_ble_eq_true rfl)) dX11_madeOfKind_60 ⟨Nat.le_of_ble_eq_true rfl, Nat.le_of_ble_eq_true rfl⟩) (fun H locs hI => ?_)
    refine W.widen (k := 7) (n := 63) (Nat.le_of_ble_eq_true rfl) (Nat.le_of_ble_eq_true rfl) ?_
    exact hq_aret (v := some S.2) hx hb hr hlocks h0 hI h dX11_madeOfKind_63
  have h := hq_f h c2
  by_cases c3 : a1 = 3
  · have h := hq_t h c3
    refine lv_tableIn (tgt := 64) hx hb dX11_madeOfKind_1 (by rw [c3]; decide) (by rw [c3]; decide) (by rw [c3]; rfl) (by decide) ?_
    refine hq_new (ci := 5) hx hb hts hown hE hI inG5 tyX5 tyX5_ok kw_271 kw_272 kw_10 rfl [.null, .int 0, .int 0, .int 0, .int 0, .int 0, .int 0, .int 0, .int 0] (hfs_5) (Nat.le_of_ble_eq_true rfl) (Nat.le_of_ble_eq_true rfl) dX11_madeOfKind_64 (fun H hI => ?_)
    obtain ⟨S17, e_S17⟩ : ∃ z, z = hNew S (.inr (5, [.null, .int 0, .int 0, .int 0, .int 0, .int 0, .int 0, .int 0, .int 0])) := ⟨_, rfl⟩
    rw [← e_S17] at hI
    have h := hq_nm h e_S17
    refine lv_dup hx hb dX11_madeOfKind_67 rfl ?_
    refine lv_aload_n hx hb dX11_madeOfKind_68 rfl (lv_at hl 0 rfl) ?_
    obtain ⟨b18, g19, h⟩ := hq_bind h
    obtain ⟨fs_g19, hs_g19, hv_g19⟩ := gR_at g19
    refine hq_get hx hb hts hown hE hI hs_g19 inG11 rfl 10 (by decide) kw_142 hv_g19 dX11_madeOfKind_69 ?_
    obtain ⟨S21, g20, h⟩ := hq_bind h
    refine hq_callv hI (va_runIN (As := [.ref b18]) (rest := [.ref S.2]) ⟨hx, hb, hml, hown, hts⟩ (c_X5_init l D kA ρ HB S17 S.2 b18 _ g20) ⟨va_cnB 1 hts (gdIn (hd := []) (fun _ h => absurd h List.not_mem_nil) kw_275) rfl rfl rfl (hE.2.1 _ kn_273) (hts _ kw_10) yd_X5_init ⟨Nat.le_of_ble_eq_true rfl, Nat.le_of_ble_eq_true rfl⟩, rfl, hts _ kw_274⟩ (hq_preS hE hI _) rfl rfl hl.1 rfl (lv_room (Nat.le_of_ble_eq_true rfl)) dX11_madeOfKind_72 ⟨Nat.le_of_ble_eq_true rfl, Nat.le_of_ble_eq_true rfl⟩) (fun H locs hI => ?_)
    refine W.widen (k := 7) (n := 63) (Nat.le_of_ble_eq_true rfl) (Nat.le_of_ble_eq_true rfl) ?_
    exact hq_aret (v := some S.2) hx hb hr hlocks h0 hI h dX11_madeOfKind_75
  have h := hq_f h c3
  by_cases c4 : a1 = 4
  · have h := hq_t h c4
    refine lv_tableIn (tgt := 76) hx hb dX11_madeOfKind_1 (by rw [c4]; decide) (by rw [c4]; decide) (by rw [c4]; rfl) (by decide) ?_
    refine hq_new (ci := 3) hx hb hts hown hE hI inG3 tyX3 tyX3_ok kw_287 kw_288 kw_11 rfl [.null, .int 0, .int 0, .int 0, .int 0, .int 0, .int 0, .int 0, .int 0] (hfs_3) (Nat.le_of_ble_eq_true rfl) (Nat.le_of_ble_eq_true rfl) dX11_madeOfKind_76 (fun H hI => ?_)
    obtain ⟨S22, e_S22⟩ : ∃ z, z = hNew S (.inr (3, [.null, .int 0, .int 0, .int 0, .int 0, .int 0, .int 0, .int 0, .int 0])) := ⟨_, rfl⟩
    rw [← e_S22] at hI
    have h := hq_nm h e_S22
    refine lv_dup hx hb dX11_madeOfKind_79 rfl ?_
    refine lv_aload_n hx hb dX11_madeOfKind_80 rfl (lv_at hl 0 rfl) ?_
    obtain ⟨b23, g24, h⟩ := hq_bind h
    obtain ⟨fs_g24, hs_g24, hv_g24⟩ := gR_at g24
    refine hq_get hx hb hts hown hE hI hs_g24 inG11 rfl 10 (by decide) kw_142 hv_g24 dX11_madeOfKind_81 ?_
    obtain ⟨S26, g25, h⟩ := hq_bind h
    refine hq_callv hI (va_runIN (As := [.ref b23]) (rest := [.ref S.2]) ⟨hx, hb, hml, hown, hts⟩ (c_X3_init l D kA ρ HB S22 S.2 b23 _ g25) ⟨va_cnB 1 hts (gdIn (hd := []) (fun _ h => absurd h List.not_mem_nil) kw_291) rfl rfl rfl (hE.2.1 _ kn_289) (hts _ kw_11) yd_X3_init ⟨Nat.le_of_ble_eq_true rfl, Nat.le_of_ble_eq_true rfl⟩, rfl, hts _ kw_290⟩ (hq_preS hE hI _) rfl rfl hl.1 rfl (lv_room (Nat.le_of_ble_eq_true rfl)) dX11_madeOfKind_84 ⟨Nat.le_of_ble_eq_true rfl, Nat.le_of_ble_eq_true rfl⟩) (fun H locs hI => ?_)
    refine W.widen (k := 7) (n := 63) (Nat.le_of_ble_eq_true rfl) (Nat.le_of_ble_eq_true rfl) ?_
    exact hq_aret (v := some S.2) hx hb hr hlocks h0 hI h dX11_madeOfKind_87
  have h := hq_f h c4
  by_cases c5 : a1 = 5
  · have h := hq_t h c5
    refine lv_tableIn (tgt := 88) hx hb dX11_madeOfKind_1 (by rw [c5]; decide) (by rw [c5]; decide) (by rw [c5]; rfl) (by decide) ?_
    refine hq_new (ci := 1) hx hb hts hown hE hI inG1 tyX1 tyX1_ok kw_303 kw_304 kw_12 rfl [.null, .int 0, .int 0, .int 0, .int 0, .int 0, .int 0, .int 0, .int 0] (hfs_1) (Nat.le_of_ble_eq_true rfl) (Nat.le_of_ble_eq_true rfl) dX11_madeOfKind_88 (fun H hI => ?_)
    obtain ⟨S27, e_S27⟩ : ∃ z, z = hNew S (.inr (1, [.null, .int 0, .int 0, .int 0, .int 0, .int 0, .int 0, .int 0, .int 0])) := ⟨_, rfl⟩
    rw [← e_S27] at hI
    have h := hq_nm h e_S27
    refine lv_dup hx hb dX11_madeOfKind_91 rfl ?_
    refine lv_aload_n hx hb dX11_madeOfKind_92 rfl (lv_at hl 0 rfl) ?_
    obtain ⟨b28, g29, h⟩ := hq_bind h
    obtain ⟨fs_g29, hs_g29, hv_g29⟩ := gR_at g29
    refine hq_get hx hb hts hown hE hI hs_g29 inG11 rfl 10 (by decide) kw_142 hv_g29 dX11_madeOfKind_93 ?_
    obtain ⟨S31, g30, h⟩ := hq_bind h
    refine hq_callv hI (va_runIN (As := [.ref b28]) (rest := [.ref S.2]) ⟨hx, hb, hml, hown, hts⟩ (c_X1_init l D kA ρ HB S27 S.2 b28 _ g30) ⟨va_cnB 1 hts (gdIn (hd := []) (fun _ h => absurd h List.not_mem_nil) kw_307) rfl rfl rfl (hE.2.1 _ kn_305) (hts _ kw_12) yd_X1_init ⟨Nat.le_of_ble_eq_true rfl, Nat.le_of_ble_eq_true rfl⟩, rfl, hts _ kw_306⟩ (hq_preS hE hI _) rfl rfl hl.1 rfl (lv_room (Nat.le_of_ble_eq_true rfl)) dX11_madeOfKind_96 ⟨Nat.le_of_ble_eq_true rfl, Nat.le_of_ble_eq_true rfl⟩) (fun H locs hI => ?_)
    refine W.widen (k := 7) (n := 63) (Nat.le_of_ble_eq_true rfl) (Nat.le_of_ble_eq_true rfl) ?_
    exact hq_aret (v := some S.2) hx hb hr hlocks h0 hI h dX11_madeOfKind_99
  have h := hq_f h c5
  by_cases c6 : a1 = 6
  · have h := hq_t h c6
    refine lv_tableIn (tgt := 100) hx hb dX11_madeOfKind_1 (by rw [c6]; decide) (by rw [c6]; decide) (by rw [c6]; rfl) (by decide) ?_
    refine hq_new (ci := 10) hx hb hts hown hE hI inG10 tyX10 tyX10_ok kw_319 kw_320 kw_13 rfl [.null, .int 0, .int 0, .int 0, .int 0, .int 0, .int 0, .int 0, .int 0] (hfs_10) (Nat.le_of_ble_eq_true rfl) (Nat.le_of_ble_eq_true rfl) dX11_madeOfKind_100 (fun H hI => ?_)
    obtain ⟨S32, e_S32⟩ : ∃ z, z = hNew S (.inr (10, [.null, .int 0, .int 0, .int 0, .int 0, .int 0, .int 0, .int 0, .int 0])) := ⟨_, rfl⟩
    rw [← e_S32] at hI
    have h := hq_nm h e_S32
    refine lv_dup hx hb dX11_madeOfKind_103 rfl ?_
    refine lv_aload_n hx hb dX11_madeOfKind_104 rfl (lv_at hl 0 rfl) ?_
    obtain ⟨b33, g34, h⟩ := hq_bind h
    obtain ⟨fs_g34, hs_g34, hv_g34⟩ := gR_at g34
    refine hq_get hx hb hts hown hE hI hs_g34 inG11 rfl 10 (by decide) kw_142 hv_g34 dX11_madeOfKind_105 ?_
    obtain ⟨S36, g35, h⟩ := hq_bind h
    refine hq_callv hI (va_runIN (As := [.ref b33]) (rest := [.ref S.2]) ⟨hx, hb, hml, hown, hts⟩ (c_X10_init l D kA ρ HB S32 S.2 b33 _ g35) ⟨va_cnB 1 hts (gdIn (hd := []) (fun _ h => absurd h List.not_mem_nil) kw_323) rfl rfl rfl (hE.2.1 _ kn_321) (hts _ kw_13) yd_X10_init ⟨Nat.le_of_ble_eq_true rfl, Nat.le_of_ble_eq_true rfl⟩, rfl, hts _ kw_322⟩ (hq_preS hE hI _) rfl rfl hl.1 rfl (lv_room (Nat.le_of_ble_eq_true rfl)) dX11_madeOfKind_108 ⟨Nat.le_of_ble_eq_true rfl, Nat.le_of_ble_eq_true rfl⟩) (fun H locs hI => ?_)
    refine W.widen (k := 7) (n := 63) (Nat.le_of_ble_eq_true rfl) (Nat.le_of_ble_eq_true rfl) ?_
    exact hq_aret (v := some S.2) hx hb hr hlocks h0 hI h dX11_madeOfKind_111
  have h := hq_f h c6
  have t_c1 := lv_neT c1 (a := 1) (by decide)
  have t_c2 := lv_neT c2 (a := 2) (by decide)
  have t_c3 := lv_neT c3 (a := 3) (by decide)
  have t_c4 := lv_neT c4 (a := 4) (by decide)
  have t_c5 := lv_neT c5 (a := 5) (by decide)
  have t_c6 := lv_neT c6 (a := 6) (by decide)
  refine lv_tableOut (tgt := 112) hx hb dX11_madeOfKind_1 (by omega) (by decide) ?_
  refine hq_new (ci := 9) hx hb hts hown hE hI inG9 tyX9 tyX9_ok kw_31 kw_335 kw_7 rfl [.null, .int 0, .int 0, .int 0, .int 0, .int 0, .int 0, .int 0, .int 0] (hfs_9) (Nat.le_of_ble_eq_true rfl) (Nat.le_of_ble_eq_true rfl) dX11_madeOfKind_112 (fun H hI => ?_)
  obtain ⟨S37, e_S37⟩ : ∃ z, z = hNew S (.inr (9, [.null, .int 0, .int 0, .int 0, .int 0, .int 0, .int 0, .int 0, .int 0])) := ⟨_, rfl⟩
  rw [← e_S37] at hI
  have h := hq_nm h e_S37
  refine lv_dup hx hb dX11_madeOfKind_115 rfl ?_
  refine lv_aload_n hx hb dX11_madeOfKind_116 rfl (lv_at hl 0 rfl) ?_
  obtain ⟨b38, g39, h⟩ := hq_bind h
  obtain ⟨fs_g39, hs_g39, hv_g39⟩ := gR_at g39
  refine hq_get hx hb hts hown hE hI hs_g39 inG11 rfl 10 (by decide) kw_142 hv_g39 dX11_madeOfKind_117 ?_
  obtain ⟨S41, g40, h⟩ := hq_bind h
  refine hq_callv hI (va_runIN (As := [.ref b38]) (rest := [.ref S.2]) ⟨hx, hb, hml, hown, hts⟩ (c_X9_init l D kA ρ HB S37 S.2 b38 _ g40) ⟨va_cnB 1 hts (gdIn (hd := []) (fun _ h => absurd h List.not_mem_nil) kw_216) rfl rfl rfl (hE.2.1 _ kn_336) (hts _ kw_7) yd_X9_init ⟨Nat.le_of_ble_eq_true rfl, Nat.le_of_ble_eq_true rfl⟩, rfl, hts _ kw_215⟩ (hq_preS hE hI _) rfl rfl hl.1 rfl (lv_room (Nat.le_of_ble_eq_true rfl)) dX11_madeOfKind_120 ⟨Nat.le_of_ble_eq_true rfl, Nat.le_of_ble_eq_true rfl⟩) (fun H locs hI => ?_)
  refine W.widen (k := 7) (n := 63) (Nat.le_of_ble_eq_true rfl) (Nat.le_of_ble_eq_true rfl) ?_
  exact hq_aret (v := some S.2) hx hb hr hlocks h0 hI h dX11_madeOfKind_123
-- RodDips.bitsOfMan(I)I
theorem dX11_bitsOfMan_0 : decode cX11_bitsOfMan 0 = .ok (.iconst 0, 1) := by decide +kernel
theorem dX11_bitsOfMan_1 : decode cX11_bitsOfMan 1 = .ok (.istore_n 2, 1) := by decide +kernel
theorem dX11_bitsOfMan_2 : decode cX11_bitsOfMan 2 = .ok (.iconst 0, 1) := by decide +kernel
theorem dX11_bitsOfMan_3 : decode cX11_bitsOfMan 3 = .ok (.istore_n 3, 1) := by decide +kernel
theorem dX11_bitsOfMan_4 : decode cX11_bitsOfMan 4 = .ok (.iload_n 3, 1) := by decide +kernel
theorem dX11_bitsOfMan_5 : decode cX11_bitsOfMan 5 = .ok (.aload_n 0, 1) := by decide +kernel
theorem dX11_bitsOfMan_6 : decode cX11_bitsOfMan 6 = .ok (.getfield 21, 3) := by decide +kernel
theorem dX11_bitsOfMan_9 : decode cX11_bitsOfMan 9 = .ok (.if_icmp .ge 36, 3) := by decide +kernel
theorem dX11_bitsOfMan_12 : decode cX11_bitsOfMan 12 = .ok (.aload_n 0, 1) := by decide +kernel
theorem dX11_bitsOfMan_13 : decode cX11_bitsOfMan 13 = .ok (.iload_n 3, 1) := by decide +kernel
theorem dX11_bitsOfMan_14 : decode cX11_bitsOfMan 14 = .ok (.invokevirtual 130, 3) := by decide +kernel
theorem dX11_bitsOfMan_17 : decode cX11_bitsOfMan 17 = .ok (.astore 4, 2) := by decide +kernel
theorem dX11_bitsOfMan_19 : decode cX11_bitsOfMan 19 = .ok (.aload 4, 2) := by decide +kernel
theorem dX11_bitsOfMan_21 : decode cX11_bitsOfMan 21 = .ok (.ifnull 18, 3) := by decide +kernel
theorem dX11_bitsOfMan_24 : decode cX11_bitsOfMan 24 = .ok (.aload 4, 2) := by decide +kernel
theorem dX11_bitsOfMan_26 : decode cX11_bitsOfMan 26 = .ok (.getfield 106, 3) := by decide +kernel
theorem dX11_bitsOfMan_29 : decode cX11_bitsOfMan 29 = .ok (.iload_n 1, 1) := by decide +kernel
theorem dX11_bitsOfMan_30 : decode cX11_bitsOfMan 30 = .ok (.if_icmp .ne 9, 3) := by decide +kernel
theorem dX11_bitsOfMan_33 : decode cX11_bitsOfMan 33 = .ok (.iload_n 2, 1) := by decide +kernel
theorem dX11_bitsOfMan_34 : decode cX11_bitsOfMan 34 = .ok (.iconst 1, 1) := by decide +kernel
theorem dX11_bitsOfMan_35 : decode cX11_bitsOfMan 35 = .ok (.iload_n 3, 1) := by decide +kernel
theorem dX11_bitsOfMan_36 : decode cX11_bitsOfMan 36 = .ok (.ishl, 1) := by decide +kernel
theorem dX11_bitsOfMan_37 : decode cX11_bitsOfMan 37 = .ok (.ior, 1) := by decide +kernel
theorem dX11_bitsOfMan_38 : decode cX11_bitsOfMan 38 = .ok (.istore_n 2, 1) := by decide +kernel
theorem dX11_bitsOfMan_39 : decode cX11_bitsOfMan 39 = .ok (.iinc 3 1, 3) := by decide +kernel
theorem dX11_bitsOfMan_42 : decode cX11_bitsOfMan 42 = .ok (.goto (-38), 3) := by decide +kernel
theorem dX11_bitsOfMan_45 : decode cX11_bitsOfMan 45 = .ok (.iload_n 2, 1) := by decide +kernel
theorem dX11_bitsOfMan_46 : decode cX11_bitsOfMan 46 = .ok (.ireturn, 1) := by decide +kernel
def f_X11_bitsOfMan_K45 (x1 : Int32) (S2 : HSt) : Option (Int32 × HSt) := some (x1, S2)
def f_X11_bitsOfMan_B4 (a0 : Nat) (a1 : Int32) (kx45 : (Int32 → HSt → Option (Int32 × HSt))) (kb4 : (Int32 → Int32 → HSt → Option (Int32 × HSt))) (x3 : Int32) (x4 : Int32) (S5 : HSt) : Option (Int32 × HSt) := (gI S5 a0 11 2).bind fun v6 => if v6 ≤ x4 then (kx45 x3 S5) else (if gC S5 a0 = some 11 then (bd2 (f_X11_tryAt S5 a0 x4) fun b12 S11 => oC b12 (kb4 x3 (x4 + 1) S11) fun r13 => (gIT S11 r13 2).bind fun v14 => if v14 = a1 then (kb4 (x3 ||| (1 <<< (x4 &&& 31))) (x4 + 1) S11) else (kb4 x3 (x4 + 1) S11)) else none)
def f_X11_bitsOfMan_L4 (a0 : Nat) (a1 : Int32) (kx45 : (Int32 → HSt → Option (Int32 × HSt))) : Nat → Int32 → Int32 → HSt → Option (Int32 × HSt)
  | 0, _, _, _ => none
  | n + 1, x3, x4, S => f_X11_bitsOfMan_B4 a0 a1 kx45 (f_X11_bitsOfMan_L4 a0 a1 kx45 n) x3 x4 S
def f_X11_bitsOfMan (S : HSt) (a0 : Nat) (a1 : Int32) : Option (Int32 × HSt) := (f_X11_bitsOfMan_L4 a0 a1 f_X11_bitsOfMan_K45 FU) 0 0 S
abbrev rm_X11_bitsOfMan : Room := { frames := 1, cells := 0, slots := 0, locals := 21 }
abbrev w_X11_bitsOfMan : List Cond := Cond.code yX11_bitsOfMan cX11_bitsOfMan 5 (Option.some FieldType.int) :: lwG
theorem yd_X11_bitsOfMan : yX11_bitsOfMan.cls ≠ "java/lang/invoke/MethodHandle" ∧ yX11_bitsOfMan.cls ≠ "java/lang/invoke/VarHandle" ∧ (parseMethodDescriptor yX11_bitsOfMan.desc).map (fun d => d.parameters.length) = some 1 := by decide +kernel
theorem ye_X11_bitsOfMan : yX11_bitsOfMan.cls = RX11 ∧ yX11_bitsOfMan.cls ≠ "java/lang/invoke/MethodHandle" ∧ yX11_bitsOfMan.cls ≠ "java/lang/invoke/VarHandle" ∧ (parseMethodDescriptor yX11_bitsOfMan.desc).map (fun d => d.parameters.length) = some 1 := by decide +kernel
set_option maxHeartbeats 4000000 in
set_option maxRecDepth 100000 in
theorem c_X11_bitsOfMan (l : Launch) (D : va_G) (kA ρ : Nat → Nat) (HB : Heap) (S : HSt) (a0 : Nat) (a1 : Int32) (res : Int32 × HSt) (h : f_X11_bitsOfMan S a0 a1 = some res) : Met l yX11_bitsOfMan w_X11_bitsOfMan rm_X11_bitsOfMan (hPc D kA ρ HB S [.ref a0, .int a1]) (hQi D kA HB S res) 0 0 (hFree HB) := by
  refine Met.ofW (cc := cX11_bitsOfMan) (maxL := 5) (ret := (Option.some FieldType.int)) (by decide) rfl ?_
  intro p e s m args below meth c s₁ B hml hv
  obtain ⟨rfl, hE, h0⟩ := hv
  have hx := B.exec
  have hb := B.bytes
  have hr := B.returns
  have hts0 := atoms_spec (ws := w_X11_bitsOfMan) B.pre
  have hts : ∀ w ∈ lwG, w.before _ s = true := fun w hw => hts0 w (List.mem_cons_of_mem _ hw)
  have hown : s.vm.findClass RX11 = some m.cls := findClass_of_methodNamed B.named
  have hlocks := B.notSynchronized
  have hI : hqX D kA HB S.2 S s.heap [] := ⟨h0, Nat.le_refl _, fun _ q => absurd q List.not_mem_nil⟩
  have hl := lv_entry ([.ref a0, .int a1]) (n := 5) (Nat.le_of_ble_eq_true rfl)
  rw [lg_entry_eq]
  generalize (lg_sl ([.ref a0, .int a1]) ++ List.replicate (5 - (lg_sl ([.ref a0, .int a1])).length) Slot.unset).toArray = ls at hl ⊢
  have hl : lv_has ls 5 [(0, .ref a0), (1, .int a1)] := hl
  unfold f_X11_bitsOfMan at h
  refine lv_iconst (v := 0) hx hb dX11_bitsOfMan_0 (by decide) ?_
  refine lv_istore_n (lv' := [(2, .int 0), (0, .ref a0), (1, .int a1)]) hx hb dX11_bitsOfMan_1 rfl hl (by decide) rfl (fun ls hl => ?_)
  refine lv_iconst (v := 0) hx hb dX11_bitsOfMan_2 (by decide) ?_
  refine lv_istore_n (lv' := [(3, .int 0), (2, .int 0), (0, .ref a0), (1, .int a1)]) hx hb dX11_bitsOfMan_3 rfl hl (by decide) rfl (fun ls hl => ?_)
  have hK45 : ∀ (x1 : Int32) (S2 : HSt) (H : Heap) (locs : List Loc) (ls : Array Slot), f_X11_bitsOfMan_K45 x1 S2 = some res → hqX D kA HB S.2 S2 H locs → lv_has ls 5 [(2, .int x1)] → W p l e rm_X11_bitsOfMan s m ([.ref a0, .int a1] : List Value).toArray below meth c H locs 0 0 (MQ below (hQi D kA HB S res) ([.ref a0, .int a1] : List Value).toArray s 0 0 (hFree HB)) (F0 m 45 ls []) := by
    intro x1 S2 H locs ls h hI hl
    unfold f_X11_bitsOfMan_K45 at h
    refine lv_iload_n hx hb dX11_bitsOfMan_45 rfl (lv_at hl 0 rfl) ?_
    exact hq_iret hx hb hr hlocks h0 hI h dX11_bitsOfMan_46
  have hL4 : ∀ (n4 : Nat) (x3 : Int32) (x4 : Int32) (S5 : HSt) (H : Heap) (locs : List Loc) (ls : Array Slot), (f_X11_bitsOfMan_L4 a0 a1 f_X11_bitsOfMan_K45 n4) x3 x4 S5 = some res → hqX D kA HB S.2 S5 H locs → lv_has ls 5 [(0, .ref a0), (1, .int a1), (2, .int x3), (3, .int x4)] → W p l e rm_X11_bitsOfMan s m ([.ref a0, .int a1] : List Value).toArray below meth c H locs 0 0 (MQ below (hQi D kA HB S res) ([.ref a0, .int a1] : List Value).toArray s 0 0 (hFree HB)) (F0 m 4 ls []) := by
    intro n4
    induction n4 with
    | zero =>
      intro x3 x4 S5 H locs ls h
      have h : (none : Option (Int32 × HSt)) = some res := h
      cases h
    | succ n4 ih4 =>
      intro x3 x4 S5 H locs ls h hI hl
      have h : f_X11_bitsOfMan_B4 a0 a1 f_X11_bitsOfMan_K45 (f_X11_bitsOfMan_L4 a0 a1 f_X11_bitsOfMan_K45 n4) x3 x4 S5 = some res := h
      unfold f_X11_bitsOfMan_B4 at h
      refine lv_iload_n hx hb dX11_bitsOfMan_4 rfl (lv_at hl 3 rfl) ?_
      refine lv_aload_n hx hb dX11_bitsOfMan_5 rfl (lv_at hl 0 rfl) ?_
      obtain ⟨v6, g7, h⟩ := hq_bind h
      obtain ⟨fs_g7, hs_g7, hv_g7⟩ := gI_at g7
      refine hq_get hx hb hts hown hE hI hs_g7 inG11 rfl 2 (by decide) kw_134 hv_g7 dX11_bitsOfMan_6 ?_
      refine lv_icmp_ge (tgt := 45) hx hb dX11_bitsOfMan_9 (by decide) (fun c8 => ?_) (fun c8 => ?_)
      · have h := hq_t h c8
        exact hK45 x3 S5 _ _ _ h hI (lv_sub hl [2] rfl)
      · have h := hq_f h c8
        refine lv_aload_n hx hb dX11_bitsOfMan_12 rfl (lv_at hl 0 rfl) ?_
        refine lv_iload_n hx hb dX11_bitsOfMan_13 rfl (lv_at hl 3 rfl) ?_
        obtain ⟨g10, h⟩ := hq_g h
        obtain ⟨b12, S11, g9, h⟩ := hq_bd2 h
        refine hq_callq hI (va_runV (As := [.int x4]) (rest := []) ⟨hx, hb, hml, hown, hts⟩ (c_X11_tryAt l D kA ρ HB S5 a0 x4 _ g9) (cwV 1 hts (gdIn (List.forall_mem_cons.mpr ⟨kw_354, (List.forall_mem_cons.mpr ⟨kw_356, (List.forall_mem_cons.mpr ⟨ks_2, (List.forall_mem_cons.mpr ⟨kw_1, (fun _ h => absurd h List.not_mem_nil)⟩)⟩)⟩)⟩) kw_357) rfl rfl rfl ye_X11_tryAt ⟨Nat.le_of_ble_eq_true rfl, Nat.le_of_ble_eq_true rfl⟩) (hq_preC hE hI g10 rfl _) rfl rfl hl.1 rfl (lv_room (Nat.le_of_ble_eq_true rfl)) dX11_bitsOfMan_14 ⟨Nat.le_of_ble_eq_true rfl, Nat.le_of_ble_eq_true rfl⟩) (fun H locs hI => ?_)
        rcases b12 with _ | r13
        · have h := oC_n h
          refine lv_astoreN (lv' := [(4, .null), (0, .ref a0), (1, .int a1), (2, .int x3), (3, .int x4)]) hx hb dX11_bitsOfMan_17 hl (by decide) rfl (fun ls hl => ?_)
          refine lv_aloadN hx hb dX11_bitsOfMan_19 (lv_at hl 0 rfl) ?_
          refine lv_ifnullN (tgt := 39) hx hb dX11_bitsOfMan_21 (by decide) ?_
          refine lv_iinc (v := (x4 + 1)) (lv' := [(3, .int (x4 + 1)), (4, .null), (0, .ref a0), (1, .int a1), (2, .int x3)]) hx hb dX11_bitsOfMan_39 hl (k := 4) rfl rfl (by decide) rfl (fun ls hl => ?_)
          refine lv_goto (tgt := 4) hx hb dX11_bitsOfMan_42 (by decide) ?_
          exact ih4 x3 (x4 + 1) S11 _ _ _ h hI (lv_sub hl [2, 3, 4, 0] rfl)
        · have h := oC_s h
          refine lv_astore (lv' := [(4, .ref r13), (0, .ref a0), (1, .int a1), (2, .int x3), (3, .int x4)]) hx hb dX11_bitsOfMan_17 hl (by decide) rfl (fun ls hl => ?_)
          refine lv_aload hx hb dX11_bitsOfMan_19 (lv_at hl 0 rfl) ?_
          refine lv_ifnull hx hb dX11_bitsOfMan_21 ?_
          refine lv_aload hx hb dX11_bitsOfMan_24 (lv_at hl 0 rfl) ?_
          obtain ⟨v14, g15, h⟩ := hq_bind h
          obtain ⟨c_g15, fs_g15, hk_g15, hs_g15, hv_g15⟩ := gIT_at g15
          obtain ⟨C_g15, hc_g15, hi_g15⟩ := hKin_at hk_g15
          refine hq_getN hx hb hts hown hE hI hs_g15 hi_g15 hc_g15 2 (by decide) kn_221 hv_g15 dX11_bitsOfMan_26 ?_
          refine lv_iload_n hx hb dX11_bitsOfMan_29 rfl (lv_at hl 2 rfl) ?_
          refine lv_icmp_ne (tgt := 39) hx hb dX11_bitsOfMan_30 (by decide) (fun c16 => ?_) (fun c16 => ?_)
          · have h := hq_f h c16
            refine lv_iinc (v := (x4 + 1)) (lv' := [(3, .int (x4 + 1)), (4, .ref r13), (0, .ref a0), (1, .int a1), (2, .int x3)]) hx hb dX11_bitsOfMan_39 hl (k := 4) rfl rfl (by decide) rfl (fun ls hl => ?_)
            refine lv_goto (tgt := 4) hx hb dX11_bitsOfMan_42 (by decide) ?_
            exact ih4 x3 (x4 + 1) S11 _ _ _ h hI (lv_sub hl [2, 3, 4, 0] rfl)
          · have h := hq_t h c16
            refine lv_iload_n hx hb dX11_bitsOfMan_33 rfl (lv_at hl 3 rfl) ?_
            refine lv_iconst (v := 1) hx hb dX11_bitsOfMan_34 (by decide) ?_
            refine lv_iload_n hx hb dX11_bitsOfMan_35 rfl (lv_at hl 4 rfl) ?_
            refine lv_ishl hx hb dX11_bitsOfMan_36 ?_
            refine lv_ior hx hb dX11_bitsOfMan_37 ?_
            refine lv_istore_n (lv' := [(2, .int (x3 ||| (1 <<< (x4 &&& 31)))), (4, .ref r13), (0, .ref a0), (1, .int a1), (3, .int x4)]) hx hb dX11_bitsOfMan_38 rfl hl (by decide) rfl (fun ls hl => ?_)
            refine lv_iinc (v := (x4 + 1)) (lv' := [(3, .int (x4 + 1)), (2, .int (x3 ||| (1 <<< (x4 &&& 31)))), (4, .ref r13), (0, .ref a0), (1, .int a1)]) hx hb dX11_bitsOfMan_39 hl (k := 4) rfl rfl (by decide) rfl (fun ls hl => ?_)
            refine lv_goto (tgt := 4) hx hb dX11_bitsOfMan_42 (by decide) ?_
            exact ih4 (x3 ||| (1 <<< (x4 &&& 31))) (x4 + 1) S11 _ _ _ h hI (lv_sub hl [3, 4, 1, 0] rfl)
  exact hL4 FU 0 0 S _ _ _ h hI (lv_sub hl [2, 3, 1, 0] rfl)
-- RodDips.bitsNoFartherThan(I)I
theorem dX11_bitsNoFartherThan_0 : decode cX11_bitsNoFartherThan 0 = .ok (.iconst 0, 1) := by decide +kernel
theorem dX11_bitsNoFartherThan_1 : decode cX11_bitsNoFartherThan 1 = .ok (.istore_n 2, 1) := by decide +kernel
theorem dX11_bitsNoFartherThan_2 : decode cX11_bitsNoFartherThan 2 = .ok (.iconst 0, 1) := by decide +kernel
theorem dX11_bitsNoFartherThan_3 : decode cX11_bitsNoFartherThan 3 = .ok (.istore_n 3, 1) := by decide +kernel
theorem dX11_bitsNoFartherThan_4 : decode cX11_bitsNoFartherThan 4 = .ok (.iload_n 3, 1) := by decide +kernel
theorem dX11_bitsNoFartherThan_5 : decode cX11_bitsNoFartherThan 5 = .ok (.aload_n 0, 1) := by decide +kernel
theorem dX11_bitsNoFartherThan_6 : decode cX11_bitsNoFartherThan 6 = .ok (.getfield 21, 3) := by decide +kernel
theorem dX11_bitsNoFartherThan_9 : decode cX11_bitsNoFartherThan 9 = .ok (.if_icmp .ge 36, 3) := by decide +kernel
theorem dX11_bitsNoFartherThan_12 : decode cX11_bitsNoFartherThan 12 = .ok (.aload_n 0, 1) := by decide +kernel
theorem dX11_bitsNoFartherThan_13 : decode cX11_bitsNoFartherThan 13 = .ok (.iload_n 3, 1) := by decide +kernel
theorem dX11_bitsNoFartherThan_14 : decode cX11_bitsNoFartherThan 14 = .ok (.invokevirtual 130, 3) := by decide +kernel
theorem dX11_bitsNoFartherThan_17 : decode cX11_bitsNoFartherThan 17 = .ok (.astore 4, 2) := by decide +kernel
theorem dX11_bitsNoFartherThan_19 : decode cX11_bitsNoFartherThan 19 = .ok (.aload 4, 2) := by decide +kernel
theorem dX11_bitsNoFartherThan_21 : decode cX11_bitsNoFartherThan 21 = .ok (.ifnull 18, 3) := by decide +kernel
theorem dX11_bitsNoFartherThan_24 : decode cX11_bitsNoFartherThan 24 = .ok (.aload 4, 2) := by decide +kernel
theorem dX11_bitsNoFartherThan_26 : decode cX11_bitsNoFartherThan 26 = .ok (.getfield 127, 3) := by decide +kernel
theorem dX11_bitsNoFartherThan_29 : decode cX11_bitsNoFartherThan 29 = .ok (.iload_n 1, 1) := by decide +kernel
theorem dX11_bitsNoFartherThan_30 : decode cX11_bitsNoFartherThan 30 = .ok (.if_icmp .gt 9, 3) := by decide +kernel
theorem dX11_bitsNoFartherThan_33 : decode cX11_bitsNoFartherThan 33 = .ok (.iload_n 2, 1) := by decide +kernel
theorem dX11_bitsNoFartherThan_34 : decode cX11_bitsNoFartherThan 34 = .ok (.iconst 1, 1) := by decide +kernel
theorem dX11_bitsNoFartherThan_35 : decode cX11_bitsNoFartherThan 35 = .ok (.iload_n 3, 1) := by decide +kernel
theorem dX11_bitsNoFartherThan_36 : decode cX11_bitsNoFartherThan 36 = .ok (.ishl, 1) := by decide +kernel
theorem dX11_bitsNoFartherThan_37 : decode cX11_bitsNoFartherThan 37 = .ok (.ior, 1) := by decide +kernel
theorem dX11_bitsNoFartherThan_38 : decode cX11_bitsNoFartherThan 38 = .ok (.istore_n 2, 1) := by decide +kernel
theorem dX11_bitsNoFartherThan_39 : decode cX11_bitsNoFartherThan 39 = .ok (.iinc 3 1, 3) := by decide +kernel
theorem dX11_bitsNoFartherThan_42 : decode cX11_bitsNoFartherThan 42 = .ok (.goto (-38), 3) := by decide +kernel
theorem dX11_bitsNoFartherThan_45 : decode cX11_bitsNoFartherThan 45 = .ok (.iload_n 2, 1) := by decide +kernel
theorem dX11_bitsNoFartherThan_46 : decode cX11_bitsNoFartherThan 46 = .ok (.ireturn, 1) := by decide +kernel
def f_X11_bitsNoFartherThan_K45 (x1 : Int32) (S2 : HSt) : Option (Int32 × HSt) := some (x1, S2)
def f_X11_bitsNoFartherThan_B4 (a0 : Nat) (a1 : Int32) (kx45 : (Int32 → HSt → Option (Int32 × HSt))) (kb4 : (Int32 → Int32 → HSt → Option (Int32 × HSt))) (x3 : Int32) (x4 : Int32) (S5 : HSt) : Option (Int32 × HSt) := (gI S5 a0 11 2).bind fun v6 => if v6 ≤ x4 then (kx45 x3 S5) else (if gC S5 a0 = some 11 then (bd2 (f_X11_tryAt S5 a0 x4) fun b12 S11 => oC b12 (kb4 x3 (x4 + 1) S11) fun r13 => (gIT S11 r13 7).bind fun v14 => if a1 < v14 then (kb4 x3 (x4 + 1) S11) else (kb4 (x3 ||| (1 <<< (x4 &&& 31))) (x4 + 1) S11)) else none)
def f_X11_bitsNoFartherThan_L4 (a0 : Nat) (a1 : Int32) (kx45 : (Int32 → HSt → Option (Int32 × HSt))) : Nat → Int32 → Int32 → HSt → Option (Int32 × HSt)
  | 0, _, _, _ => none
  | n + 1, x3, x4, S => f_X11_bitsNoFartherThan_B4 a0 a1 kx45 (f_X11_bitsNoFartherThan_L4 a0 a1 kx45 n) x3 x4 S
def f_X11_bitsNoFartherThan (S : HSt) (a0 : Nat) (a1 : Int32) : Option (Int32 × HSt) := (f_X11_bitsNoFartherThan_L4 a0 a1 f_X11_bitsNoFartherThan_K45 FU) 0 0 S
abbrev rm_X11_bitsNoFartherThan : Room := { frames := 1, cells := 0, slots := 0, locals := 21 }
abbrev w_X11_bitsNoFartherThan : List Cond := Cond.code yX11_bitsNoFartherThan cX11_bitsNoFartherThan 5 (Option.some FieldType.int) :: lwG
theorem yd_X11_bitsNoFartherThan : yX11_bitsNoFartherThan.cls ≠ "java/lang/invoke/MethodHandle" ∧ yX11_bitsNoFartherThan.cls ≠ "java/lang/invoke/VarHandle" ∧ (parseMethodDescriptor yX11_bitsNoFartherThan.desc).map (fun d => d.parameters.length) = some 1 := by decide +kernel
theorem ye_X11_bitsNoFartherThan : yX11_bitsNoFartherThan.cls = RX11 ∧ yX11_bitsNoFartherThan.cls ≠ "java/lang/invoke/MethodHandle" ∧ yX11_bitsNoFartherThan.cls ≠ "java/lang/invoke/VarHandle" ∧ (parseMethodDescriptor yX11_bitsNoFartherThan.desc).map (fun d => d.parameters.length) = some 1 := by decide +kernel
set_option maxHeartbeats 4000000 in
set_option maxRecDepth 100000 in
theorem c_X11_bitsNoFartherThan (l : Launch) (D : va_G) (kA ρ : Nat → Nat) (HB : Heap) (S : HSt) (a0 : Nat) (a1 : Int32) (res : Int32 × HSt) (h : f_X11_bitsNoFartherThan S a0 a1 = some res) : Met l yX11_bitsNoFartherThan w_X11_bitsNoFartherThan rm_X11_bitsNoFartherThan (hPc D kA ρ HB S [.ref a0, .int a1]) (hQi D kA HB S res) 0 0 (hFree HB) := by
  refine Met.ofW (cc := cX11_bitsNoFartherThan) (maxL := 5) (ret := (Option.some FieldType.int)) (by decide) rfl ?_
  intro p e s m args below meth c s₁ B hml hv
  obtain ⟨rfl, hE, h0⟩ := hv
  have hx := B.exec
  have hb := B.bytes
  have hr := B.returns
  have hts0 := atoms_spec (ws := w_X11_bitsNoFartherThan) B.pre
  have hts : ∀ w ∈ lwG, w.before _ s = true := fun w hw => hts0 w (List.mem_cons_of_mem _ hw)
  have hown : s.vm.findClass RX11 = some m.cls := findClass_of_methodNamed B.named
  have hlocks := B.notSynchronized
  have hI : hqX D kA HB S.2 S s.heap [] := ⟨h0, Nat.le_refl _, fun _ q => absurd q List.not_mem_nil⟩
  have hl := lv_entry ([.ref a0, .int a1]) (n := 5) (Nat.le_of_ble_eq_true rfl)
  rw [lg_entry_eq]
  generalize (lg_sl ([.ref a0, .int a1]) ++ List.replicate (5 - (lg_sl ([.ref a0, .int a1])).length) Slot.unset).toArray = ls at hl ⊢
  have hl : lv_has ls 5 [(0, .ref a0), (1, .int a1)] := hl
  unfold f_X11_bitsNoFartherThan at h
  refine lv_iconst (v := 0) hx hb dX11_bitsNoFartherThan_0 (by decide) ?_
  refine lv_istore_n (lv' := [(2, .int 0), (0, .ref a0), (1, .int a1)]) hx hb dX11_bitsNoFartherThan_1 rfl hl (by decide) rfl (fun ls hl => ?_)
  refine lv_iconst (v := 0) hx hb dX11_bitsNoFartherThan_2 (by decide) ?_
  refine lv_istore_n (lv' := [(3, .int 0), (2, .int 0), (0, .ref a0), (1, .int a1)]) hx hb dX11_bitsNoFartherThan_3 rfl hl (by decide) rfl (fun ls hl => ?_)
  have hK45 : ∀ (x1 : Int32) (S2 : HSt) (H : Heap) (locs : List Loc) (ls : Array Slot), f_X11_bitsNoFartherThan_K45 x1 S2 = some res → hqX D kA HB S.2 S2 H locs → lv_has ls 5 [(2, .int x1)] → W p l e rm_X11_bitsNoFartherThan s m ([.ref a0, .int a1] : List Value).toArray below meth c H locs 0 0 (MQ below (hQi D kA HB S res) ([.ref a0, .int a1] : List Value).toArray s 0 0 (hFree HB)) (F0 m 45 ls []) := by
    intro x1 S2 H locs ls h hI hl
    unfold f_X11_bitsNoFartherThan_K45 at h
    refine lv_iload_n hx hb dX11_bitsNoFartherThan_45 rfl (lv_at hl 0 rfl) ?_
    exact hq_iret hx hb hr hlocks h0 hI h dX11_bitsNoFartherThan_46
  have hL4 : ∀ (n4 : Nat) (x3 : Int32) (x4 : Int32) (S5 : HSt) (H : Heap) (locs : List Loc) (ls : Array Slot), (f_X11_bitsNoFartherThan_L4 a0 a1 f_X11_bitsNoFartherThan_K45 n4) x3 x4 S5 = some res → hqX D kA HB S.2 S5 H locs → lv_has ls 5 [(0, .ref a0), (1, .int a1), (2, .int x3), (3, .int x4)] → W p l e rm_X11_bitsNoFartherThan s m ([.ref a0, .int a1] : List Value).toArray below meth c H locs 0 0 (MQ below (hQi D kA HB S res) ([.ref a0, .int a1] : List Value).toArray s 0 0 (hFree HB)) (F0 m 4 ls []) := by
    intro n4
    induction n4 with
    | zero =>
      intro x3 x4 S5 H locs ls h
      have h : (none : Option (Int32 × HSt)) = some res := h
      cases h
    | succ n4 ih4 =>
      intro x3 x4 S5 H locs ls h hI hl
      have h : f_X11_bitsNoFartherThan_B4 a0 a1 f_X11_bitsNoFartherThan_K45 (f_X11_bitsNoFartherThan_L4 a0 a1 f_X11_bitsNoFartherThan_K45 n4) x3 x4 S5 = some res := h
      unfold f_X11_bitsNoFartherThan_B4 at h
      refine lv_iload_n hx hb dX11_bitsNoFartherThan_4 rfl (lv_at hl 3 rfl) ?_
      refine lv_aload_n hx hb dX11_bitsNoFartherThan_5 rfl (lv_at hl 0 rfl) ?_
      obtain ⟨v6, g7, h⟩ := hq_bind h
      obtain ⟨fs_g7, hs_g7, hv_g7⟩ := gI_at g7
      refine hq_get hx hb hts hown hE hI hs_g7 inG11 rfl 2 (by decide) kw_134 hv_g7 dX11_bitsNoFartherThan_6 ?_
      refine lv_icmp_ge (tgt := 45) hx hb dX11_bitsNoFartherThan_9 (by decide) (fun c8 => ?_) (fun c8 => ?_)
      · have h := hq_t h c8
        exact hK45 x3 S5 _ _ _ h hI (lv_sub hl [2] rfl)
      · have h := hq_f h c8
        refine lv_aload_n hx hb dX11_bitsNoFartherThan_12 rfl (lv_at hl 0 rfl) ?_
        refine lv_iload_n hx hb dX11_bitsNoFartherThan_13 rfl (lv_at hl 3 rfl) ?_
        obtain ⟨g10, h⟩ := hq_g h
        obtain ⟨b12, S11, g9, h⟩ := hq_bd2 h
        refine hq_callq hI (va_runV (As := [.int x4]) (rest := []) ⟨hx, hb, hml, hown, hts⟩ (c_X11_tryAt l D kA ρ HB S5 a0 x4 _ g9) (cwV 1 hts (gdIn (List.forall_mem_cons.mpr ⟨kw_354, (List.forall_mem_cons.mpr ⟨kw_356, (List.forall_mem_cons.mpr ⟨ks_2, (List.forall_mem_cons.mpr ⟨kw_1, (fun _ h => absurd h List.not_mem_nil)⟩)⟩)⟩)⟩) kw_357) rfl rfl rfl ye_X11_tryAt ⟨Nat.le_of_ble_eq_true rfl, Nat.le_of_ble_eq_true rfl⟩) (hq_preC hE hI g10 rfl _) rfl rfl hl.1 rfl (lv_room (Nat.le_of_ble_eq_true rfl)) dX11_bitsNoFartherThan_14 ⟨Nat.le_of_ble_eq_true rfl, Nat.le_of_ble_eq_true rfl⟩) (fun H locs hI => ?_)
        rcases b12 with _ | r13
        · have h := oC_n h
          refine lv_astoreN (lv' := [(4, .null), (0, .ref a0), (1, .int a1), (2, .int x3), (3, .int x4)]) hx hb dX11_bitsNoFartherThan_17 hl (by decide) rfl (fun ls hl => ?_)
          refine lv_aloadN hx hb dX11_bitsNoFartherThan_19 (lv_at hl 0 rfl) ?_
          refine lv_ifnullN (tgt := 39) hx hb dX11_bitsNoFartherThan_21 (by decide) ?_
          refine lv_iinc (v := (x4 + 1)) (lv' := [(3, .int (x4 + 1)), (4, .null), (0, .ref a0), (1, .int a1), (2, .int x3)]) hx hb dX11_bitsNoFartherThan_39 hl (k := 4) rfl rfl (by decide) rfl (fun ls hl => ?_)
          refine lv_goto (tgt := 4) hx hb dX11_bitsNoFartherThan_42 (by decide) ?_
          exact ih4 x3 (x4 + 1) S11 _ _ _ h hI (lv_sub hl [2, 3, 4, 0] rfl)
        · have h := oC_s h
          refine lv_astore (lv' := [(4, .ref r13), (0, .ref a0), (1, .int a1), (2, .int x3), (3, .int x4)]) hx hb dX11_bitsNoFartherThan_17 hl (by decide) rfl (fun ls hl => ?_)
          refine lv_aload hx hb dX11_bitsNoFartherThan_19 (lv_at hl 0 rfl) ?_
          refine lv_ifnull hx hb dX11_bitsNoFartherThan_21 ?_
          refine lv_aload hx hb dX11_bitsNoFartherThan_24 (lv_at hl 0 rfl) ?_
          obtain ⟨v14, g15, h⟩ := hq_bind h
          obtain ⟨c_g15, fs_g15, hk_g15, hs_g15, hv_g15⟩ := gIT_at g15
          obtain ⟨C_g15, hc_g15, hi_g15⟩ := hKin_at hk_g15
          refine hq_getN hx hb hts hown hE hI hs_g15 hi_g15 hc_g15 7 (by decide) kn_232 hv_g15 dX11_bitsNoFartherThan_26 ?_
          refine lv_iload_n hx hb dX11_bitsNoFartherThan_29 rfl (lv_at hl 2 rfl) ?_
          refine lv_icmp_gt (tgt := 39) hx hb dX11_bitsNoFartherThan_30 (by decide) (fun c16 => ?_) (fun c16 => ?_)
          · have h := hq_t h c16
            refine lv_iinc (v := (x4 + 1)) (lv' := [(3, .int (x4 + 1)), (4, .ref r13), (0, .ref a0), (1, .int a1), (2, .int x3)]) hx hb dX11_bitsNoFartherThan_39 hl (k := 4) rfl rfl (by decide) rfl (fun ls hl => ?_)
            refine lv_goto (tgt := 4) hx hb dX11_bitsNoFartherThan_42 (by decide) ?_
            exact ih4 x3 (x4 + 1) S11 _ _ _ h hI (lv_sub hl [2, 3, 4, 0] rfl)
          · have h := hq_f h c16
            refine lv_iload_n hx hb dX11_bitsNoFartherThan_33 rfl (lv_at hl 3 rfl) ?_
            refine lv_iconst (v := 1) hx hb dX11_bitsNoFartherThan_34 (by decide) ?_
            refine lv_iload_n hx hb dX11_bitsNoFartherThan_35 rfl (lv_at hl 4 rfl) ?_
            refine lv_ishl hx hb dX11_bitsNoFartherThan_36 ?_
            refine lv_ior hx hb dX11_bitsNoFartherThan_37 ?_
            refine lv_istore_n (lv' := [(2, .int (x3 ||| (1 <<< (x4 &&& 31)))), (4, .ref r13), (0, .ref a0), (1, .int a1), (3, .int x4)]) hx hb dX11_bitsNoFartherThan_38 rfl hl (by decide) rfl (fun ls hl => ?_)
            refine lv_iinc (v := (x4 + 1)) (lv' := [(3, .int (x4 + 1)), (2, .int (x3 ||| (1 <<< (x4 &&& 31)))), (4, .ref r13), (0, .ref a0), (1, .int a1)]) hx hb dX11_bitsNoFartherThan_39 hl (k := 4) rfl rfl (by decide) rfl (fun ls hl => ?_)
            refine lv_goto (tgt := 4) hx hb dX11_bitsNoFartherThan_42 (by decide) ?_
            exact ih4 (x3 ||| (1 <<< (x4 &&& 31))) (x4 + 1) S11 _ _ _ h hI (lv_sub hl [3, 4, 1, 0] rfl)
  exact hL4 FU 0 0 S _ _ _ h hI (lv_sub hl [2, 3, 1, 0] rfl)
-- RodDips.bitsExcusedAfter()I
theorem dX11_bitsExcusedAfter_0 : decode cX11_bitsExcusedAfter 0 = .ok (.iconst 0, 1) := by decide +kernel
theorem dX11_bitsExcusedAfter_1 : decode cX11_bitsExcusedAfter 1 = .ok (.istore_n 1, 1) := by decide +kernel
theorem dX11_bitsExcusedAfter_2 : decode cX11_bitsExcusedAfter 2 = .ok (.iconst 0, 1) := by decide +kernel
theorem dX11_bitsExcusedAfter_3 : decode cX11_bitsExcusedAfter 3 = .ok (.istore_n 2, 1) := by decide +kernel
theorem dX11_bitsExcusedAfter_4 : decode cX11_bitsExcusedAfter 4 = .ok (.iload_n 2, 1) := by decide +kernel
theorem dX11_bitsExcusedAfter_5 : decode cX11_bitsExcusedAfter 5 = .ok (.aload_n 0, 1) := by decide +kernel
theorem dX11_bitsExcusedAfter_6 : decode cX11_bitsExcusedAfter 6 = .ok (.getfield 21, 3) := by decide +kernel
theorem dX11_bitsExcusedAfter_9 : decode cX11_bitsExcusedAfter 9 = .ok (.if_icmp .ge 33, 3) := by decide +kernel
theorem dX11_bitsExcusedAfter_12 : decode cX11_bitsExcusedAfter 12 = .ok (.aload_n 0, 1) := by decide +kernel
theorem dX11_bitsExcusedAfter_13 : decode cX11_bitsExcusedAfter 13 = .ok (.iload_n 2, 1) := by decide +kernel
theorem dX11_bitsExcusedAfter_14 : decode cX11_bitsExcusedAfter 14 = .ok (.invokevirtual 130, 3) := by decide +kernel
theorem dX11_bitsExcusedAfter_17 : decode cX11_bitsExcusedAfter 17 = .ok (.astore_n 3, 1) := by decide +kernel
theorem dX11_bitsExcusedAfter_18 : decode cX11_bitsExcusedAfter 18 = .ok (.aload_n 3, 1) := by decide +kernel
theorem dX11_bitsExcusedAfter_19 : decode cX11_bitsExcusedAfter 19 = .ok (.ifnull 17, 3) := by decide +kernel
theorem dX11_bitsExcusedAfter_22 : decode cX11_bitsExcusedAfter 22 = .ok (.aload_n 3, 1) := by decide +kernel
theorem dX11_bitsExcusedAfter_23 : decode cX11_bitsExcusedAfter 23 = .ok (.getfield 133, 3) := by decide +kernel
theorem dX11_bitsExcusedAfter_26 : decode cX11_bitsExcusedAfter 26 = .ok (.iconst 2, 1) := by decide +kernel
theorem dX11_bitsExcusedAfter_27 : decode cX11_bitsExcusedAfter 27 = .ok (.if_icmp .ne 9, 3) := by decide +kernel
theorem dX11_bitsExcusedAfter_30 : decode cX11_bitsExcusedAfter 30 = .ok (.iload_n 1, 1) := by decide +kernel
theorem dX11_bitsExcusedAfter_31 : decode cX11_bitsExcusedAfter 31 = .ok (.iconst 1, 1) := by decide +kernel
theorem dX11_bitsExcusedAfter_32 : decode cX11_bitsExcusedAfter 32 = .ok (.iload_n 2, 1) := by decide +kernel
theorem dX11_bitsExcusedAfter_33 : decode cX11_bitsExcusedAfter 33 = .ok (.ishl, 1) := by decide +kernel
theorem dX11_bitsExcusedAfter_34 : decode cX11_bitsExcusedAfter 34 = .ok (.ior, 1) := by decide +kernel
theorem dX11_bitsExcusedAfter_35 : decode cX11_bitsExcusedAfter 35 = .ok (.istore_n 1, 1) := by decide +kernel
theorem dX11_bitsExcusedAfter_36 : decode cX11_bitsExcusedAfter 36 = .ok (.iinc 2 1, 3) := by decide +kernel
theorem dX11_bitsExcusedAfter_39 : decode cX11_bitsExcusedAfter 39 = .ok (.goto (-35), 3) := by decide +kernel
theorem dX11_bitsExcusedAfter_42 : decode cX11_bitsExcusedAfter 42 = .ok (.iload_n 1, 1) := by decide +kernel
theorem dX11_bitsExcusedAfter_43 : decode cX11_bitsExcusedAfter 43 = .ok (.ireturn, 1) := by decide +kernel
def f_X11_bitsExcusedAfter_K42 (x1 : Int32) (S2 : HSt) : Option (Int32 × HSt) := some (x1, S2)
def f_X11_bitsExcusedAfter_B4 (a0 : Nat) (kx42 : (Int32 → HSt → Option (Int32 × HSt))) (kb4 : (Int32 → Int32 → HSt → Option (Int32 × HSt))) (x3 : Int32) (x4 : Int32) (S5 : HSt) : Option (Int32 × HSt) := (gI S5 a0 11 2).bind fun v6 => if v6 ≤ x4 then (kx42 x3 S5) else (if gC S5 a0 = some 11 then (bd2 (f_X11_tryAt S5 a0 x4) fun b12 S11 => oC b12 (kb4 x3 (x4 + 1) S11) fun r13 => (gIT S11 r13 8).bind fun v14 => if v14 = 2 then (kb4 (x3 ||| (1 <<< (x4 &&& 31))) (x4 + 1) S11) else (kb4 x3 (x4 + 1) S11)) else none)
def f_X11_bitsExcusedAfter_L4 (a0 : Nat) (kx42 : (Int32 → HSt → Option (Int32 × HSt))) : Nat → Int32 → Int32 → HSt → Option (Int32 × HSt)
  | 0, _, _, _ => none
  | n + 1, x3, x4, S => f_X11_bitsExcusedAfter_B4 a0 kx42 (f_X11_bitsExcusedAfter_L4 a0 kx42 n) x3 x4 S
def f_X11_bitsExcusedAfter (S : HSt) (a0 : Nat) : Option (Int32 × HSt) := (f_X11_bitsExcusedAfter_L4 a0 f_X11_bitsExcusedAfter_K42 FU) 0 0 S
abbrev rm_X11_bitsExcusedAfter : Room := { frames := 1, cells := 0, slots := 0, locals := 21 }
abbrev w_X11_bitsExcusedAfter : List Cond := Cond.code yX11_bitsExcusedAfter cX11_bitsExcusedAfter 4 (Option.some FieldType.int) :: lwG
theorem yd_X11_bitsExcusedAfter : yX11_bitsExcusedAfter.cls ≠ "java/lang/invoke/MethodHandle" ∧ yX11_bitsExcusedAfter.cls ≠ "java/lang/invoke/VarHandle" ∧ (parseMethodDescriptor yX11_bitsExcusedAfter.desc).map (fun d => d.parameters.length) = some 0 := by decide +kernel
theorem ye_X11_bitsExcusedAfter : yX11_bitsExcusedAfter.cls = RX11 ∧ yX11_bitsExcusedAfter.cls ≠ "java/lang/invoke/MethodHandle" ∧ yX11_bitsExcusedAfter.cls ≠ "java/lang/invoke/VarHandle" ∧ (parseMethodDescriptor yX11_bitsExcusedAfter.desc).map (fun d => d.parameters.length) = some 0 := by decide +kernel
set_option maxHeartbeats 4000000 in
set_option maxRecDepth 100000 in
theorem c_X11_bitsExcusedAfter (l : Launch) (D : va_G) (kA ρ : Nat → Nat) (HB : Heap) (S : HSt) (a0 : Nat) (res : Int32 × HSt) (h : f_X11_bitsExcusedAfter S a0 = some res) : Met l yX11_bitsExcusedAfter w_X11_bitsExcusedAfter rm_X11_bitsExcusedAfter (hPc D kA ρ HB S [.ref a0]) (hQi D kA HB S res) 0 0 (hFree HB) := by
  refine Met.ofW (cc := cX11_bitsExcusedAfter) (maxL := 4) (ret := (Option.some FieldType.int)) (by decide) rfl ?_
  intro p e s m args below meth c s₁ B hml hv
  obtain ⟨rfl, hE, h0⟩ := hv
  have hx := B.exec
  have hb := B.bytes
  have hr := B.returns
  have hts0 := atoms_spec (ws := w_X11_bitsExcusedAfter) B.pre
  have hts : ∀ w ∈ lwG, w.before _ s = true := fun w hw => hts0 w (List.mem_cons_of_mem _ hw)
  have hown : s.vm.findClass RX11 = some m.cls := findClass_of_methodNamed B.named
  have hlocks := B.notSynchronized
  have hI : hqX D kA HB S.2 S s.heap [] := ⟨h0, Nat.le_refl _, fun _ q => absurd q List.not_mem_nil⟩
  have hl := lv_entry ([.ref a0]) (n := 4) (Nat.le_of_ble_eq_true rfl)
  rw [lg_entry_eq]
  generalize (lg_sl ([.ref a0]) ++ List.replicate (4 - (lg_sl ([.ref a0])).length) Slot.unset).toArray = ls at hl ⊢
  have hl : lv_has ls 4 [(0, .ref a0)] := hl
  unfold f_X11_bitsExcusedAfter at h
  refine lv_iconst (v := 0) hx hb dX11_bitsExcusedAfter_0 (by decide) ?_
  refine lv_istore_n (lv' := [(1, .int 0), (0, .ref a0)]) hx hb dX11_bitsExcusedAfter_1 rfl hl (by decide) rfl (fun ls hl => ?_)
  refine lv_iconst (v := 0) hx hb dX11_bitsExcusedAfter_2 (by decide) ?_
  refine lv_istore_n (lv' := [(2, .int 0), (1, .int 0), (0, .ref a0)]) hx hb dX11_bitsExcusedAfter_3 rfl hl (by decide) rfl (fun ls hl => ?_)
  have hK42 : ∀ (x1 : Int32) (S2 : HSt) (H : Heap) (locs : List Loc) (ls : Array Slot), f_X11_bitsExcusedAfter_K42 x1 S2 = some res → hqX D kA HB S.2 S2 H locs → lv_has ls 4 [(1, .int x1)] → W p l e rm_X11_bitsExcusedAfter s m ([.ref a0] : List Value).toArray below meth c H locs 0 0 (MQ below (hQi D kA HB S res) ([.ref a0] : List Value).toArray s 0 0 (hFree HB)) (F0 m 42 ls []) := by
    intro x1 S2 H locs ls h hI hl
    unfold f_X11_bitsExcusedAfter_K42 at h
    refine lv_iload_n hx hb dX11_bitsExcusedAfter_42 rfl (lv_at hl 0 rfl) ?_
    exact hq_iret hx hb hr hlocks h0 hI h dX11_bitsExcusedAfter_43
  have hL4 : ∀ (n4 : Nat) (x3 : Int32) (x4 : Int32) (S5 : HSt) (H : Heap) (locs : List Loc) (ls : Array Slot), (f_X11_bitsExcusedAfter_L4 a0 f_X11_bitsExcusedAfter_K42 n4) x3 x4 S5 = some res → hqX D kA HB S.2 S5 H locs → lv_has ls 4 [(0, .ref a0), (1, .int x3), (2, .int x4)] → W p l e rm_X11_bitsExcusedAfter s m ([.ref a0] : List Value).toArray below meth c H locs 0 0 (MQ below (hQi D kA HB S res) ([.ref a0] : List Value).toArray s 0 0 (hFree HB)) (F0 m 4 ls []) := by
    intro n4
    induction n4 with
    | zero =>
      intro x3 x4 S5 H locs ls h
      have h : (none : Option (Int32 × HSt)) = some res := h
      cases h
    | succ n4 ih4 =>
      intro x3 x4 S5 H locs ls h hI hl
      have h : f_X11_bitsExcusedAfter_B4 a0 f_X11_bitsExcusedAfter_K42 (f_X11_bitsExcusedAfter_L4 a0 f_X11_bitsExcusedAfter_K42 n4) x3 x4 S5 = some res := h
      unfold f_X11_bitsExcusedAfter_B4 at h
      refine lv_iload_n hx hb dX11_bitsExcusedAfter_4 rfl (lv_at hl 2 rfl) ?_
      refine lv_aload_n hx hb dX11_bitsExcusedAfter_5 rfl (lv_at hl 0 rfl) ?_
      obtain ⟨v6, g7, h⟩ := hq_bind h
      obtain ⟨fs_g7, hs_g7, hv_g7⟩ := gI_at g7
      refine hq_get hx hb hts hown hE hI hs_g7 inG11 rfl 2 (by decide) kw_134 hv_g7 dX11_bitsExcusedAfter_6 ?_
      refine lv_icmp_ge (tgt := 42) hx hb dX11_bitsExcusedAfter_9 (by decide) (fun c8 => ?_) (fun c8 => ?_)
      · have h := hq_t h c8
        exact hK42 x3 S5 _ _ _ h hI (lv_sub hl [1] rfl)
      · have h := hq_f h c8
        refine lv_aload_n hx hb dX11_bitsExcusedAfter_12 rfl (lv_at hl 0 rfl) ?_
        refine lv_iload_n hx hb dX11_bitsExcusedAfter_13 rfl (lv_at hl 2 rfl) ?_
        obtain ⟨g10, h⟩ := hq_g h
        obtain ⟨b12, S11, g9, h⟩ := hq_bd2 h
        refine hq_callq hI (va_runV (As := [.int x4]) (rest := []) ⟨hx, hb, hml, hown, hts⟩ (c_X11_tryAt l D kA ρ HB S5 a0 x4 _ g9) (cwV 1 hts (gdIn (List.forall_mem_cons.mpr ⟨kw_354, (List.forall_mem_cons.mpr ⟨kw_356, (List.forall_mem_cons.mpr ⟨ks_2, (List.forall_mem_cons.mpr ⟨kw_1, (fun _ h => absurd h List.not_mem_nil)⟩)⟩)⟩)⟩) kw_357) rfl rfl rfl ye_X11_tryAt ⟨Nat.le_of_ble_eq_true rfl, Nat.le_of_ble_eq_true rfl⟩) (hq_preC hE hI g10 rfl _) rfl rfl hl.1 rfl (lv_room (Nat.le_of_ble_eq_true rfl)) dX11_bitsExcusedAfter_14 ⟨Nat.le_of_ble_eq_true rfl, Nat.le_of_ble_eq_true rfl⟩) (fun H locs hI => ?_)
        rcases b12 with _ | r13
        · have h := oC_n h
          refine lv_astore_nN (lv' := [(3, .null), (0, .ref a0), (1, .int x3), (2, .int x4)]) hx hb dX11_bitsExcusedAfter_17 rfl hl (by decide) rfl (fun ls hl => ?_)
          refine lv_aload_nN hx hb dX11_bitsExcusedAfter_18 rfl (lv_at hl 0 rfl) ?_
          refine lv_ifnullN (tgt := 36) hx hb dX11_bitsExcusedAfter_19 (by decide) ?_
          refine lv_iinc (v := (x4 + 1)) (lv' := [(2, .int (x4 + 1)), (3, .null), (0, .ref a0), (1, .int x3)]) hx hb dX11_bitsExcusedAfter_36 hl (k := 3) rfl rfl (by decide) rfl (fun ls hl => ?_)
          refine lv_goto (tgt := 4) hx hb dX11_bitsExcusedAfter_39 (by decide) ?_
          exact ih4 x3 (x4 + 1) S11 _ _ _ h hI (lv_sub hl [2, 3, 0] rfl)
        · have h := oC_s h
          refine lv_astore_n (lv' := [(3, .ref r13), (0, .ref a0), (1, .int x3), (2, .int x4)]) hx hb dX11_bitsExcusedAfter_17 rfl hl (by decide) rfl (fun ls hl => ?_)
          refine lv_aload_n hx hb dX11_bitsExcusedAfter_18 rfl (lv_at hl 0 rfl) ?_
          refine lv_ifnull hx hb dX11_bitsExcusedAfter_19 ?_
          refine lv_aload_n hx hb dX11_bitsExcusedAfter_22 rfl (lv_at hl 0 rfl) ?_
          obtain ⟨v14, g15, h⟩ := hq_bind h
          obtain ⟨c_g15, fs_g15, hk_g15, hs_g15, hv_g15⟩ := gIT_at g15
          obtain ⟨C_g15, hc_g15, hi_g15⟩ := hKin_at hk_g15
          refine hq_getN hx hb hts hown hE hI hs_g15 hi_g15 hc_g15 8 (by decide) kn_234 hv_g15 dX11_bitsExcusedAfter_23 ?_
          refine lv_iconst (v := 2) hx hb dX11_bitsExcusedAfter_26 (by decide) ?_
          refine lv_icmp_ne (tgt := 36) hx hb dX11_bitsExcusedAfter_27 (by decide) (fun c16 => ?_) (fun c16 => ?_)
          · have h := hq_f h c16
            refine lv_iinc (v := (x4 + 1)) (lv' := [(2, .int (x4 + 1)), (3, .ref r13), (0, .ref a0), (1, .int x3)]) hx hb dX11_bitsExcusedAfter_36 hl (k := 3) rfl rfl (by decide) rfl (fun ls hl => ?_)
            refine lv_goto (tgt := 4) hx hb dX11_bitsExcusedAfter_39 (by decide) ?_
            exact ih4 x3 (x4 + 1) S11 _ _ _ h hI (lv_sub hl [2, 3, 0] rfl)
          · have h := hq_t h c16
            refine lv_iload_n hx hb dX11_bitsExcusedAfter_30 rfl (lv_at hl 2 rfl) ?_
            refine lv_iconst (v := 1) hx hb dX11_bitsExcusedAfter_31 (by decide) ?_
            refine lv_iload_n hx hb dX11_bitsExcusedAfter_32 rfl (lv_at hl 3 rfl) ?_
            refine lv_ishl hx hb dX11_bitsExcusedAfter_33 ?_
            refine lv_ior hx hb dX11_bitsExcusedAfter_34 ?_
            refine lv_istore_n (lv' := [(1, .int (x3 ||| (1 <<< (x4 &&& 31)))), (3, .ref r13), (0, .ref a0), (2, .int x4)]) hx hb dX11_bitsExcusedAfter_35 rfl hl (by decide) rfl (fun ls hl => ?_)
            refine lv_iinc (v := (x4 + 1)) (lv' := [(2, .int (x4 + 1)), (1, .int (x3 ||| (1 <<< (x4 &&& 31)))), (3, .ref r13), (0, .ref a0)]) hx hb dX11_bitsExcusedAfter_36 hl (k := 3) rfl rfl (by decide) rfl (fun ls hl => ?_)
            refine lv_goto (tgt := 4) hx hb dX11_bitsExcusedAfter_39 (by decide) ?_
            exact ih4 (x3 ||| (1 <<< (x4 &&& 31))) (x4 + 1) S11 _ _ _ h hI (lv_sub hl [3, 1, 0] rfl)
  exact hL4 FU 0 0 S _ _ _ h hI (lv_sub hl [2, 1, 0] rfl)
-- RodDips.countedBits(LRodDips$Text;)I
theorem dX11_countedBits_0 : decode cX11_countedBits 0 = .ok (.iconst 0, 1) := by decide +kernel
theorem dX11_countedBits_1 : decode cX11_countedBits 1 = .ok (.istore_n 2, 1) := by decide +kernel
theorem dX11_countedBits_2 : decode cX11_countedBits 2 = .ok (.iconst 0, 1) := by decide +kernel
theorem dX11_countedBits_3 : decode cX11_countedBits 3 = .ok (.istore_n 3, 1) := by decide +kernel
theorem dX11_countedBits_4 : decode cX11_countedBits 4 = .ok (.iload_n 3, 1) := by decide +kernel
theorem dX11_countedBits_5 : decode cX11_countedBits 5 = .ok (.aload_n 0, 1) := by decide +kernel
theorem dX11_countedBits_6 : decode cX11_countedBits 6 = .ok (.getfield 21, 3) := by decide +kernel
theorem dX11_countedBits_9 : decode cX11_countedBits 9 = .ok (.if_icmp .ge 36, 3) := by decide +kernel
theorem dX11_countedBits_12 : decode cX11_countedBits 12 = .ok (.aload_n 0, 1) := by decide +kernel
theorem dX11_countedBits_13 : decode cX11_countedBits 13 = .ok (.iload_n 3, 1) := by decide +kernel
theorem dX11_countedBits_14 : decode cX11_countedBits 14 = .ok (.invokevirtual 130, 3) := by decide +kernel
theorem dX11_countedBits_17 : decode cX11_countedBits 17 = .ok (.astore 4, 2) := by decide +kernel
theorem dX11_countedBits_19 : decode cX11_countedBits 19 = .ok (.aload 4, 2) := by decide +kernel
theorem dX11_countedBits_21 : decode cX11_countedBits 21 = .ok (.ifnull 18, 3) := by decide +kernel
theorem dX11_countedBits_24 : decode cX11_countedBits 24 = .ok (.aload_n 1, 1) := by decide +kernel
theorem dX11_countedBits_25 : decode cX11_countedBits 25 = .ok (.aload 4, 2) := by decide +kernel
theorem dX11_countedBits_27 : decode cX11_countedBits 27 = .ok (.invokevirtual 316, 3) := by decide +kernel
theorem dX11_countedBits_30 : decode cX11_countedBits 30 = .ok (.ifCond .eq 9, 3) := by decide +kernel
theorem dX11_countedBits_33 : decode cX11_countedBits 33 = .ok (.iload_n 2, 1) := by decide +kernel
theorem dX11_countedBits_34 : decode cX11_countedBits 34 = .ok (.iconst 1, 1) := by decide +kernel
theorem dX11_countedBits_35 : decode cX11_countedBits 35 = .ok (.iload_n 3, 1) := by decide +kernel
theorem dX11_countedBits_36 : decode cX11_countedBits 36 = .ok (.ishl, 1) := by decide +kernel
theorem dX11_countedBits_37 : decode cX11_countedBits 37 = .ok (.ior, 1) := by decide +kernel
theorem dX11_countedBits_38 : decode cX11_countedBits 38 = .ok (.istore_n 2, 1) := by decide +kernel
theorem dX11_countedBits_39 : decode cX11_countedBits 39 = .ok (.iinc 3 1, 3) := by decide +kernel
theorem dX11_countedBits_42 : decode cX11_countedBits 42 = .ok (.goto (-38), 3) := by decide +kernel
theorem dX11_countedBits_45 : decode cX11_countedBits 45 = .ok (.iload_n 2, 1) := by decide +kernel
theorem dX11_countedBits_46 : decode cX11_countedBits 46 = .ok (.ireturn, 1) := by decide +kernel
def f_X11_countedBits_K45 (x1 : Int32) (S2 : HSt) : Option (Int32 × HSt) := some (x1, S2)
def f_X11_countedBits_B4 (a0 : Nat) (a1 : Nat) (kx45 : (Int32 → HSt → Option (Int32 × HSt))) (kb4 : (Int32 → Int32 → HSt → Option (Int32 × HSt))) (x3 : Int32) (x4 : Int32) (S5 : HSt) : Option (Int32 × HSt) := (gI S5 a0 11 2).bind fun v6 => if v6 ≤ x4 then (kx45 x3 S5) else (if gC S5 a0 = some 11 then (bd2 (f_X11_tryAt S5 a0 x4) fun b12 S11 => oC b12 (kb4 x3 (x4 + 1) S11) fun r13 => if gC S11 a1 = some 7 then (bd2 (f_X7_counts S11 a1 r13) fun v17 S16 => if v17 = 0 then (kb4 x3 (x4 + 1) S16) else (kb4 (x3 ||| (1 <<< (x4 &&& 31))) (x4 + 1) S16)) else none) else none)
def f_X11_countedBits_L4 (a0 : Nat) (a1 : Nat) (kx45 : (Int32 → HSt → Option (Int32 × HSt))) : Nat → Int32 → Int32 → HSt → Option (Int32 × HSt)
  | 0, _, _, _ => none
  | n + 1, x3, x4, S => f_X11_countedBits_B4 a0 a1 kx45 (f_X11_countedBits_L4 a0 a1 kx45 n) x3 x4 S
def f_X11_countedBits (S : HSt) (a0 : Nat) (a1 : Nat) : Option (Int32 × HSt) := (f_X11_countedBits_L4 a0 a1 f_X11_countedBits_K45 FU) 0 0 S
abbrev rm_X11_countedBits : Room := { frames := 4, cells := 0, slots := 0, locals := 98 }
abbrev w_X11_countedBits : List Cond := Cond.code yX11_countedBits cX11_countedBits 5 (Option.some FieldType.int) :: lwG
theorem yd_X11_countedBits : yX11_countedBits.cls ≠ "java/lang/invoke/MethodHandle" ∧ yX11_countedBits.cls ≠ "java/lang/invoke/VarHandle" ∧ (parseMethodDescriptor yX11_countedBits.desc).map (fun d => d.parameters.length) = some 1 := by decide +kernel
theorem ye_X11_countedBits : yX11_countedBits.cls = RX11 ∧ yX11_countedBits.cls ≠ "java/lang/invoke/MethodHandle" ∧ yX11_countedBits.cls ≠ "java/lang/invoke/VarHandle" ∧ (parseMethodDescriptor yX11_countedBits.desc).map (fun d => d.parameters.length) = some 1 := by decide +kernel
set_option maxHeartbeats 4000000 in
set_option maxRecDepth 100000 in
theorem c_X11_countedBits (l : Launch) (D : va_G) (kA ρ : Nat → Nat) (HB : Heap) (S : HSt) (a0 : Nat) (a1 : Nat) (res : Int32 × HSt) (h : f_X11_countedBits S a0 a1 = some res) : Met l yX11_countedBits w_X11_countedBits rm_X11_countedBits (hPc D kA ρ HB S [.ref a0, .ref a1]) (hQi D kA HB S res) 0 0 (hFree HB) := by
  refine Met.ofW (cc := cX11_countedBits) (maxL := 5) (ret := (Option.some FieldType.int)) (by decide) rfl ?_
  intro p e s m args below meth c s₁ B hml hv
  obtain ⟨rfl, hE, h0⟩ := hv
  have hx := B.exec
  have hb := B.bytes
  have hr := B.returns
  have hts0 := atoms_spec (ws := w_X11_countedBits) B.pre
  have hts : ∀ w ∈ lwG, w.before _ s = true := fun w hw => hts0 w (List.mem_cons_of_mem _ hw)
  have hown : s.vm.findClass RX11 = some m.cls := findClass_of_methodNamed B.named
  have hlocks := B.notSynchronized
  have hI : hqX D kA HB S.2 S s.heap [] := ⟨h0, Nat.le_refl _, fun _ q => absurd q List.not_mem_nil⟩
  have hl := lv_entry ([.ref a0, .ref a1]) (n := 5) (Nat.le_of_ble_eq_true rfl)
  rw [lg_entry_eq]
  generalize (lg_sl ([.ref a0, .ref a1]) ++ List.replicate (5 - (lg_sl ([.ref a0, .ref a1])).length) Slot.unset).toArray = ls at hl ⊢
  have hl : lv_has ls 5 [(0, .ref a0), (1, .ref a1)] := hl
  unfold f_X11_countedBits at h
  refine lv_iconst (v := 0) hx hb dX11_countedBits_0 (by decide) ?_
  refine lv_istore_n (lv' := [(2, .int 0), (0, .ref a0), (1, .ref a1)]) hx hb dX11_countedBits_1 rfl hl (by decide) rfl (fun ls hl => ?_)
  refine lv_iconst (v := 0) hx hb dX11_countedBits_2 (by decide) ?_
  refine lv_istore_n (lv' := [(3, .int 0), (2, .int 0), (0, .ref a0), (1, .ref a1)]) hx hb dX11_countedBits_3 rfl hl (by decide) rfl (fun ls hl => ?_)
  have hK45 : ∀ (x1 : Int32) (S2 : HSt) (H : Heap) (locs : List Loc) (ls : Array Slot), f_X11_countedBits_K45 x1 S2 = some res → hqX D kA HB S.2 S2 H locs → lv_has ls 5 [(2, .int x1)] → W p l e rm_X11_countedBits s m ([.ref a0, .ref a1] : List Value).toArray below meth c H locs 0 0 (MQ below (hQi D kA HB S res) ([.ref a0, .ref a1] : List Value).toArray s 0 0 (hFree HB)) (F0 m 45 ls []) := by
    intro x1 S2 H locs ls h hI hl
    unfold f_X11_countedBits_K45 at h
    refine lv_iload_n hx hb dX11_countedBits_45 rfl (lv_at hl 0 rfl) ?_
    exact hq_iret hx hb hr hlocks h0 hI h dX11_countedBits_46
  have hL4 : ∀ (n4 : Nat) (x3 : Int32) (x4 : Int32) (S5 : HSt) (H : Heap) (locs : List Loc) (ls : Array Slot), (f_X11_countedBits_L4 a0 a1 f_X11_countedBits_K45 n4) x3 x4 S5 = some res → hqX D kA HB S.2 S5 H locs → lv_has ls 5 [(0, .ref a0), (1, .ref a1), (2, .int x3), (3, .int x4)] → W p l e rm_X11_countedBits s m ([.ref a0, .ref a1] : List Value).toArray below meth c H locs 0 0 (MQ below (hQi D kA HB S res) ([.ref a0, .ref a1] : List Value).toArray s 0 0 (hFree HB)) (F0 m 4 ls []) := by
    intro n4
    induction n4 with
    | zero =>
      intro x3 x4 S5 H locs ls h
      have h : (none : Option (Int32 × HSt)) = some res := h
      cases h
    | succ n4 ih4 =>
      intro x3 x4 S5 H locs ls h hI hl
      have h : f_X11_countedBits_B4 a0 a1 f_X11_countedBits_K45 (f_X11_countedBits_L4 a0 a1 f_X11_countedBits_K45 n4) x3 x4 S5 = some res := h
      unfold f_X11_countedBits_B4 at h
      refine lv_iload_n hx hb dX11_countedBits_4 rfl (lv_at hl 3 rfl) ?_
      refine lv_aload_n hx hb dX11_countedBits_5 rfl (lv_at hl 0 rfl) ?_
      obtain ⟨v6, g7, h⟩ := hq_bind h
      obtain ⟨fs_g7, hs_g7, hv_g7⟩ := gI_at g7
      refine hq_get hx hb hts hown hE hI hs_g7 inG11 rfl 2 (by decide) kw_134 hv_g7 dX11_countedBits_6 ?_
      refine lv_icmp_ge (tgt := 45) hx hb dX11_countedBits_9 (by decide) (fun c8 => ?_) (fun c8 => ?_)
      · have h := hq_t h c8
        exact hK45 x3 S5 _ _ _ h hI (lv_sub hl [2] rfl)
      · have h := hq_f h c8
        refine lv_aload_n hx hb dX11_countedBits_12 rfl (lv_at hl 0 rfl) ?_
        refine lv_iload_n hx hb dX11_countedBits_13 rfl (lv_at hl 3 rfl) ?_
        obtain ⟨g10, h⟩ := hq_g h
        obtain ⟨b12, S11, g9, h⟩ := hq_bd2 h
        refine hq_callq hI (va_runV (As := [.int x4]) (rest := []) ⟨hx, hb, hml, hown, hts⟩ (c_X11_tryAt l D kA ρ HB S5 a0 x4 _ g9) (cwV 1 hts (gdIn (List.forall_mem_cons.mpr ⟨kw_354, (List.forall_mem_cons.mpr ⟨kw_356, (List.forall_mem_cons.mpr ⟨ks_2, (List.forall_mem_cons.mpr ⟨kw_1, (fun _ h => absurd h List.not_mem_nil)⟩)⟩)⟩)⟩) kw_357) rfl rfl rfl ye_X11_tryAt ⟨Nat.le_of_ble_eq_true rfl, Nat.le_of_ble_eq_true rfl⟩) (hq_preC hE hI g10 rfl _) rfl rfl hl.1 rfl (lv_room (Nat.le_of_ble_eq_true rfl)) dX11_countedBits_14 ⟨Nat.le_of_ble_eq_true rfl, Nat.le_of_ble_eq_true rfl⟩) (fun H locs hI => ?_)
        rcases b12 with _ | r13
        · have h := oC_n h
          refine lv_astoreN (lv' := [(4, .null), (0, .ref a0), (1, .ref a1), (2, .int x3), (3, .int x4)]) hx hb dX11_countedBits_17 hl (by decide) rfl (fun ls hl => ?_)
          refine lv_aloadN hx hb dX11_countedBits_19 (lv_at hl 0 rfl) ?_
          refine lv_ifnullN (tgt := 39) hx hb dX11_countedBits_21 (by decide) ?_
          refine lv_iinc (v := (x4 + 1)) (lv' := [(3, .int (x4 + 1)), (4, .null), (0, .ref a0), (1, .ref a1), (2, .int x3)]) hx hb dX11_countedBits_39 hl (k := 4) rfl rfl (by decide) rfl (fun ls hl => ?_)
          refine lv_goto (tgt := 4) hx hb dX11_countedBits_42 (by decide) ?_
          exact ih4 x3 (x4 + 1) S11 _ _ _ h hI (lv_sub hl [2, 3, 4, 0] rfl)
        · have h := oC_s h
          refine lv_astore (lv' := [(4, .ref r13), (0, .ref a0), (1, .ref a1), (2, .int x3), (3, .int x4)]) hx hb dX11_countedBits_17 hl (by decide) rfl (fun ls hl => ?_)
          refine lv_aload hx hb dX11_countedBits_19 (lv_at hl 0 rfl) ?_
          refine lv_ifnull hx hb dX11_countedBits_21 ?_
          refine lv_aload_n hx hb dX11_countedBits_24 rfl (lv_at hl 2 rfl) ?_
          refine lv_aload hx hb dX11_countedBits_25 (lv_at hl 0 rfl) ?_
          obtain ⟨g15, h⟩ := hq_g h
          obtain ⟨v17, S16, g14, h⟩ := hq_bd2 h
          refine hq_calli hI (va_runV (As := [.ref r13]) (rest := []) ⟨hx, hb, hml, hown, hts⟩ (c_X7_counts l D kA ρ HB S11 a1 r13 _ g14) (cwV 1 hts (gdIn (List.forall_mem_cons.mpr ⟨kw_565, (List.forall_mem_cons.mpr ⟨kw_566, (List.forall_mem_cons.mpr ⟨kw_567, (List.forall_mem_cons.mpr ⟨kw_5, (fun _ h => absurd h List.not_mem_nil)⟩)⟩)⟩)⟩) kw_568) rfl rfl rfl ye_X7_counts ⟨Nat.le_of_ble_eq_true rfl, Nat.le_of_ble_eq_true rfl⟩) (hq_preC hE hI g15 rfl _) rfl rfl hl.1 rfl (lv_room (Nat.le_of_ble_eq_true rfl)) dX11_countedBits_27 ⟨Nat.le_of_ble_eq_true rfl, Nat.le_of_ble_eq_true rfl⟩) (fun H locs hI => ?_)
          refine lv_if_eq (tgt := 39) hx hb dX11_countedBits_30 (by decide) (fun c18 => ?_) (fun c18 => ?_)
          · have h := hq_t h c18
            refine lv_iinc (v := (x4 + 1)) (lv' := [(3, .int (x4 + 1)), (4, .ref r13), (0, .ref a0), (1, .ref a1), (2, .int x3)]) hx hb dX11_countedBits_39 hl (k := 4) rfl rfl (by decide) rfl (fun ls hl => ?_)
            refine lv_goto (tgt := 4) hx hb dX11_countedBits_42 (by decide) ?_
            exact ih4 x3 (x4 + 1) S16 _ _ _ h hI (lv_sub hl [2, 3, 4, 0] rfl)
          · have h := hq_f h c18
            refine lv_iload_n hx hb dX11_countedBits_33 rfl (lv_at hl 3 rfl) ?_
            refine lv_iconst (v := 1) hx hb dX11_countedBits_34 (by decide) ?_
            refine lv_iload_n hx hb dX11_countedBits_35 rfl (lv_at hl 4 rfl) ?_
            refine lv_ishl hx hb dX11_countedBits_36 ?_
            refine lv_ior hx hb dX11_countedBits_37 ?_
            refine lv_istore_n (lv' := [(2, .int (x3 ||| (1 <<< (x4 &&& 31)))), (4, .ref r13), (0, .ref a0), (1, .ref a1), (3, .int x4)]) hx hb dX11_countedBits_38 rfl hl (by decide) rfl (fun ls hl => ?_)
            refine lv_iinc (v := (x4 + 1)) (lv' := [(3, .int (x4 + 1)), (2, .int (x3 ||| (1 <<< (x4 &&& 31)))), (4, .ref r13), (0, .ref a0), (1, .ref a1)]) hx hb dX11_countedBits_39 hl (k := 4) rfl rfl (by decide) rfl (fun ls hl => ?_)
            refine lv_goto (tgt := 4) hx hb dX11_countedBits_42 (by decide) ?_
            exact ih4 (x3 ||| (1 <<< (x4 &&& 31))) (x4 + 1) S16 _ _ _ h hI (lv_sub hl [3, 4, 1, 0] rfl)
  exact hL4 FU 0 0 S _ _ _ h hI (lv_sub hl [2, 3, 1, 0] rfl)
-- RodDips.hitBits(LRodDips$Text;)I
theorem dX11_hitBits_0 : decode cX11_hitBits 0 = .ok (.aload_n 0, 1) := by decide +kernel
theorem dX11_hitBits_1 : decode cX11_hitBits 1 = .ok (.aload_n 1, 1) := by decide +kernel
theorem dX11_hitBits_2 : decode cX11_hitBits 2 = .ok (.invokevirtual 157, 3) := by decide +kernel
theorem dX11_hitBits_5 : decode cX11_hitBits 5 = .ok (.aload_n 0, 1) := by decide +kernel
theorem dX11_hitBits_6 : decode cX11_hitBits 6 = .ok (.aload_n 1, 1) := by decide +kernel
theorem dX11_hitBits_7 : decode cX11_hitBits 7 = .ok (.getfield 151, 3) := by decide +kernel
theorem dX11_hitBits_10 : decode cX11_hitBits 10 = .ok (.invokevirtual 320, 3) := by decide +kernel
theorem dX11_hitBits_13 : decode cX11_hitBits 13 = .ok (.iand, 1) := by decide +kernel
theorem dX11_hitBits_14 : decode cX11_hitBits 14 = .ok (.ireturn, 1) := by decide +kernel
def f_X11_hitBits (S : HSt) (a0 : Nat) (a1 : Nat) : Option (Int32 × HSt) := if gC S a0 = some 11 then (bd2 (f_X11_countedBits S a0 a1) fun v4 S3 => (gI S3 a1 7 8).bind fun v5 => if gC S3 a0 = some 11 then (bd2 (f_X11_bitsNoFartherThan S3 a0 v5) fun v10 S9 => some (v4 &&& v10, S9)) else none) else none
abbrev rm_X11_hitBits : Room := { frames := 5, cells := 0, slots := 0, locals := 122 }
abbrev w_X11_hitBits : List Cond := Cond.code yX11_hitBits cX11_hitBits 2 (Option.some FieldType.int) :: lwG
theorem yd_X11_hitBits : yX11_hitBits.cls ≠ "java/lang/invoke/MethodHandle" ∧ yX11_hitBits.cls ≠ "java/lang/invoke/VarHandle" ∧ (parseMethodDescriptor yX11_hitBits.desc).map (fun d => d.parameters.length) = some 1 := by decide +kernel
theorem ye_X11_hitBits : yX11_hitBits.cls = RX11 ∧ yX11_hitBits.cls ≠ "java/lang/invoke/MethodHandle" ∧ yX11_hitBits.cls ≠ "java/lang/invoke/VarHandle" ∧ (parseMethodDescriptor yX11_hitBits.desc).map (fun d => d.parameters.length) = some 1 := by decide +kernel
set_option maxHeartbeats 4000000 in
set_option maxRecDepth 100000 in
theorem c_X11_hitBits (l : Launch) (D : va_G) (kA ρ : Nat → Nat) (HB : Heap) (S : HSt) (a0 : Nat) (a1 : Nat) (res : Int32 × HSt) (h : f_X11_hitBits S a0 a1 = some res) : Met l yX11_hitBits w_X11_hitBits rm_X11_hitBits (hPc D kA ρ HB S [.ref a0, .ref a1]) (hQi D kA HB S res) 0 0 (hFree HB) := by
  refine Met.ofW (cc := cX11_hitBits) (maxL := 2) (ret := (Option.some FieldType.int)) (by decide) rfl ?_
  intro p e s m args below meth c s₁ B hml hv
  obtain ⟨rfl, hE, h0⟩ := hv
  have hx := B.exec
  have hb := B.bytes
  have hr := B.returns
  have hts0 := atoms_spec (ws := w_X11_hitBits) B.pre
  have hts : ∀ w ∈ lwG, w.before _ s = true := fun w hw => hts0 w (List.mem_cons_of_mem _ hw)
  have hown : s.vm.findClass RX11 = some m.cls := findClass_of_methodNamed B.named
  have hlocks := B.notSynchronized
  have hI : hqX D kA HB S.2 S s.heap [] := ⟨h0, Nat.le_refl _, fun _ q => absurd q List.not_mem_nil⟩
  have hl := lv_entry ([.ref a0, .ref a1]) (n := 2) (Nat.le_of_ble_eq_true rfl)
  rw [lg_entry_eq]
  generalize (lg_sl ([.ref a0, .ref a1]) ++ List.replicate (2 - (lg_sl ([.ref a0, .ref a1])).length) Slot.unset).toArray = ls at hl ⊢
  have hl : lv_has ls 2 [(0, .ref a0), (1, .ref a1)] := hl
  unfold f_X11_hitBits at h
  refine lv_aload_n hx hb dX11_hitBits_0 rfl (lv_at hl 0 rfl) ?_
  refine lv_aload_n hx hb dX11_hitBits_1 rfl (lv_at hl 1 rfl) ?_
  obtain ⟨g2, h⟩ := hq_g h
  obtain ⟨v4, S3, g1, h⟩ := hq_bd2 h
  refine hq_calli hI (va_runV (As := [.ref a1]) (rest := []) ⟨hx, hb, hml, hown, hts⟩ (c_X11_countedBits l D kA ρ HB S a0 a1 _ g1) (cwV 1 hts (gdIn (List.forall_mem_cons.mpr ⟨kw_561, (List.forall_mem_cons.mpr ⟨kw_563, (List.forall_mem_cons.mpr ⟨ks_11, (List.forall_mem_cons.mpr ⟨kw_1, (fun _ h => absurd h List.not_mem_nil)⟩)⟩)⟩)⟩) kw_564) rfl rfl rfl ye_X11_countedBits ⟨Nat.le_of_ble_eq_true rfl, Nat.le_of_ble_eq_true rfl⟩) (hq_preC hE hI g2 rfl _) rfl rfl hl.1 rfl (lv_room (Nat.le_of_ble_eq_true rfl)) dX11_hitBits_2 ⟨Nat.le_of_ble_eq_true rfl, Nat.le_of_ble_eq_true rfl⟩) (fun H locs hI => ?_)
  refine lv_aload_n hx hb dX11_hitBits_5 rfl (lv_at hl 0 rfl) ?_
  refine lv_aload_n hx hb dX11_hitBits_6 rfl (lv_at hl 1 rfl) ?_
  obtain ⟨v5, g6, h⟩ := hq_bind h
  obtain ⟨fs_g6, hs_g6, hv_g6⟩ := gI_at g6
  refine hq_getN hx hb hts hown hE hI hs_g6 inG7 rfl 8 (by decide) kn_104 hv_g6 dX11_hitBits_7 ?_
  obtain ⟨g8, h⟩ := hq_g h
  obtain ⟨v10, S9, g7, h⟩ := hq_bd2 h
  refine hq_calli hI (va_runV (As := [.int v5]) (rest := [.int v4]) ⟨hx, hb, hml, hown, hts⟩ (c_X11_bitsNoFartherThan l D kA ρ HB S3 a0 v5 _ g7) (cwV 1 hts (gdIn (List.forall_mem_cons.mpr ⟨kw_591, (List.forall_mem_cons.mpr ⟨kw_593, (List.forall_mem_cons.mpr ⟨ks_14, (List.forall_mem_cons.mpr ⟨kw_1, (fun _ h => absurd h List.not_mem_nil)⟩)⟩)⟩)⟩) kw_594) rfl rfl rfl ye_X11_bitsNoFartherThan ⟨Nat.le_of_ble_eq_true rfl, Nat.le_of_ble_eq_true rfl⟩) (hq_preC hE hI g8 rfl _) rfl rfl hl.1 rfl (lv_room (Nat.le_of_ble_eq_true rfl)) dX11_hitBits_10 ⟨Nat.le_of_ble_eq_true rfl, Nat.le_of_ble_eq_true rfl⟩) (fun H locs hI => ?_)
  refine lv_iand hx hb dX11_hitBits_13 ?_
  exact hq_iret hx hb hr hlocks h0 hI h dX11_hitBits_14
-- RodDips.passingMen(II)I
theorem dX11_passingMen_0 : decode cX11_passingMen 0 = .ok (.iconst 0, 1) := by decide +kernel
theorem dX11_passingMen_1 : decode cX11_passingMen 1 = .ok (.istore_n 3, 1) := by decide +kernel
theorem dX11_passingMen_2 : decode cX11_passingMen 2 = .ok (.iconst 0, 1) := by decide +kernel
theorem dX11_passingMen_3 : decode cX11_passingMen 3 = .ok (.istore 4, 2) := by decide +kernel
theorem dX11_passingMen_5 : decode cX11_passingMen 5 = .ok (.iload 4, 2) := by decide +kernel
theorem dX11_passingMen_7 : decode cX11_passingMen 7 = .ok (.bipush 6, 2) := by decide +kernel
theorem dX11_passingMen_9 : decode cX11_passingMen 9 = .ok (.if_icmp .ge 31, 3) := by decide +kernel
theorem dX11_passingMen_12 : decode cX11_passingMen 12 = .ok (.iload_n 1, 1) := by decide +kernel
theorem dX11_passingMen_13 : decode cX11_passingMen 13 = .ok (.aload_n 0, 1) := by decide +kernel
theorem dX11_passingMen_14 : decode cX11_passingMen 14 = .ok (.iload 4, 2) := by decide +kernel
theorem dX11_passingMen_16 : decode cX11_passingMen 16 = .ok (.invokevirtual 212, 3) := by decide +kernel
theorem dX11_passingMen_19 : decode cX11_passingMen 19 = .ok (.iand, 1) := by decide +kernel
theorem dX11_passingMen_20 : decode cX11_passingMen 20 = .ok (.invokestatic 185, 3) := by decide +kernel
theorem dX11_passingMen_23 : decode cX11_passingMen 23 = .ok (.iload_n 2, 1) := by decide +kernel
theorem dX11_passingMen_24 : decode cX11_passingMen 24 = .ok (.if_icmp .lt 10, 3) := by decide +kernel
theorem dX11_passingMen_27 : decode cX11_passingMen 27 = .ok (.iload_n 3, 1) := by decide +kernel
theorem dX11_passingMen_28 : decode cX11_passingMen 28 = .ok (.iconst 1, 1) := by decide +kernel
theorem dX11_passingMen_29 : decode cX11_passingMen 29 = .ok (.iload 4, 2) := by decide +kernel
theorem dX11_passingMen_31 : decode cX11_passingMen 31 = .ok (.ishl, 1) := by decide +kernel
theorem dX11_passingMen_32 : decode cX11_passingMen 32 = .ok (.ior, 1) := by decide +kernel
theorem dX11_passingMen_33 : decode cX11_passingMen 33 = .ok (.istore_n 3, 1) := by decide +kernel
theorem dX11_passingMen_34 : decode cX11_passingMen 34 = .ok (.iinc 4 1, 3) := by decide +kernel
theorem dX11_passingMen_37 : decode cX11_passingMen 37 = .ok (.goto (-32), 3) := by decide +kernel
theorem dX11_passingMen_40 : decode cX11_passingMen 40 = .ok (.iload_n 3, 1) := by decide +kernel
theorem dX11_passingMen_41 : decode cX11_passingMen 41 = .ok (.ireturn, 1) := by decide +kernel
def f_X11_passingMen_K40 (x1 : Int32) (S2 : HSt) : Option (Int32 × HSt) := some (x1, S2)
def f_X11_passingMen_B5 (a0 : Nat) (a1 : Int32) (a2 : Int32) (kx40 : (Int32 → HSt → Option (Int32 × HSt))) (kb5 : (Int32 → Int32 → HSt → Option (Int32 × HSt))) (x3 : Int32) (x4 : Int32) (S5 : HSt) : Option (Int32 × HSt) := if 6 ≤ x4 then (kx40 x3 S5) else (if gC S5 a0 = some 11 then (bd2 (f_X11_bitsOfMan S5 a0 x4) fun v10 S9 => bd2 (f_J6_bitCount_0f7a4 S9 (a1 &&& v10)) fun v13 S12 => if v13 < a2 then (kb5 x3 (x4 + 1) S12) else (kb5 (x3 ||| (1 <<< (x4 &&& 31))) (x4 + 1) S12)) else none)
def f_X11_passingMen_L5 (a0 : Nat) (a1 : Int32) (a2 : Int32) (kx40 : (Int32 → HSt → Option (Int32 × HSt))) : Nat → Int32 → Int32 → HSt → Option (Int32 × HSt)
  | 0, _, _, _ => none
  | n + 1, x3, x4, S => f_X11_passingMen_B5 a0 a1 a2 kx40 (f_X11_passingMen_L5 a0 a1 a2 kx40 n) x3 x4 S
def f_X11_passingMen (S : HSt) (a0 : Nat) (a1 : Int32) (a2 : Int32) : Option (Int32 × HSt) := (f_X11_passingMen_L5 a0 a1 a2 f_X11_passingMen_K40 FU) 0 0 S
abbrev rm_X11_passingMen : Room := { frames := 2, cells := 0, slots := 0, locals := 45 }
abbrev w_X11_passingMen : List Cond := Cond.code yX11_passingMen cX11_passingMen 5 (Option.some FieldType.int) :: lwG
theorem yd_X11_passingMen : yX11_passingMen.cls ≠ "java/lang/invoke/MethodHandle" ∧ yX11_passingMen.cls ≠ "java/lang/invoke/VarHandle" ∧ (parseMethodDescriptor yX11_passingMen.desc).map (fun d => d.parameters.length) = some 2 := by decide +kernel
theorem ye_X11_passingMen : yX11_passingMen.cls = RX11 ∧ yX11_passingMen.cls ≠ "java/lang/invoke/MethodHandle" ∧ yX11_passingMen.cls ≠ "java/lang/invoke/VarHandle" ∧ (parseMethodDescriptor yX11_passingMen.desc).map (fun d => d.parameters.length) = some 2 := by decide +kernel
set_option maxHeartbeats 4000000 in
set_option maxRecDepth 100000 in
theorem c_X11_passingMen (l : Launch) (D : va_G) (kA ρ : Nat → Nat) (HB : Heap) (S : HSt) (a0 : Nat) (a1 : Int32) (a2 : Int32) (res : Int32 × HSt) (h : f_X11_passingMen S a0 a1 a2 = some res) : Met l yX11_passingMen w_X11_passingMen rm_X11_passingMen (hPc D kA ρ HB S [.ref a0, .int a1, .int a2]) (hQi D kA HB S res) 0 0 (hFree HB) := by
  refine Met.ofW (cc := cX11_passingMen) (maxL := 5) (ret := (Option.some FieldType.int)) (by decide) rfl ?_
  intro p e s m args below meth c s₁ B hml hv
  obtain ⟨rfl, hE, h0⟩ := hv
  have hx := B.exec
  have hb := B.bytes
  have hr := B.returns
  have hts0 := atoms_spec (ws := w_X11_passingMen) B.pre
  have hts : ∀ w ∈ lwG, w.before _ s = true := fun w hw => hts0 w (List.mem_cons_of_mem _ hw)
  have hown : s.vm.findClass RX11 = some m.cls := findClass_of_methodNamed B.named
  have hlocks := B.notSynchronized
  have hI : hqX D kA HB S.2 S s.heap [] := ⟨h0, Nat.le_refl _, fun _ q => absurd q List.not_mem_nil⟩
  have hl := lv_entry ([.ref a0, .int a1, .int a2]) (n := 5) (Nat.le_of_ble_eq_true rfl)
  rw [lg_entry_eq]
  generalize (lg_sl ([.ref a0, .int a1, .int a2]) ++ List.replicate (5 - (lg_sl ([.ref a0, .int a1, .int a2])).length) Slot.unset).toArray = ls at hl ⊢
  have hl : lv_has ls 5 [(0, .ref a0), (1, .int a1), (2, .int a2)] := hl
  unfold f_X11_passingMen at h
  refine lv_iconst (v := 0) hx hb dX11_passingMen_0 (by decide) ?_
  refine lv_istore_n (lv' := [(3, .int 0), (0, .ref a0), (1, .int a1), (2, .int a2)]) hx hb dX11_passingMen_1 rfl hl (by decide) rfl (fun ls hl => ?_)
  refine lv_iconst (v := 0) hx hb dX11_passingMen_2 (by decide) ?_
  refine lv_istore (lv' := [(4, .int 0), (3, .int 0), (0, .ref a0), (1, .int a1), (2, .int a2)]) hx hb dX11_passingMen_3 hl (by decide) rfl (fun ls hl => ?_)
  have hK40 : ∀ (x1 : Int32) (S2 : HSt) (H : Heap) (locs : List Loc) (ls : Array Slot), f_X11_passingMen_K40 x1 S2 = some res → hqX D kA HB S.2 S2 H locs → lv_has ls 5 [(3, .int x1)] → W p l e rm_X11_passingMen s m ([.ref a0, .int a1, .int a2] : List Value).toArray below meth c H locs 0 0 (MQ below (hQi D kA HB S res) ([.ref a0, .int a1, .int a2] : List Value).toArray s 0 0 (hFree HB)) (F0 m 40 ls []) := by
    intro x1 S2 H locs ls h hI hl
    unfold f_X11_passingMen_K40 at h
    refine lv_iload_n hx hb dX11_passingMen_40 rfl (lv_at hl 0 rfl) ?_
    exact hq_iret hx hb hr hlocks h0 hI h dX11_passingMen_41
  have hL5 : ∀ (n5 : Nat) (x3 : Int32) (x4 : Int32) (S5 : HSt) (H : Heap) (locs : List Loc) (ls : Array Slot), (f_X11_passingMen_L5 a0 a1 a2 f_X11_passingMen_K40 n5) x3 x4 S5 = some res → hqX D kA HB S.2 S5 H locs → lv_has ls 5 [(0, .ref a0), (1, .int a1), (2, .int a2), (3, .int x3), (4, .int x4)] → W p l e rm_X11_passingMen s m ([.ref a0, .int a1, .int a2] : List Value).toArray below meth c H locs 0 0 (MQ below (hQi D kA HB S res) ([.ref a0, .int a1, .int a2] : List Value).toArray s 0 0 (hFree HB)) (F0 m 5 ls []) := by
    intro n5
    induction n5 with
    | zero =>
      intro x3 x4 S5 H locs ls h
      have h : (none : Option (Int32 × HSt)) = some res := h
      cases h
    | succ n5 ih5 =>
      intro x3 x4 S5 H locs ls h hI hl
      have h : f_X11_passingMen_B5 a0 a1 a2 f_X11_passingMen_K40 (f_X11_passingMen_L5 a0 a1 a2 f_X11_passingMen_K40 n5) x3 x4 S5 = some res := h
      unfold f_X11_passingMen_B5 at h
      refine lv_iload hx hb dX11_passingMen_5 (lv_at hl 4 rfl) ?_
      refine lv_bipush (v := 6) hx hb dX11_passingMen_7 (by decide) ?_
      refine lv_icmp_ge (tgt := 40) hx hb dX11_passingMen_9 (by decide) (fun c6 => ?_) (fun c6 => ?_)
      · have h := hq_t h c6
        exact hK40 x3 S5 _ _ _ h hI (lv_sub hl [3] rfl)
      · have h := hq_f h c6
        refine lv_iload_n hx hb dX11_passingMen_12 rfl (lv_at hl 1 rfl) ?_
        refine lv_aload_n hx hb dX11_passingMen_13 rfl (lv_at hl 0 rfl) ?_
        refine lv_iload hx hb dX11_passingMen_14 (lv_at hl 4 rfl) ?_
        obtain ⟨g8, h⟩ := hq_g h
        obtain ⟨v10, S9, g7, h⟩ := hq_bd2 h
        refine hq_calli hI (va_runV (As := [.int x4]) (rest := [.int a1]) ⟨hx, hb, hml, hown, hts⟩ (c_X11_bitsOfMan l D kA ρ HB S5 a0 x4 _ g7) (cwV 1 hts (gdIn (List.forall_mem_cons.mpr ⟨kw_603, (List.forall_mem_cons.mpr ⟨kw_605, (List.forall_mem_cons.mpr ⟨ks_16, (List.forall_mem_cons.mpr ⟨kw_1, (fun _ h => absurd h List.not_mem_nil)⟩)⟩)⟩)⟩) kw_606) rfl rfl rfl ye_X11_bitsOfMan ⟨Nat.le_of_ble_eq_true rfl, Nat.le_of_ble_eq_true rfl⟩) (hq_preC hE hI g8 rfl _) rfl rfl hl.1 rfl (lv_room (Nat.le_of_ble_eq_true rfl)) dX11_passingMen_16 ⟨Nat.le_of_ble_eq_true rfl, Nat.le_of_ble_eq_true rfl⟩) (fun H locs hI => ?_)
        refine lv_iand hx hb dX11_passingMen_19 ?_
        obtain ⟨v13, S12, g11, h⟩ := hq_bd2 h
        refine hq_calli hI (va_runS (As := [.int (a1 &&& v10)]) (rest := []) ⟨hx, hb, hml, hown, hts⟩ (c_J6_bitCount_0f7a4 l D kA ρ HB S9 (a1 &&& v10) _ g11) (va_cwS 1 hts (gdIn (List.forall_mem_cons.mpr ⟨kw_607, (List.forall_mem_cons.mpr ⟨kw_608, (List.forall_mem_cons.mpr ⟨kw_20, (fun _ h => absurd h List.not_mem_nil)⟩)⟩)⟩) kw_609) rfl rfl rfl yd_J6_bitCount_0f7a4 ⟨Nat.le_of_ble_eq_true rfl, Nat.le_of_ble_eq_true rfl⟩) (hq_preS hE hI _) rfl rfl hl.1 rfl (lv_room (Nat.le_of_ble_eq_true rfl)) dX11_passingMen_20 ⟨Nat.le_of_ble_eq_true rfl, Nat.le_of_ble_eq_true rfl⟩) (fun H locs hI => ?_)
        refine lv_iload_n hx hb dX11_passingMen_23 rfl (lv_at hl 2 rfl) ?_
        refine lv_icmp_lt (tgt := 34) hx hb dX11_passingMen_24 (by decide) (fun c14 => ?_) (fun c14 => ?_)
        · have h := hq_t h c14
          refine lv_iinc (v := (x4 + 1)) (lv' := [(4, .int (x4 + 1)), (0, .ref a0), (1, .int a1), (2, .int a2), (3, .int x3)]) hx hb dX11_passingMen_34 hl (k := 4) rfl rfl (by decide) rfl (fun ls hl => ?_)
          refine lv_goto (tgt := 5) hx hb dX11_passingMen_37 (by decide) ?_
          exact ih5 x3 (x4 + 1) S12 _ _ _ h hI (lv_sub hl [1, 2, 3, 4, 0] rfl)
        · have h := hq_f h c14
          refine lv_iload_n hx hb dX11_passingMen_27 rfl (lv_at hl 3 rfl) ?_
          refine lv_iconst (v := 1) hx hb dX11_passingMen_28 (by decide) ?_
          refine lv_iload hx hb dX11_passingMen_29 (lv_at hl 4 rfl) ?_
          refine lv_ishl hx hb dX11_passingMen_31 ?_
          refine lv_ior hx hb dX11_passingMen_32 ?_
          refine lv_istore_n (lv' := [(3, .int (x3 ||| (1 <<< (x4 &&& 31)))), (0, .ref a0), (1, .int a1), (2, .int a2), (4, .int x4)]) hx hb dX11_passingMen_33 rfl hl (by decide) rfl (fun ls hl => ?_)
          refine lv_iinc (v := (x4 + 1)) (lv' := [(4, .int (x4 + 1)), (3, .int (x3 ||| (1 <<< (x4 &&& 31)))), (0, .ref a0), (1, .int a1), (2, .int a2)]) hx hb dX11_passingMen_34 hl (k := 4) rfl rfl (by decide) rfl (fun ls hl => ?_)
          refine lv_goto (tgt := 5) hx hb dX11_passingMen_37 (by decide) ?_
          exact ih5 (x3 ||| (1 <<< (x4 &&& 31))) (x4 + 1) S12 _ _ _ h hI (lv_sub hl [2, 3, 4, 1, 0] rfl)
  exact hL5 FU 0 0 S _ _ _ h hI (lv_sub hl [2, 3, 4, 1, 0] rfl)
-- RodDips.saidBefore(LRodDips$Try;)I
theorem dX11_saidBefore_0 : decode cX11_saidBefore 0 = .ok (.aload_n 1, 1) := by decide +kernel
theorem dX11_saidBefore_1 : decode cX11_saidBefore 1 = .ok (.getfield 103, 3) := by decide +kernel
theorem dX11_saidBefore_4 : decode cX11_saidBefore 4 = .ok (.iconst 1, 1) := by decide +kernel
theorem dX11_saidBefore_5 : decode cX11_saidBefore 5 = .ok (.isub, 1) := by decide +kernel
theorem dX11_saidBefore_6 : decode cX11_saidBefore 6 = .ok (.istore_n 2, 1) := by decide +kernel
theorem dX11_saidBefore_7 : decode cX11_saidBefore 7 = .ok (.iload_n 2, 1) := by decide +kernel
theorem dX11_saidBefore_8 : decode cX11_saidBefore 8 = .ok (.ifCond .lt 35, 3) := by decide +kernel
theorem dX11_saidBefore_11 : decode cX11_saidBefore 11 = .ok (.aload_n 0, 1) := by decide +kernel
theorem dX11_saidBefore_12 : decode cX11_saidBefore 12 = .ok (.iload_n 2, 1) := by decide +kernel
theorem dX11_saidBefore_13 : decode cX11_saidBefore 13 = .ok (.invokevirtual 130, 3) := by decide +kernel
theorem dX11_saidBefore_16 : decode cX11_saidBefore 16 = .ok (.astore_n 3, 1) := by decide +kernel
theorem dX11_saidBefore_17 : decode cX11_saidBefore 17 = .ok (.aload_n 3, 1) := by decide +kernel
theorem dX11_saidBefore_18 : decode cX11_saidBefore 18 = .ok (.ifnull 19, 3) := by decide +kernel
theorem dX11_saidBefore_21 : decode cX11_saidBefore 21 = .ok (.aload_n 3, 1) := by decide +kernel
theorem dX11_saidBefore_22 : decode cX11_saidBefore 22 = .ok (.getfield 106, 3) := by decide +kernel
theorem dX11_saidBefore_25 : decode cX11_saidBefore 25 = .ok (.aload_n 1, 1) := by decide +kernel
theorem dX11_saidBefore_26 : decode cX11_saidBefore 26 = .ok (.getfield 106, 3) := by decide +kernel
theorem dX11_saidBefore_29 : decode cX11_saidBefore 29 = .ok (.if_icmp .ne 8, 3) := by decide +kernel
theorem dX11_saidBefore_32 : decode cX11_saidBefore 32 = .ok (.aload_n 3, 1) := by decide +kernel
theorem dX11_saidBefore_33 : decode cX11_saidBefore 33 = .ok (.getfield 118, 3) := by decide +kernel
theorem dX11_saidBefore_36 : decode cX11_saidBefore 36 = .ok (.ireturn, 1) := by decide +kernel
theorem dX11_saidBefore_37 : decode cX11_saidBefore 37 = .ok (.iinc 2 (-1), 3) := by decide +kernel
theorem dX11_saidBefore_40 : decode cX11_saidBefore 40 = .ok (.goto (-33), 3) := by decide +kernel
theorem dX11_saidBefore_43 : decode cX11_saidBefore 43 = .ok (.bipush 100, 2) := by decide +kernel
theorem dX11_saidBefore_45 : decode cX11_saidBefore 45 = .ok (.ireturn, 1) := by decide +kernel
def f_X11_saidBefore_K43 (S3 : HSt) : Option (Int32 × HSt) := some (100, S3)
def f_X11_saidBefore_B7 (a0 : Nat) (a1 : Nat) (kx43 : (HSt → Option (Int32 × HSt))) (kb7 : (Int32 → HSt → Option (Int32 × HSt))) (x4 : Int32) (S5 : HSt) : Option (Int32 × HSt) := if x4 < 0 then (kx43 S5) else (if gC S5 a0 = some 11 then (bd2 (f_X11_tryAt S5 a0 x4) fun b10 S9 => oC b10 (kb7 (x4 + (-1)) S9) fun r11 => (gIT S9 r11 2).bind fun v12 => (gIT S9 a1 2).bind fun v14 => if v12 = v14 then ((gIT S9 r11 6).bind fun v17 => some (v17, S9)) else (kb7 (x4 + (-1)) S9)) else none)
def f_X11_saidBefore_L7 (a0 : Nat) (a1 : Nat) (kx43 : (HSt → Option (Int32 × HSt))) : Nat → Int32 → HSt → Option (Int32 × HSt)
  | 0, _, _ => none
  | n + 1, x4, S => f_X11_saidBefore_B7 a0 a1 kx43 (f_X11_saidBefore_L7 a0 a1 kx43 n) x4 S
def f_X11_saidBefore (S : HSt) (a0 : Nat) (a1 : Nat) : Option (Int32 × HSt) := (gIT S a1 1).bind fun v1 => (f_X11_saidBefore_L7 a0 a1 f_X11_saidBefore_K43 FU) (v1 - 1) S
abbrev rm_X11_saidBefore : Room := { frames := 1, cells := 0, slots := 0, locals := 21 }
abbrev w_X11_saidBefore : List Cond := Cond.code yX11_saidBefore cX11_saidBefore 4 (Option.some FieldType.int) :: lwG
theorem yd_X11_saidBefore : yX11_saidBefore.cls ≠ "java/lang/invoke/MethodHandle" ∧ yX11_saidBefore.cls ≠ "java/lang/invoke/VarHandle" ∧ (parseMethodDescriptor yX11_saidBefore.desc).map (fun d => d.parameters.length) = some 1 := by decide +kernel
theorem ye_X11_saidBefore : yX11_saidBefore.cls = RX11 ∧ yX11_saidBefore.cls ≠ "java/lang/invoke/MethodHandle" ∧ yX11_saidBefore.cls ≠ "java/lang/invoke/VarHandle" ∧ (parseMethodDescriptor yX11_saidBefore.desc).map (fun d => d.parameters.length) = some 1 := by decide +kernel
set_option maxHeartbeats 4000000 in
set_option maxRecDepth 100000 in
theorem c_X11_saidBefore (l : Launch) (D : va_G) (kA ρ : Nat → Nat) (HB : Heap) (S : HSt) (a0 : Nat) (a1 : Nat) (res : Int32 × HSt) (h : f_X11_saidBefore S a0 a1 = some res) : Met l yX11_saidBefore w_X11_saidBefore rm_X11_saidBefore (hPc D kA ρ HB S [.ref a0, .ref a1]) (hQi D kA HB S res) 0 0 (hFree HB) := by
  refine Met.ofW (cc := cX11_saidBefore) (maxL := 4) (ret := (Option.some FieldType.int)) (by decide) rfl ?_
  intro p e s m args below meth c s₁ B hml hv
  obtain ⟨rfl, hE, h0⟩ := hv
  have hx := B.exec
  have hb := B.bytes
  have hr := B.returns
  have hts0 := atoms_spec (ws := w_X11_saidBefore) B.pre
  have hts : ∀ w ∈ lwG, w.before _ s = true := fun w hw => hts0 w (List.mem_cons_of_mem _ hw)
  have hown : s.vm.findClass RX11 = some m.cls := findClass_of_methodNamed B.named
  have hlocks := B.notSynchronized
  have hI : hqX D kA HB S.2 S s.heap [] := ⟨h0, Nat.le_refl _, fun _ q => absurd q List.not_mem_nil⟩
  have hl := lv_entry ([.ref a0, .ref a1]) (n := 4) (Nat.le_of_ble_eq_true rfl)
  rw [lg_entry_eq]
  generalize (lg_sl ([.ref a0, .ref a1]) ++ List.replicate (4 - (lg_sl ([.ref a0, .ref a1])).length) Slot.unset).toArray = ls at hl ⊢
  have hl : lv_has ls 4 [(0, .ref a0), (1, .ref a1)] := hl
  unfold f_X11_saidBefore at h
  refine lv_aload_n hx hb dX11_saidBefore_0 rfl (lv_at hl 1 rfl) ?_
  obtain ⟨v1, g2, h⟩ := hq_bind h
  obtain ⟨c_g2, fs_g2, hk_g2, hs_g2, hv_g2⟩ := gIT_at g2
  obtain ⟨C_g2, hc_g2, hi_g2⟩ := hKin_at hk_g2
  refine hq_getN hx hb hts hown hE hI hs_g2 hi_g2 hc_g2 1 (by decide) kn_220 hv_g2 dX11_saidBefore_1 ?_
  refine lv_iconst (v := 1) hx hb dX11_saidBefore_4 (by decide) ?_
  refine lv_isub hx hb dX11_saidBefore_5 ?_
  refine lv_istore_n (lv' := [(2, .int (v1 - 1)), (0, .ref a0), (1, .ref a1)]) hx hb dX11_saidBefore_6 rfl hl (by decide) rfl (fun ls hl => ?_)
  have hK43 : ∀ (S3 : HSt) (H : Heap) (locs : List Loc) (ls : Array Slot), f_X11_saidBefore_K43 S3 = some res → hqX D kA HB S.2 S3 H locs → lv_has ls 4 [] → W p l e rm_X11_saidBefore s m ([.ref a0, .ref a1] : List Value).toArray below meth c H locs 0 0 (MQ below (hQi D kA HB S res) ([.ref a0, .ref a1] : List Value).toArray s 0 0 (hFree HB)) (F0 m 43 ls []) := by
    intro S3 H locs ls h hI hl
    unfold f_X11_saidBefore_K43 at h
    refine lv_bipush (v := 100) hx hb dX11_saidBefore_43 (by decide) ?_
    exact hq_iret hx hb hr hlocks h0 hI h dX11_saidBefore_45
  have hL7 : ∀ (n7 : Nat) (x4 : Int32) (S5 : HSt) (H : Heap) (locs : List Loc) (ls : Array Slot), (f_X11_saidBefore_L7 a0 a1 f_X11_saidBefore_K43 n7) x4 S5 = some res → hqX D kA HB S.2 S5 H locs → lv_has ls 4 [(0, .ref a0), (1, .ref a1), (2, .int x4)] → W p l e rm_X11_saidBefore s m ([.ref a0, .ref a1] : List Value).toArray below meth c H locs 0 0 (MQ below (hQi D kA HB S res) ([.ref a0, .ref a1] : List Value).toArray s 0 0 (hFree HB)) (F0 m 7 ls []) := by
    intro n7
    induction n7 with
    | zero =>
      intro x4 S5 H locs ls h
      have h : (none : Option (Int32 × HSt)) = some res := h
      cases h
    | succ n7 ih7 =>
      intro x4 S5 H locs ls h hI hl
      have h : f_X11_saidBefore_B7 a0 a1 f_X11_saidBefore_K43 (f_X11_saidBefore_L7 a0 a1 f_X11_saidBefore_K43 n7) x4 S5 = some res := h
      unfold f_X11_saidBefore_B7 at h
      refine lv_iload_n hx hb dX11_saidBefore_7 rfl (lv_at hl 2 rfl) ?_
      refine lv_if_lt (tgt := 43) hx hb dX11_saidBefore_8 (by decide) (fun c6 => ?_) (fun c6 => ?_)
      · have h := hq_t h c6
        exact hK43 S5 _ _ _ h hI (lv_sub hl [] rfl)
      · have h := hq_f h c6
        refine lv_aload_n hx hb dX11_saidBefore_11 rfl (lv_at hl 0 rfl) ?_
        refine lv_iload_n hx hb dX11_saidBefore_12 rfl (lv_at hl 2 rfl) ?_
        obtain ⟨g8, h⟩ := hq_g h
        obtain ⟨b10, S9, g7, h⟩ := hq_bd2 h
        refine hq_callq hI (va_runV (As := [.int x4]) (rest := []) ⟨hx, hb, hml, hown, hts⟩ (c_X11_tryAt l D kA ρ HB S5 a0 x4 _ g7) (cwV 1 hts (gdIn (List.forall_mem_cons.mpr ⟨kw_354, (List.forall_mem_cons.mpr ⟨kw_356, (List.forall_mem_cons.mpr ⟨ks_2, (List.forall_mem_cons.mpr ⟨kw_1, (fun _ h => absurd h List.not_mem_nil)⟩)⟩)⟩)⟩) kw_357) rfl rfl rfl ye_X11_tryAt ⟨Nat.le_of_ble_eq_true rfl, Nat.le_of_ble_eq_true rfl⟩) (hq_preC hE hI g8 rfl _) rfl rfl hl.1 rfl (lv_room (Nat.le_of_ble_eq_true rfl)) dX11_saidBefore_13 ⟨Nat.le_of_ble_eq_true rfl, Nat.le_of_ble_eq_true rfl⟩) (fun H locs hI => ?_)
        rcases b10 with _ | r11
        · have h := oC_n h
          refine lv_astore_nN (lv' := [(3, .null), (0, .ref a0), (1, .ref a1), (2, .int x4)]) hx hb dX11_saidBefore_16 rfl hl (by decide) rfl (fun ls hl => ?_)
          refine lv_aload_nN hx hb dX11_saidBefore_17 rfl (lv_at hl 0 rfl) ?_
          refine lv_ifnullN (tgt := 37) hx hb dX11_saidBefore_18 (by decide) ?_
          refine lv_iinc (v := (x4 + (-1))) (lv' := [(2, .int (x4 + (-1))), (3, .null), (0, .ref a0), (1, .ref a1)]) hx hb dX11_saidBefore_37 hl (k := 3) rfl rfl (by decide) rfl (fun ls hl => ?_)
          refine lv_goto (tgt := 7) hx hb dX11_saidBefore_40 (by decide) ?_
          exact ih7 (x4 + (-1)) S9 _ _ _ h hI (lv_sub hl [2, 3, 0] rfl)
        · have h := oC_s h
          refine lv_astore_n (lv' := [(3, .ref r11), (0, .ref a0), (1, .ref a1), (2, .int x4)]) hx hb dX11_saidBefore_16 rfl hl (by decide) rfl (fun ls hl => ?_)
          refine lv_aload_n hx hb dX11_saidBefore_17 rfl (lv_at hl 0 rfl) ?_
          refine lv_ifnull hx hb dX11_saidBefore_18 ?_
          refine lv_aload_n hx hb dX11_saidBefore_21 rfl (lv_at hl 0 rfl) ?_
          obtain ⟨v12, g13, h⟩ := hq_bind h
          obtain ⟨c_g13, fs_g13, hk_g13, hs_g13, hv_g13⟩ := gIT_at g13
          obtain ⟨C_g13, hc_g13, hi_g13⟩ := hKin_at hk_g13
          refine hq_getN hx hb hts hown hE hI hs_g13 hi_g13 hc_g13 2 (by decide) kn_221 hv_g13 dX11_saidBefore_22 ?_
          refine lv_aload_n hx hb dX11_saidBefore_25 rfl (lv_at hl 2 rfl) ?_
          obtain ⟨v14, g15, h⟩ := hq_bind h
          obtain ⟨c_g15, fs_g15, hk_g15, hs_g15, hv_g15⟩ := gIT_at g15
          obtain ⟨C_g15, hc_g15, hi_g15⟩ := hKin_at hk_g15
          refine hq_getN hx hb hts hown hE hI hs_g15 hi_g15 hc_g15 2 (by decide) kn_221 hv_g15 dX11_saidBefore_26 ?_
          refine lv_icmp_ne (tgt := 37) hx hb dX11_saidBefore_29 (by decide) (fun c16 => ?_) (fun c16 => ?_)
          · have h := hq_f h c16
            refine lv_iinc (v := (x4 + (-1))) (lv' := [(2, .int (x4 + (-1))), (3, .ref r11), (0, .ref a0), (1, .ref a1)]) hx hb dX11_saidBefore_37 hl (k := 3) rfl rfl (by decide) rfl (fun ls hl => ?_)
            refine lv_goto (tgt := 7) hx hb dX11_saidBefore_40 (by decide) ?_
            exact ih7 (x4 + (-1)) S9 _ _ _ h hI (lv_sub hl [2, 3, 0] rfl)
          · have h := hq_t h c16
            refine lv_aload_n hx hb dX11_saidBefore_32 rfl (lv_at hl 0 rfl) ?_
            obtain ⟨v17, g18, h⟩ := hq_bind h
            obtain ⟨c_g18, fs_g18, hk_g18, hs_g18, hv_g18⟩ := gIT_at g18
            obtain ⟨C_g18, hc_g18, hi_g18⟩ := hKin_at hk_g18
            refine hq_getN hx hb hts hown hE hI hs_g18 hi_g18 hc_g18 6 (by decide) kn_231 hv_g18 dX11_saidBefore_33 ?_
            exact hq_iret hx hb hr hlocks h0 hI h dX11_saidBefore_36
  exact hL7 FU (v1 - 1) S _ _ _ h hI (lv_sub hl [1, 2, 0] rfl)
-- RodDips.placesWithin(II)I
theorem dX11_placesWithin_0 : decode cX11_placesWithin 0 = .ok (.aload_n 0, 1) := by decide +kernel
theorem dX11_placesWithin_1 : decode cX11_placesWithin 1 = .ok (.getfield 11, 3) := by decide +kernel
theorem dX11_placesWithin_4 : decode cX11_placesWithin 4 = .ok (.iconst 1, 1) := by decide +kernel
theorem dX11_placesWithin_5 : decode cX11_placesWithin 5 = .ok (.isub, 1) := by decide +kernel
theorem dX11_placesWithin_6 : decode cX11_placesWithin 6 = .ok (.iload_n 1, 1) := by decide +kernel
theorem dX11_placesWithin_7 : decode cX11_placesWithin 7 = .ok (.iload_n 2, 1) := by decide +kernel
theorem dX11_placesWithin_8 : decode cX11_placesWithin 8 = .ok (.iadd, 1) := by decide +kernel
theorem dX11_placesWithin_9 : decode cX11_placesWithin 9 = .ok (.invokestatic 324, 3) := by decide +kernel
theorem dX11_placesWithin_12 : decode cX11_placesWithin 12 = .ok (.iconst 0, 1) := by decide +kernel
theorem dX11_placesWithin_13 : decode cX11_placesWithin 13 = .ok (.iload_n 1, 1) := by decide +kernel
theorem dX11_placesWithin_14 : decode cX11_placesWithin 14 = .ok (.iload_n 2, 1) := by decide +kernel
theorem dX11_placesWithin_15 : decode cX11_placesWithin 15 = .ok (.isub, 1) := by decide +kernel
theorem dX11_placesWithin_16 : decode cX11_placesWithin 16 = .ok (.invokestatic 327, 3) := by decide +kernel
theorem dX11_placesWithin_19 : decode cX11_placesWithin 19 = .ok (.isub, 1) := by decide +kernel
theorem dX11_placesWithin_20 : decode cX11_placesWithin 20 = .ok (.iconst 1, 1) := by decide +kernel
theorem dX11_placesWithin_21 : decode cX11_placesWithin 21 = .ok (.iadd, 1) := by decide +kernel
theorem dX11_placesWithin_22 : decode cX11_placesWithin 22 = .ok (.ireturn, 1) := by decide +kernel
def f_X11_placesWithin (S : HSt) (a0 : Nat) (a1 : Int32) (a2 : Int32) : Option (Int32 × HSt) := (gI S a0 11 0).bind fun v1 => hqn ((if (a1 + a2) < (v1 - 1) then (a1 + a2) else (v1 - 1) : Int32)) fun (v3 : Int32) => hqn ((if 0 < (a1 - a2) then (a1 - a2) else 0 : Int32)) fun (v4 : Int32) => some ((v3 - v4) + 1, S)
abbrev rm_X11_placesWithin : Room := { frames := 1, cells := 0, slots := 0, locals := 21 }
abbrev w_X11_placesWithin : List Cond := Cond.code yX11_placesWithin cX11_placesWithin 3 (Option.some FieldType.int) :: lwG
theorem yd_X11_placesWithin : yX11_placesWithin.cls ≠ "java/lang/invoke/MethodHandle" ∧ yX11_placesWithin.cls ≠ "java/lang/invoke/VarHandle" ∧ (parseMethodDescriptor yX11_placesWithin.desc).map (fun d => d.parameters.length) = some 2 := by decide +kernel
theorem ye_X11_placesWithin : yX11_placesWithin.cls = RX11 ∧ yX11_placesWithin.cls ≠ "java/lang/invoke/MethodHandle" ∧ yX11_placesWithin.cls ≠ "java/lang/invoke/VarHandle" ∧ (parseMethodDescriptor yX11_placesWithin.desc).map (fun d => d.parameters.length) = some 2 := by decide +kernel
set_option maxHeartbeats 4000000 in
set_option maxRecDepth 100000 in
theorem c_X11_placesWithin (l : Launch) (D : va_G) (kA ρ : Nat → Nat) (HB : Heap) (S : HSt) (a0 : Nat) (a1 : Int32) (a2 : Int32) (res : Int32 × HSt) (h : f_X11_placesWithin S a0 a1 a2 = some res) : Met l yX11_placesWithin w_X11_placesWithin rm_X11_placesWithin (hPc D kA ρ HB S [.ref a0, .int a1, .int a2]) (hQi D kA HB S res) 0 0 (hFree HB) := by
  refine Met.ofW (cc := cX11_placesWithin) (maxL := 3) (ret := (Option.some FieldType.int)) (by decide) rfl ?_
  intro p e s m args below meth c s₁ B hml hv
  obtain ⟨rfl, hE, h0⟩ := hv
  have hx := B.exec
  have hb := B.bytes
  have hr := B.returns
  have hts0 := atoms_spec (ws := w_X11_placesWithin) B.pre
  have hts : ∀ w ∈ lwG, w.before _ s = true := fun w hw => hts0 w (List.mem_cons_of_mem _ hw)
  have hown : s.vm.findClass RX11 = some m.cls := findClass_of_methodNamed B.named
  have hlocks := B.notSynchronized
  have hI : hqX D kA HB S.2 S s.heap [] := ⟨h0, Nat.le_refl _, fun _ q => absurd q List.not_mem_nil⟩
  have hl := lv_entry ([.ref a0, .int a1, .int a2]) (n := 3) (Nat.le_of_ble_eq_true rfl)
  rw [lg_entry_eq]
  generalize (lg_sl ([.ref a0, .int a1, .int a2]) ++ List.replicate (3 - (lg_sl ([.ref a0, .int a1, .int a2])).length) Slot.unset).toArray = ls at hl ⊢
  have hl : lv_has ls 3 [(0, .ref a0), (1, .int a1), (2, .int a2)] := hl
  unfold f_X11_placesWithin at h
  refine lv_aload_n hx hb dX11_placesWithin_0 rfl (lv_at hl 0 rfl) ?_
  obtain ⟨v1, g2, h⟩ := hq_bind h
  obtain ⟨fs_g2, hs_g2, hv_g2⟩ := gI_at g2
  refine hq_get hx hb hts hown hE hI hs_g2 inG11 rfl 0 (by decide) kw_132 hv_g2 dX11_placesWithin_1 ?_
  refine lv_iconst (v := 1) hx hb dX11_placesWithin_4 (by decide) ?_
  refine lv_isub hx hb dX11_placesWithin_5 ?_
  refine lv_iload_n hx hb dX11_placesWithin_6 rfl (lv_at hl 1 rfl) ?_
  refine lv_iload_n hx hb dX11_placesWithin_7 rfl (lv_at hl 2 rfl) ?_
  refine lv_iadd hx hb dX11_placesWithin_8 ?_
  refine va_mmin hx hb (hml.trans hl.1.symm) hown (hts _ kw_622) (hts _ kw_507) (hts _ kw_14) (hts _ kw_508) (Nat.le_of_ble_eq_true rfl) (Nat.le_of_ble_eq_true rfl) (Nat.le_of_ble_eq_true rfl) (Nat.le_of_ble_eq_true rfl) dX11_placesWithin_9 ?_
  refine lv_topi (fun v3 e_v3 => ?_)
  have h := hq_nm h e_v3
  refine lv_iconst (v := 0) hx hb dX11_placesWithin_12 (by decide) ?_
  refine lv_iload_n hx hb dX11_placesWithin_13 rfl (lv_at hl 1 rfl) ?_
  refine lv_iload_n hx hb dX11_placesWithin_14 rfl (lv_at hl 2 rfl) ?_
  refine lv_isub hx hb dX11_placesWithin_15 ?_
  refine va_mmax hx hb (hml.trans hl.1.symm) hown (hts _ kw_623) (hts _ kw_504) (hts _ kw_14) (hts _ kw_505) (Nat.le_of_ble_eq_true rfl) (Nat.le_of_ble_eq_true rfl) (Nat.le_of_ble_eq_true rfl) (Nat.le_of_ble_eq_true rfl) dX11_placesWithin_16 ?_
  refine lv_topi (fun v4 e_v4 => ?_)
  have h := hq_nm h e_v4
  refine lv_isub hx hb dX11_placesWithin_19 ?_
  refine lv_iconst (v := 1) hx hb dX11_placesWithin_20 (by decide) ?_
  refine lv_iadd hx hb dX11_placesWithin_21 ?_
  exact hq_iret hx hb hr hlocks h0 hI h dX11_placesWithin_22
-- RodDips.setOdds(II)V
theorem dX11_setOdds_0 : decode cX11_setOdds 0 = .ok (.aload_n 0, 1) := by decide +kernel
theorem dX11_setOdds_1 : decode cX11_setOdds 1 = .ok (.getfield 49, 3) := by decide +kernel
theorem dX11_setOdds_4 : decode cX11_setOdds 4 = .ok (.invokevirtual 246, 3) := by decide +kernel
theorem dX11_setOdds_7 : decode cX11_setOdds 7 = .ok (.iconst 0, 1) := by decide +kernel
theorem dX11_setOdds_8 : decode cX11_setOdds 8 = .ok (.istore_n 3, 1) := by decide +kernel
theorem dX11_setOdds_9 : decode cX11_setOdds 9 = .ok (.iload_n 3, 1) := by decide +kernel
theorem dX11_setOdds_10 : decode cX11_setOdds 10 = .ok (.aload_n 0, 1) := by decide +kernel
theorem dX11_setOdds_11 : decode cX11_setOdds 11 = .ok (.getfield 21, 3) := by decide +kernel
theorem dX11_setOdds_14 : decode cX11_setOdds 14 = .ok (.if_icmp .ge 53, 3) := by decide +kernel
theorem dX11_setOdds_17 : decode cX11_setOdds 17 = .ok (.aload_n 0, 1) := by decide +kernel
theorem dX11_setOdds_18 : decode cX11_setOdds 18 = .ok (.iload_n 3, 1) := by decide +kernel
theorem dX11_setOdds_19 : decode cX11_setOdds 19 = .ok (.invokevirtual 130, 3) := by decide +kernel
theorem dX11_setOdds_22 : decode cX11_setOdds 22 = .ok (.astore 4, 2) := by decide +kernel
theorem dX11_setOdds_24 : decode cX11_setOdds 24 = .ok (.aload 4, 2) := by decide +kernel
theorem dX11_setOdds_26 : decode cX11_setOdds 26 = .ok (.ifnull 35, 3) := by decide +kernel
theorem dX11_setOdds_29 : decode cX11_setOdds 29 = .ok (.iload_n 1, 1) := by decide +kernel
theorem dX11_setOdds_30 : decode cX11_setOdds 30 = .ok (.iload_n 3, 1) := by decide +kernel
theorem dX11_setOdds_31 : decode cX11_setOdds 31 = .ok (.ishr, 1) := by decide +kernel
theorem dX11_setOdds_32 : decode cX11_setOdds 32 = .ok (.iconst 1, 1) := by decide +kernel
theorem dX11_setOdds_33 : decode cX11_setOdds 33 = .ok (.iand, 1) := by decide +kernel
theorem dX11_setOdds_34 : decode cX11_setOdds 34 = .ok (.iconst 1, 1) := by decide +kernel
theorem dX11_setOdds_35 : decode cX11_setOdds 35 = .ok (.if_icmp .ne 26, 3) := by decide +kernel
theorem dX11_setOdds_38 : decode cX11_setOdds 38 = .ok (.aload_n 0, 1) := by decide +kernel
theorem dX11_setOdds_39 : decode cX11_setOdds 39 = .ok (.getfield 49, 3) := by decide +kernel
theorem dX11_setOdds_42 : decode cX11_setOdds 42 = .ok (.aload_n 0, 1) := by decide +kernel
theorem dX11_setOdds_43 : decode cX11_setOdds 43 = .ok (.aload 4, 2) := by decide +kernel
theorem dX11_setOdds_45 : decode cX11_setOdds 45 = .ok (.getfield 118, 3) := by decide +kernel
theorem dX11_setOdds_48 : decode cX11_setOdds 48 = .ok (.iload_n 2, 1) := by decide +kernel
theorem dX11_setOdds_49 : decode cX11_setOdds 49 = .ok (.invokevirtual 169, 3) := by decide +kernel
theorem dX11_setOdds_52 : decode cX11_setOdds 52 = .ok (.i2l, 1) := by decide +kernel
theorem dX11_setOdds_53 : decode cX11_setOdds 53 = .ok (.aload_n 0, 1) := by decide +kernel
theorem dX11_setOdds_54 : decode cX11_setOdds 54 = .ok (.getfield 11, 3) := by decide +kernel
theorem dX11_setOdds_57 : decode cX11_setOdds 57 = .ok (.i2l, 1) := by decide +kernel
theorem dX11_setOdds_58 : decode cX11_setOdds 58 = .ok (.invokevirtual 251, 3) := by decide +kernel
theorem dX11_setOdds_61 : decode cX11_setOdds 61 = .ok (.iinc 3 1, 3) := by decide +kernel
theorem dX11_setOdds_64 : decode cX11_setOdds 64 = .ok (.goto (-55), 3) := by decide +kernel
theorem dX11_setOdds_67 : decode cX11_setOdds 67 = .ok (.return_, 1) := by decide +kernel
def f_X11_setOdds_K67 (S6 : HSt) : Option (HSt) := some S6
def f_X11_setOdds_B9 (a0 : Nat) (a1 : Int32) (a2 : Int32) (kx67 : (HSt → Option (HSt))) (kb9 : (Int32 → HSt → Option (HSt))) (x7 : Int32) (S8 : HSt) : Option (HSt) := (gI S8 a0 11 2).bind fun v9 => if v9 ≤ x7 then (kx67 S8) else (if gC S8 a0 = some 11 then (bd2 (f_X11_tryAt S8 a0 x7) fun b15 S14 => oC b15 (kb9 (x7 + 1) S14) fun r16 => if ((a1 >>> (x7 &&& 31)) &&& 1) = 1 then ((gR S14 a0 11 8).bind fun b18 => (gIT S14 r16 6).bind fun v20 => if gC S14 a0 = some 11 then (bd2 (f_X11_placesWithin S14 a0 v20 a2) fun v25 S24 => (gI S24 a0 11 0).bind fun v26 => if gC S24 b18 = some 4 then ((f_X4_add S24 b18 (Int32.toInt64 v25) (Int32.toInt64 v26)).bind fun S30 => kb9 (x7 + 1) S30) else none) else none) else (kb9 (x7 + 1) S14)) else none)
def f_X11_setOdds_L9 (a0 : Nat) (a1 : Int32) (a2 : Int32) (kx67 : (HSt → Option (HSt))) : Nat → Int32 → HSt → Option (HSt)
  | 0, _, _ => none
  | n + 1, x7, S => f_X11_setOdds_B9 a0 a1 a2 kx67 (f_X11_setOdds_L9 a0 a1 a2 kx67 n) x7 S
def f_X11_setOdds (S : HSt) (a0 : Nat) (a1 : Int32) (a2 : Int32) : Option (HSt) := (gR S a0 11 8).bind fun b1 => if gC S b1 = some 4 then ((f_X4_start S b1).bind fun S5 => (f_X11_setOdds_L9 a0 a1 a2 f_X11_setOdds_K67 FU) 0 S5) else none
abbrev rm_X11_setOdds : Room := { frames := 2, cells := 0, slots := 0, locals := 44 }
abbrev w_X11_setOdds : List Cond := Cond.code yX11_setOdds cX11_setOdds 5 none :: lwG
theorem yd_X11_setOdds : yX11_setOdds.cls ≠ "java/lang/invoke/MethodHandle" ∧ yX11_setOdds.cls ≠ "java/lang/invoke/VarHandle" ∧ (parseMethodDescriptor yX11_setOdds.desc).map (fun d => d.parameters.length) = some 2 := by decide +kernel
theorem ye_X11_setOdds : yX11_setOdds.cls = RX11 ∧ yX11_setOdds.cls ≠ "java/lang/invoke/MethodHandle" ∧ yX11_setOdds.cls ≠ "java/lang/invoke/VarHandle" ∧ (parseMethodDescriptor yX11_setOdds.desc).map (fun d => d.parameters.length) = some 2 := by decide +kernel
set_option maxHeartbeats 4000000 in
set_option maxRecDepth 100000 in
theorem c_X11_setOdds (l : Launch) (D : va_G) (kA ρ : Nat → Nat) (HB : Heap) (S : HSt) (a0 : Nat) (a1 : Int32) (a2 : Int32) (res : HSt) (h : f_X11_setOdds S a0 a1 a2 = some res) : Met l yX11_setOdds w_X11_setOdds rm_X11_setOdds (hPc D kA ρ HB S [.ref a0, .int a1, .int a2]) (hQv D kA HB S res) 0 0 (hFree HB) := by
  refine Met.ofW (cc := cX11_setOdds) (maxL := 5) (ret := none) (by decide) rfl ?_
  intro p e s m args below meth c s₁ B hml hv
  obtain ⟨rfl, hE, h0⟩ := hv
  have hx := B.exec
  have hb := B.bytes
  have hr := B.returns
  have hts0 := atoms_spec (ws := w_X11_setOdds) B.pre
  have hts : ∀ w ∈ lwG, w.before _ s = true := fun w hw => hts0 w (List.mem_cons_of_mem _ hw)
  have hown : s.vm.findClass RX11 = some m.cls := findClass_of_methodNamed B.named
  have hlocks := B.notSynchronized
  have hI : hqX D kA HB S.2 S s.heap [] := ⟨h0, Nat.le_refl _, fun _ q => absurd q List.not_mem_nil⟩
  have hl := lv_entry ([.ref a0, .int a1, .int a2]) (n := 5) (Nat.le_of_ble_eq_true rfl)
  rw [lg_entry_eq]
  generalize (lg_sl ([.ref a0, .int a1, .int a2]) ++ List.replicate (5 - (lg_sl ([.ref a0, .int a1, .int a2])).length) Slot.unset).toArray = ls at hl ⊢
  have hl : lv_has ls 5 [(0, .ref a0), (1, .int a1), (2, .int a2)] := hl
  unfold f_X11_setOdds at h
  refine lv_aload_n hx hb dX11_setOdds_0 rfl (lv_at hl 0 rfl) ?_
  obtain ⟨b1, g2, h⟩ := hq_bind h
  obtain ⟨fs_g2, hs_g2, hv_g2⟩ := gR_at g2
  refine hq_get hx hb hts hown hE hI hs_g2 inG11 rfl 8 (by decide) kw_140 hv_g2 dX11_setOdds_1 ?_
  obtain ⟨g4, h⟩ := hq_g h
  obtain ⟨S5, g3, h⟩ := hq_bind h
  refine hq_callv hI (va_runV (As := []) (rest := []) ⟨hx, hb, hml, hown, hts⟩ (c_X4_start l D kA ρ HB S b1 _ g3) (cwV 0 hts (gdIn (List.forall_mem_cons.mpr ⟨kw_648, (List.forall_mem_cons.mpr ⟨kw_649, (List.forall_mem_cons.mpr ⟨kw_650, (List.forall_mem_cons.mpr ⟨kw_3, (fun _ h => absurd h List.not_mem_nil)⟩)⟩)⟩)⟩) kw_651) rfl rfl rfl ye_X4_start ⟨Nat.le_of_ble_eq_true rfl, Nat.le_of_ble_eq_true rfl⟩) (hq_preC hE hI g4 rfl _) rfl rfl hl.1 rfl (lv_room (Nat.le_of_ble_eq_true rfl)) dX11_setOdds_4 ⟨Nat.le_of_ble_eq_true rfl, Nat.le_of_ble_eq_true rfl⟩) (fun H locs hI => ?_)
  refine lv_iconst (v := 0) hx hb dX11_setOdds_7 (by decide) ?_
  refine lv_istore_n (lv' := [(3, .int 0), (0, .ref a0), (1, .int a1), (2, .int a2)]) hx hb dX11_setOdds_8 rfl hl (by decide) rfl (fun ls hl => ?_)
  have hK67 : ∀ (S6 : HSt) (H : Heap) (locs : List Loc) (ls : Array Slot), f_X11_setOdds_K67 S6 = some res → hqX D kA HB S.2 S6 H locs → lv_has ls 5 [] → W p l e rm_X11_setOdds s m ([.ref a0, .int a1, .int a2] : List Value).toArray below meth c H locs 0 0 (MQ below (hQv D kA HB S res) ([.ref a0, .int a1, .int a2] : List Value).toArray s 0 0 (hFree HB)) (F0 m 67 ls []) := by
    intro S6 H locs ls h hI hl
    unfold f_X11_setOdds_K67 at h
    exact hq_vret hx hb hr hlocks h0 hI h dX11_setOdds_67
  have hL9 : ∀ (n9 : Nat) (x7 : Int32) (S8 : HSt) (H : Heap) (locs : List Loc) (ls : Array Slot), (f_X11_setOdds_L9 a0 a1 a2 f_X11_setOdds_K67 n9) x7 S8 = some res → hqX D kA HB S.2 S8 H locs → lv_has ls 5 [(0, .ref a0), (1, .int a1), (2, .int a2), (3, .int x7)] → W p l e rm_X11_setOdds s m ([.ref a0, .int a1, .int a2] : List Value).toArray below meth c H locs 0 0 (MQ below (hQv D kA HB S res) ([.ref a0, .int a1, .int a2] : List Value).toArray s 0 0 (hFree HB)) (F0 m 9 ls []) := by
    intro n9
    induction n9 with
    | zero =>
      intro x7 S8 H locs ls h
      have h : (none : Option (HSt)) = some res := h
      cases h
    | succ n9 ih9 =>
      intro x7 S8 H locs ls h hI hl
      have h : f_X11_setOdds_B9 a0 a1 a2 f_X11_setOdds_K67 (f_X11_setOdds_L9 a0 a1 a2 f_X11_setOdds_K67 n9) x7 S8 = some res := h
      unfold f_X11_setOdds_B9 at h
      refine lv_iload_n hx hb dX11_setOdds_9 rfl (lv_at hl 3 rfl) ?_
      refine lv_aload_n hx hb dX11_setOdds_10 rfl (lv_at hl 0 rfl) ?_
      obtain ⟨v9, g10, h⟩ := hq_bind h
      obtain ⟨fs_g10, hs_g10, hv_g10⟩ := gI_at g10
      refine hq_get hx hb hts hown hE hI hs_g10 inG11 rfl 2 (by decide) kw_134 hv_g10 dX11_setOdds_11 ?_
      refine lv_icmp_ge (tgt := 67) hx hb dX11_setOdds_14 (by decide) (fun c11 => ?_) (fun c11 => ?_)
      · have h := hq_t h c11
        exact hK67 S8 _ _ _ h hI (lv_sub hl [] rfl)
      · have h := hq_f h c11
        refine lv_aload_n hx hb dX11_setOdds_17 rfl (lv_at hl 0 rfl) ?_
        refine lv_iload_n hx hb dX11_setOdds_18 rfl (lv_at hl 3 rfl) ?_
        obtain ⟨g13, h⟩ := hq_g h
        obtain ⟨b15, S14, g12, h⟩ := hq_bd2 h
        refine hq_callq hI (va_runV (As := [.int x7]) (rest := []) ⟨hx, hb, hml, hown, hts⟩ (c_X11_tryAt l D kA ρ HB S8 a0 x7 _ g12) (cwV 1 hts (gdIn (List.forall_mem_cons.mpr ⟨kw_354, (List.forall_mem_cons.mpr ⟨kw_356, (List.forall_mem_cons.mpr ⟨ks_2, (List.forall_mem_cons.mpr ⟨kw_1, (fun _ h => absurd h List.not_mem_nil)⟩)⟩)⟩)⟩) kw_357) rfl rfl rfl ye_X11_tryAt ⟨Nat.le_of_ble_eq_true rfl, Nat.le_of_ble_eq_true rfl⟩) (hq_preC hE hI g13 rfl _) rfl rfl hl.1 rfl (lv_room (Nat.le_of_ble_eq_true rfl)) dX11_setOdds_19 ⟨Nat.le_of_ble_eq_true rfl, Nat.le_of_ble_eq_true rfl⟩) (fun H locs hI => ?_)
        rcases b15 with _ | r16
        · have h := oC_n h
          refine lv_astoreN (lv' := [(4, .null), (0, .ref a0), (1, .int a1), (2, .int a2), (3, .int x7)]) hx hb dX11_setOdds_22 hl (by decide) rfl (fun ls hl => ?_)
          refine lv_aloadN hx hb dX11_setOdds_24 (lv_at hl 0 rfl) ?_
          refine lv_ifnullN (tgt := 61) hx hb dX11_setOdds_26 (by decide) ?_
          refine lv_iinc (v := (x7 + 1)) (lv' := [(3, .int (x7 + 1)), (4, .null), (0, .ref a0), (1, .int a1), (2, .int a2)]) hx hb dX11_setOdds_61 hl (k := 4) rfl rfl (by decide) rfl (fun ls hl => ?_)
          refine lv_goto (tgt := 9) hx hb dX11_setOdds_64 (by decide) ?_
          exact ih9 (x7 + 1) S14 _ _ _ h hI (lv_sub hl [2, 3, 4, 0] rfl)
        · have h := oC_s h
          refine lv_astore (lv' := [(4, .ref r16), (0, .ref a0), (1, .int a1), (2, .int a2), (3, .int x7)]) hx hb dX11_setOdds_22 hl (by decide) rfl (fun ls hl => ?_)
          refine lv_aload hx hb dX11_setOdds_24 (lv_at hl 0 rfl) ?_
          refine lv_ifnull hx hb dX11_setOdds_26 ?_
          refine lv_iload_n hx hb dX11_setOdds_29 rfl (lv_at hl 2 rfl) ?_
          refine lv_iload_n hx hb dX11_setOdds_30 rfl (lv_at hl 4 rfl) ?_
          refine lv_ishr hx hb dX11_setOdds_31 ?_
          refine lv_iconst (v := 1) hx hb dX11_setOdds_32 (by decide) ?_
          refine lv_iand hx hb dX11_setOdds_33 ?_
          refine lv_iconst (v := 1) hx hb dX11_setOdds_34 (by decide) ?_
          refine lv_icmp_ne (tgt := 61) hx hb dX11_setOdds_35 (by decide) (fun c17 => ?_) (fun c17 => ?_)
          · have h := hq_f h c17
            refine lv_iinc (v := (x7 + 1)) (lv' := [(3, .int (x7 + 1)), (4, .ref r16), (0, .ref a0), (1, .int a1), (2, .int a2)]) hx hb dX11_setOdds_61 hl (k := 4) rfl rfl (by decide) rfl (fun ls hl => ?_)
            refine lv_goto (tgt := 9) hx hb dX11_setOdds_64 (by decide) ?_
            exact ih9 (x7 + 1) S14 _ _ _ h hI (lv_sub hl [2, 3, 4, 0] rfl)
          · have h := hq_t h c17
            refine lv_aload_n hx hb dX11_setOdds_38 rfl (lv_at hl 1 rfl) ?_
            obtain ⟨b18, g19, h⟩ := hq_bind h
            obtain ⟨fs_g19, hs_g19, hv_g19⟩ := gR_at g19
            refine hq_get hx hb hts hown hE hI hs_g19 inG11 rfl 8 (by decide) kw_140 hv_g19 dX11_setOdds_39 ?_
            refine lv_aload_n hx hb dX11_setOdds_42 rfl (lv_at hl 1 rfl) ?_
            refine lv_aload hx hb dX11_setOdds_43 (lv_at hl 0 rfl) ?_
            obtain ⟨v20, g21, h⟩ := hq_bind h
            obtain ⟨c_g21, fs_g21, hk_g21, hs_g21, hv_g21⟩ := gIT_at g21
            obtain ⟨C_g21, hc_g21, hi_g21⟩ := hKin_at hk_g21
            refine hq_getN hx hb hts hown hE hI hs_g21 hi_g21 hc_g21 6 (by decide) kn_231 hv_g21 dX11_setOdds_45 ?_
            refine lv_iload_n hx hb dX11_setOdds_48 rfl (lv_at hl 3 rfl) ?_
            obtain ⟨g23, h⟩ := hq_g h
            obtain ⟨v25, S24, g22, h⟩ := hq_bd2 h
            refine hq_calli hI (va_runV (As := [.int v20, .int a2]) (rest := [.ref b18]) ⟨hx, hb, hml, hown, hts⟩ (c_X11_placesWithin l D kA ρ HB S14 a0 v20 a2 _ g22) (cwV 2 hts (gdIn (List.forall_mem_cons.mpr ⟨kw_618, (List.forall_mem_cons.mpr ⟨kw_620, (List.forall_mem_cons.mpr ⟨ks_17, (List.forall_mem_cons.mpr ⟨kw_1, (fun _ h => absurd h List.not_mem_nil)⟩)⟩)⟩)⟩) kw_621) rfl rfl rfl ye_X11_placesWithin ⟨Nat.le_of_ble_eq_true rfl, Nat.le_of_ble_eq_true rfl⟩) (hq_preC hE hI g23 rfl _) rfl rfl hl.1 rfl (lv_room (Nat.le_of_ble_eq_true rfl)) dX11_setOdds_49 ⟨Nat.le_of_ble_eq_true rfl, Nat.le_of_ble_eq_true rfl⟩) (fun H locs hI => ?_)
            refine lv_i2l (v := Int32.toInt64 v25) hx hb dX11_setOdds_52 rfl ?_
            refine lv_aload_n hx hb dX11_setOdds_53 rfl (lv_at hl 1 rfl) ?_
            obtain ⟨v26, g27, h⟩ := hq_bind h
            obtain ⟨fs_g27, hs_g27, hv_g27⟩ := gI_at g27
            refine hq_get hx hb hts hown hE hI hs_g27 inG11 rfl 0 (by decide) kw_132 hv_g27 dX11_setOdds_54 ?_
            refine lv_i2l (v := Int32.toInt64 v26) hx hb dX11_setOdds_57 rfl ?_
            obtain ⟨g29, h⟩ := hq_g h
            obtain ⟨S30, g28, h⟩ := hq_bind h
            refine hq_callv hI (va_runV (As := [.long (Int32.toInt64 v25), .long (Int32.toInt64 v26)]) (rest := []) ⟨hx, hb, hml, hown, hts⟩ (c_X4_add l D kA ρ HB S24 b18 (Int32.toInt64 v25) (Int32.toInt64 v26) _ g28) (cwV 2 hts (gdIn (List.forall_mem_cons.mpr ⟨kw_655, (List.forall_mem_cons.mpr ⟨kw_656, (List.forall_mem_cons.mpr ⟨kw_657, (List.forall_mem_cons.mpr ⟨kw_3, (fun _ h => absurd h List.not_mem_nil)⟩)⟩)⟩)⟩) kw_658) rfl rfl rfl ye_X4_add ⟨Nat.le_of_ble_eq_true rfl, Nat.le_of_ble_eq_true rfl⟩) (hq_preC hE hI g29 rfl _) rfl rfl hl.1 rfl (lv_room (Nat.le_of_ble_eq_true rfl)) dX11_setOdds_58 ⟨Nat.le_of_ble_eq_true rfl, Nat.le_of_ble_eq_true rfl⟩) (fun H locs hI => ?_)
            refine lv_iinc (v := (x7 + 1)) (lv' := [(3, .int (x7 + 1)), (4, .ref r16), (0, .ref a0), (1, .int a1), (2, .int a2)]) hx hb dX11_setOdds_61 hl (k := 4) rfl rfl (by decide) rfl (fun ls hl => ?_)
            refine lv_goto (tgt := 9) hx hb dX11_setOdds_64 (by decide) ?_
            exact ih9 (x7 + 1) S30 _ _ _ h hI (lv_sub hl [2, 3, 4, 0] rfl)
  exact hL9 FU 0 S5 _ _ _ h hI (lv_sub hl [1, 2, 3, 0] rfl)
-- RodDips.sumOfNears(II)I
theorem dX11_sumOfNears_0 : decode cX11_sumOfNears 0 = .ok (.iconst 0, 1) := by decide +kernel
theorem dX11_sumOfNears_1 : decode cX11_sumOfNears 1 = .ok (.istore_n 3, 1) := by decide +kernel
theorem dX11_sumOfNears_2 : decode cX11_sumOfNears 2 = .ok (.iconst 0, 1) := by decide +kernel
theorem dX11_sumOfNears_3 : decode cX11_sumOfNears 3 = .ok (.istore 4, 2) := by decide +kernel
theorem dX11_sumOfNears_5 : decode cX11_sumOfNears 5 = .ok (.iload 4, 2) := by decide +kernel
theorem dX11_sumOfNears_7 : decode cX11_sumOfNears 7 = .ok (.aload_n 0, 1) := by decide +kernel
theorem dX11_sumOfNears_8 : decode cX11_sumOfNears 8 = .ok (.getfield 21, 3) := by decide +kernel
theorem dX11_sumOfNears_11 : decode cX11_sumOfNears 11 = .ok (.if_icmp .ge 45, 3) := by decide +kernel
theorem dX11_sumOfNears_14 : decode cX11_sumOfNears 14 = .ok (.aload_n 0, 1) := by decide +kernel
theorem dX11_sumOfNears_15 : decode cX11_sumOfNears 15 = .ok (.iload 4, 2) := by decide +kernel
theorem dX11_sumOfNears_17 : decode cX11_sumOfNears 17 = .ok (.invokevirtual 130, 3) := by decide +kernel
theorem dX11_sumOfNears_20 : decode cX11_sumOfNears 20 = .ok (.astore 5, 2) := by decide +kernel
theorem dX11_sumOfNears_22 : decode cX11_sumOfNears 22 = .ok (.aload 5, 2) := by decide +kernel
theorem dX11_sumOfNears_24 : decode cX11_sumOfNears 24 = .ok (.ifnull 26, 3) := by decide +kernel
theorem dX11_sumOfNears_27 : decode cX11_sumOfNears 27 = .ok (.iload_n 1, 1) := by decide +kernel
theorem dX11_sumOfNears_28 : decode cX11_sumOfNears 28 = .ok (.iload 4, 2) := by decide +kernel
theorem dX11_sumOfNears_30 : decode cX11_sumOfNears 30 = .ok (.ishr, 1) := by decide +kernel
theorem dX11_sumOfNears_31 : decode cX11_sumOfNears 31 = .ok (.iconst 1, 1) := by decide +kernel
theorem dX11_sumOfNears_32 : decode cX11_sumOfNears 32 = .ok (.iand, 1) := by decide +kernel
theorem dX11_sumOfNears_33 : decode cX11_sumOfNears 33 = .ok (.iconst 1, 1) := by decide +kernel
theorem dX11_sumOfNears_34 : decode cX11_sumOfNears 34 = .ok (.if_icmp .ne 16, 3) := by decide +kernel
theorem dX11_sumOfNears_37 : decode cX11_sumOfNears 37 = .ok (.iload_n 3, 1) := by decide +kernel
theorem dX11_sumOfNears_38 : decode cX11_sumOfNears 38 = .ok (.iload_n 2, 1) := by decide +kernel
theorem dX11_sumOfNears_39 : decode cX11_sumOfNears 39 = .ok (.aload 5, 2) := by decide +kernel
theorem dX11_sumOfNears_41 : decode cX11_sumOfNears 41 = .ok (.getfield 115, 3) := by decide +kernel
theorem dX11_sumOfNears_44 : decode cX11_sumOfNears 44 = .ok (.isub, 1) := by decide +kernel
theorem dX11_sumOfNears_45 : decode cX11_sumOfNears 45 = .ok (.invokestatic 121, 3) := by decide +kernel
theorem dX11_sumOfNears_48 : decode cX11_sumOfNears 48 = .ok (.iadd, 1) := by decide +kernel
theorem dX11_sumOfNears_49 : decode cX11_sumOfNears 49 = .ok (.istore_n 3, 1) := by decide +kernel
theorem dX11_sumOfNears_50 : decode cX11_sumOfNears 50 = .ok (.iinc 4 1, 3) := by decide +kernel
theorem dX11_sumOfNears_53 : decode cX11_sumOfNears 53 = .ok (.goto (-48), 3) := by decide +kernel
theorem dX11_sumOfNears_56 : decode cX11_sumOfNears 56 = .ok (.iload_n 3, 1) := by decide +kernel
theorem dX11_sumOfNears_57 : decode cX11_sumOfNears 57 = .ok (.ireturn, 1) := by decide +kernel
def f_X11_sumOfNears_K56 (x1 : Int32) (S2 : HSt) : Option (Int32 × HSt) := some (x1, S2)
def f_X11_sumOfNears_B5 (a0 : Nat) (a1 : Int32) (a2 : Int32) (kx56 : (Int32 → HSt → Option (Int32 × HSt))) (kb5 : (Int32 → Int32 → HSt → Option (Int32 × HSt))) (x3 : Int32) (x4 : Int32) (S5 : HSt) : Option (Int32 × HSt) := (gI S5 a0 11 2).bind fun v6 => if v6 ≤ x4 then (kx56 x3 S5) else (if gC S5 a0 = some 11 then (bd2 (f_X11_tryAt S5 a0 x4) fun b12 S11 => oC b12 (kb5 x3 (x4 + 1) S11) fun r13 => if ((a1 >>> (x4 &&& 31)) &&& 1) = 1 then ((gIT S11 r13 5).bind fun v15 => hqn ((if 0 ≤ (a2 - v15) then (a2 - v15) else 0 - (a2 - v15) : Int32)) fun (v17 : Int32) => kb5 (x3 + v17) (x4 + 1) S11) else (kb5 x3 (x4 + 1) S11)) else none)
def f_X11_sumOfNears_L5 (a0 : Nat) (a1 : Int32) (a2 : Int32) (kx56 : (Int32 → HSt → Option (Int32 × HSt))) : Nat → Int32 → Int32 → HSt → Option (Int32 × HSt)
  | 0, _, _, _ => none
  | n + 1, x3, x4, S => f_X11_sumOfNears_B5 a0 a1 a2 kx56 (f_X11_sumOfNears_L5 a0 a1 a2 kx56 n) x3 x4 S
def f_X11_sumOfNears (S : HSt) (a0 : Nat) (a1 : Int32) (a2 : Int32) : Option (Int32 × HSt) := (f_X11_sumOfNears_L5 a0 a1 a2 f_X11_sumOfNears_K56 FU) 0 0 S
abbrev rm_X11_sumOfNears : Room := { frames := 1, cells := 0, slots := 0, locals := 21 }
abbrev w_X11_sumOfNears : List Cond := Cond.code yX11_sumOfNears cX11_sumOfNears 6 (Option.some FieldType.int) :: lwG
theorem yd_X11_sumOfNears : yX11_sumOfNears.cls ≠ "java/lang/invoke/MethodHandle" ∧ yX11_sumOfNears.cls ≠ "java/lang/invoke/VarHandle" ∧ (parseMethodDescriptor yX11_sumOfNears.desc).map (fun d => d.parameters.length) = some 2 := by decide +kernel
theorem ye_X11_sumOfNears : yX11_sumOfNears.cls = RX11 ∧ yX11_sumOfNears.cls ≠ "java/lang/invoke/MethodHandle" ∧ yX11_sumOfNears.cls ≠ "java/lang/invoke/VarHandle" ∧ (parseMethodDescriptor yX11_sumOfNears.desc).map (fun d => d.parameters.length) = some 2 := by decide +kernel
set_option maxHeartbeats 4000000 in
set_option maxRecDepth 100000 in
theorem c_X11_sumOfNears (l : Launch) (D : va_G) (kA ρ : Nat → Nat) (HB : Heap) (S : HSt) (a0 : Nat) (a1 : Int32) (a2 : Int32) (res : Int32 × HSt) (h : f_X11_sumOfNears S a0 a1 a2 = some res) : Met l yX11_sumOfNears w_X11_sumOfNears rm_X11_sumOfNears (hPc D kA ρ HB S [.ref a0, .int a1, .int a2]) (hQi D kA HB S res) 0 0 (hFree HB) := by
  refine Met.ofW (cc := cX11_sumOfNears) (maxL := 6) (ret := (Option.some FieldType.int)) (by decide) rfl ?_
  intro p e s m args below meth c s₁ B hml hv
  obtain ⟨rfl, hE, h0⟩ := hv
  have hx := B.exec
  have hb := B.bytes
  have hr := B.returns
  have hts0 := atoms_spec (ws := w_X11_sumOfNears) B.pre
  have hts : ∀ w ∈ lwG, w.before _ s = true := fun w hw => hts0 w (List.mem_cons_of_mem _ hw)
  have hown : s.vm.findClass RX11 = some m.cls := findClass_of_methodNamed B.named
  have hlocks := B.notSynchronized
  have hI : hqX D kA HB S.2 S s.heap [] := ⟨h0, Nat.le_refl _, fun _ q => absurd q List.not_mem_nil⟩
  have hl := lv_entry ([.ref a0, .int a1, .int a2]) (n := 6) (Nat.le_of_ble_eq_true rfl)
  rw [lg_entry_eq]
  generalize (lg_sl ([.ref a0, .int a1, .int a2]) ++ List.replicate (6 - (lg_sl ([.ref a0, .int a1, .int a2])).length) Slot.unset).toArray = ls at hl ⊢
  have hl : lv_has ls 6 [(0, .ref a0), (1, .int a1), (2, .int a2)] := hl
  unfold f_X11_sumOfNears at h
  refine lv_iconst (v := 0) hx hb dX11_sumOfNears_0 (by decide) ?_
  refine lv_istore_n (lv' := [(3, .int 0), (0, .ref a0), (1, .int a1), (2, .int a2)]) hx hb dX11_sumOfNears_1 rfl hl (by decide) rfl (fun ls hl => ?_)
  refine lv_iconst (v := 0) hx hb dX11_sumOfNears_2 (by decide) ?_
  refine lv_istore (lv' := [(4, .int 0), (3, .int 0), (0, .ref a0), (1, .int a1), (2, .int a2)]) hx hb dX11_sumOfNears_3 hl (by decide) rfl (fun ls hl => ?_)
  have hK56 : ∀ (x1 : Int32) (S2 : HSt) (H : Heap) (locs : List Loc) (ls : Array Slot), f_X11_sumOfNears_K56 x1 S2 = some res → hqX D kA HB S.2 S2 H locs → lv_has ls 6 [(3, .int x1)] → W p l e rm_X11_sumOfNears s m ([.ref a0, .int a1, .int a2] : List Value).toArray below meth c H locs 0 0 (MQ below (hQi D kA HB S res) ([.ref a0, .int a1, .int a2] : List Value).toArray s 0 0 (hFree HB)) (F0 m 56 ls []) := by
    intro x1 S2 H locs ls h hI hl
    unfold f_X11_sumOfNears_K56 at h
    refine lv_iload_n hx hb dX11_sumOfNears_56 rfl (lv_at hl 0 rfl) ?_
    exact hq_iret hx hb hr hlocks h0 hI h dX11_sumOfNears_57
  have hL5 : ∀ (n5 : Nat) (x3 : Int32) (x4 : Int32) (S5 : HSt) (H : Heap) (locs : List Loc) (ls : Array Slot), (f_X11_sumOfNears_L5 a0 a1 a2 f_X11_sumOfNears_K56 n5) x3 x4 S5 = some res → hqX D kA HB S.2 S5 H locs → lv_has ls 6 [(0, .ref a0), (1, .int a1), (2, .int a2), (3, .int x3), (4, .int x4)] → W p l e rm_X11_sumOfNears s m ([.ref a0, .int a1, .int a2] : List Value).toArray below meth c H locs 0 0 (MQ below (hQi D kA HB S res) ([.ref a0, .int a1, .int a2] : List Value).toArray s 0 0 (hFree HB)) (F0 m 5 ls []) := by
    intro n5
    induction n5 with
    | zero =>
      intro x3 x4 S5 H locs ls h
      have h : (none : Option (Int32 × HSt)) = some res := h
      cases h
    | succ n5 ih5 =>
      intro x3 x4 S5 H locs ls h hI hl
      have h : f_X11_sumOfNears_B5 a0 a1 a2 f_X11_sumOfNears_K56 (f_X11_sumOfNears_L5 a0 a1 a2 f_X11_sumOfNears_K56 n5) x3 x4 S5 = some res := h
      unfold f_X11_sumOfNears_B5 at h
      refine lv_iload hx hb dX11_sumOfNears_5 (lv_at hl 4 rfl) ?_
      refine lv_aload_n hx hb dX11_sumOfNears_7 rfl (lv_at hl 0 rfl) ?_
      obtain ⟨v6, g7, h⟩ := hq_bind h
      obtain ⟨fs_g7, hs_g7, hv_g7⟩ := gI_at g7
      refine hq_get hx hb hts hown hE hI hs_g7 inG11 rfl 2 (by decide) kw_134 hv_g7 dX11_sumOfNears_8 ?_
      refine lv_icmp_ge (tgt := 56) hx hb dX11_sumOfNears_11 (by decide) (fun c8 => ?_) (fun c8 => ?_)
      · have h := hq_t h c8
        exact hK56 x3 S5 _ _ _ h hI (lv_sub hl [3] rfl)
      · have h := hq_f h c8
        refine lv_aload_n hx hb dX11_sumOfNears_14 rfl (lv_at hl 0 rfl) ?_
        refine lv_iload hx hb dX11_sumOfNears_15 (lv_at hl 4 rfl) ?_
        obtain ⟨g10, h⟩ := hq_g h
        obtain ⟨b12, S11, g9, h⟩ := hq_bd2 h
        refine hq_callq hI (va_runV (As := [.int x4]) (rest := []) ⟨hx, hb, hml, hown, hts⟩ (c_X11_tryAt l D kA ρ HB S5 a0 x4 _ g9) (cwV 1 hts (gdIn (List.forall_mem_cons.mpr ⟨kw_354, (List.forall_mem_cons.mpr ⟨kw_356, (List.forall_mem_cons.mpr ⟨ks_2, (List.forall_mem_cons.mpr ⟨kw_1, (fun _ h => absurd h List.not_mem_nil)⟩)⟩)⟩)⟩) kw_357) rfl rfl rfl ye_X11_tryAt ⟨Nat.le_of_ble_eq_true rfl, Nat.le_of_ble_eq_true rfl⟩) (hq_preC hE hI g10 rfl _) rfl rfl hl.1 rfl (lv_room (Nat.le_of_ble_eq_true rfl)) dX11_sumOfNears_17 ⟨Nat.le_of_ble_eq_true rfl, Nat.le_of_ble_eq_true rfl⟩) (fun H locs hI => ?_)
        rcases b12 with _ | r13
        · have h := oC_n h
          refine lv_astoreN (lv' := [(5, .null), (0, .ref a0), (1, .int a1), (2, .int a2), (3, .int x3), (4, .int x4)]) hx hb dX11_sumOfNears_20 hl (by decide) rfl (fun ls hl => ?_)
          refine lv_aloadN hx hb dX11_sumOfNears_22 (lv_at hl 0 rfl) ?_
          refine lv_ifnullN (tgt := 50) hx hb dX11_sumOfNears_24 (by decide) ?_
          refine lv_iinc (v := (x4 + 1)) (lv' := [(4, .int (x4 + 1)), (5, .null), (0, .ref a0), (1, .int a1), (2, .int a2), (3, .int x3)]) hx hb dX11_sumOfNears_50 hl (k := 5) rfl rfl (by decide) rfl (fun ls hl => ?_)
          refine lv_goto (tgt := 5) hx hb dX11_sumOfNears_53 (by decide) ?_
          exact ih5 x3 (x4 + 1) S11 _ _ _ h hI (lv_sub hl [2, 3, 4, 5, 0] rfl)
        · have h := oC_s h
          refine lv_astore (lv' := [(5, .ref r13), (0, .ref a0), (1, .int a1), (2, .int a2), (3, .int x3), (4, .int x4)]) hx hb dX11_sumOfNears_20 hl (by decide) rfl (fun ls hl => ?_)
          refine lv_aload hx hb dX11_sumOfNears_22 (lv_at hl 0 rfl) ?_
          refine lv_ifnull hx hb dX11_sumOfNears_24 ?_
          refine lv_iload_n hx hb dX11_sumOfNears_27 rfl (lv_at hl 2 rfl) ?_
          refine lv_iload hx hb dX11_sumOfNears_28 (lv_at hl 5 rfl) ?_
          refine lv_ishr hx hb dX11_sumOfNears_30 ?_
          refine lv_iconst (v := 1) hx hb dX11_sumOfNears_31 (by decide) ?_
          refine lv_iand hx hb dX11_sumOfNears_32 ?_
          refine lv_iconst (v := 1) hx hb dX11_sumOfNears_33 (by decide) ?_
          refine lv_icmp_ne (tgt := 50) hx hb dX11_sumOfNears_34 (by decide) (fun c14 => ?_) (fun c14 => ?_)
          · have h := hq_f h c14
            refine lv_iinc (v := (x4 + 1)) (lv' := [(4, .int (x4 + 1)), (5, .ref r13), (0, .ref a0), (1, .int a1), (2, .int a2), (3, .int x3)]) hx hb dX11_sumOfNears_50 hl (k := 5) rfl rfl (by decide) rfl (fun ls hl => ?_)
            refine lv_goto (tgt := 5) hx hb dX11_sumOfNears_53 (by decide) ?_
            exact ih5 x3 (x4 + 1) S11 _ _ _ h hI (lv_sub hl [2, 3, 4, 5, 0] rfl)
          · have h := hq_t h c14
            refine lv_iload_n hx hb dX11_sumOfNears_37 rfl (lv_at hl 4 rfl) ?_
            refine lv_iload_n hx hb dX11_sumOfNears_38 rfl (lv_at hl 3 rfl) ?_
            refine lv_aload hx hb dX11_sumOfNears_39 (lv_at hl 0 rfl) ?_
            obtain ⟨v15, g16, h⟩ := hq_bind h
            obtain ⟨c_g16, fs_g16, hk_g16, hs_g16, hv_g16⟩ := gIT_at g16
            obtain ⟨C_g16, hc_g16, hi_g16⟩ := hKin_at hk_g16
            refine hq_getN hx hb hts hown hE hI hs_g16 hi_g16 hc_g16 5 (by decide) kn_227 hv_g16 dX11_sumOfNears_41 ?_
            refine lv_isub hx hb dX11_sumOfNears_44 ?_
            refine va_mabs hx hb (hml.trans hl.1.symm) hown (hts _ kw_347) (hts _ kw_348) (hts _ kw_14) (hts _ kw_349) (Nat.le_of_ble_eq_true rfl) (Nat.le_of_ble_eq_true rfl) (Nat.le_of_ble_eq_true rfl) (Nat.le_of_ble_eq_true rfl) dX11_sumOfNears_45 ?_
            refine lv_topi (fun v17 e_v17 => ?_)
            have h := hq_nm h e_v17
            refine lv_iadd hx hb dX11_sumOfNears_48 ?_
            refine lv_istore_n (lv' := [(3, .int (x3 + v17)), (5, .ref r13), (0, .ref a0), (1, .int a1), (2, .int a2), (4, .int x4)]) hx hb dX11_sumOfNears_49 rfl hl (by decide) rfl (fun ls hl => ?_)
            refine lv_iinc (v := (x4 + 1)) (lv' := [(4, .int (x4 + 1)), (3, .int (x3 + v17)), (5, .ref r13), (0, .ref a0), (1, .int a1), (2, .int a2)]) hx hb dX11_sumOfNears_50 hl (k := 5) rfl rfl (by decide) rfl (fun ls hl => ?_)
            refine lv_goto (tgt := 5) hx hb dX11_sumOfNears_53 (by decide) ?_
            exact ih5 (x3 + v17) (x4 + 1) S11 _ _ _ h hI (lv_sub hl [3, 4, 5, 1, 0] rfl)
  exact hL5 FU 0 0 S _ _ _ h hI (lv_sub hl [2, 3, 4, 1, 0] rfl)
-- RodDips.sumOfOwnNears(I)I
theorem dX11_sumOfOwnNears_0 : decode cX11_sumOfOwnNears 0 = .ok (.iconst 0, 1) := by decide +kernel
theorem dX11_sumOfOwnNears_1 : decode cX11_sumOfOwnNears 1 = .ok (.istore_n 2, 1) := by decide +kernel
theorem dX11_sumOfOwnNears_2 : decode cX11_sumOfOwnNears 2 = .ok (.iconst 0, 1) := by decide +kernel
theorem dX11_sumOfOwnNears_3 : decode cX11_sumOfOwnNears 3 = .ok (.istore_n 3, 1) := by decide +kernel
theorem dX11_sumOfOwnNears_4 : decode cX11_sumOfOwnNears 4 = .ok (.iload_n 3, 1) := by decide +kernel
theorem dX11_sumOfOwnNears_5 : decode cX11_sumOfOwnNears 5 = .ok (.aload_n 0, 1) := by decide +kernel
theorem dX11_sumOfOwnNears_6 : decode cX11_sumOfOwnNears 6 = .ok (.getfield 21, 3) := by decide +kernel
theorem dX11_sumOfOwnNears_9 : decode cX11_sumOfOwnNears 9 = .ok (.if_icmp .ge 38, 3) := by decide +kernel
theorem dX11_sumOfOwnNears_12 : decode cX11_sumOfOwnNears 12 = .ok (.aload_n 0, 1) := by decide +kernel
theorem dX11_sumOfOwnNears_13 : decode cX11_sumOfOwnNears 13 = .ok (.iload_n 3, 1) := by decide +kernel
theorem dX11_sumOfOwnNears_14 : decode cX11_sumOfOwnNears 14 = .ok (.invokevirtual 130, 3) := by decide +kernel
theorem dX11_sumOfOwnNears_17 : decode cX11_sumOfOwnNears 17 = .ok (.astore 4, 2) := by decide +kernel
theorem dX11_sumOfOwnNears_19 : decode cX11_sumOfOwnNears 19 = .ok (.aload 4, 2) := by decide +kernel
theorem dX11_sumOfOwnNears_21 : decode cX11_sumOfOwnNears 21 = .ok (.ifnull 20, 3) := by decide +kernel
theorem dX11_sumOfOwnNears_24 : decode cX11_sumOfOwnNears 24 = .ok (.iload_n 1, 1) := by decide +kernel
theorem dX11_sumOfOwnNears_25 : decode cX11_sumOfOwnNears 25 = .ok (.iload_n 3, 1) := by decide +kernel
theorem dX11_sumOfOwnNears_26 : decode cX11_sumOfOwnNears 26 = .ok (.ishr, 1) := by decide +kernel
theorem dX11_sumOfOwnNears_27 : decode cX11_sumOfOwnNears 27 = .ok (.iconst 1, 1) := by decide +kernel
theorem dX11_sumOfOwnNears_28 : decode cX11_sumOfOwnNears 28 = .ok (.iand, 1) := by decide +kernel
theorem dX11_sumOfOwnNears_29 : decode cX11_sumOfOwnNears 29 = .ok (.iconst 1, 1) := by decide +kernel
theorem dX11_sumOfOwnNears_30 : decode cX11_sumOfOwnNears 30 = .ok (.if_icmp .ne 11, 3) := by decide +kernel
theorem dX11_sumOfOwnNears_33 : decode cX11_sumOfOwnNears 33 = .ok (.iload_n 2, 1) := by decide +kernel
theorem dX11_sumOfOwnNears_34 : decode cX11_sumOfOwnNears 34 = .ok (.aload 4, 2) := by decide +kernel
theorem dX11_sumOfOwnNears_36 : decode cX11_sumOfOwnNears 36 = .ok (.getfield 127, 3) := by decide +kernel
theorem dX11_sumOfOwnNears_39 : decode cX11_sumOfOwnNears 39 = .ok (.iadd, 1) := by decide +kernel
theorem dX11_sumOfOwnNears_40 : decode cX11_sumOfOwnNears 40 = .ok (.istore_n 2, 1) := by decide +kernel
theorem dX11_sumOfOwnNears_41 : decode cX11_sumOfOwnNears 41 = .ok (.iinc 3 1, 3) := by decide +kernel
theorem dX11_sumOfOwnNears_44 : decode cX11_sumOfOwnNears 44 = .ok (.goto (-40), 3) := by decide +kernel
theorem dX11_sumOfOwnNears_47 : decode cX11_sumOfOwnNears 47 = .ok (.iload_n 2, 1) := by decide +kernel
theorem dX11_sumOfOwnNears_48 : decode cX11_sumOfOwnNears 48 = .ok (.ireturn, 1) := by decide +kernel
def f_X11_sumOfOwnNears_K47 (x1 : Int32) (S2 : HSt) : Option (Int32 × HSt) := some (x1, S2)
def f_X11_sumOfOwnNears_B4 (a0 : Nat) (a1 : Int32) (kx47 : (Int32 → HSt → Option (Int32 × HSt))) (kb4 : (Int32 → Int32 → HSt → Option (Int32 × HSt))) (x3 : Int32) (x4 : Int32) (S5 : HSt) : Option (Int32 × HSt) := (gI S5 a0 11 2).bind fun v6 => if v6 ≤ x4 then (kx47 x3 S5) else (if gC S5 a0 = some 11 then (bd2 (f_X11_tryAt S5 a0 x4) fun b12 S11 => oC b12 (kb4 x3 (x4 + 1) S11) fun r13 => if ((a1 >>> (x4 &&& 31)) &&& 1) = 1 then ((gIT S11 r13 7).bind fun v15 => kb4 (x3 + v15) (x4 + 1) S11) else (kb4 x3 (x4 + 1) S11)) else none)
def f_X11_sumOfOwnNears_L4 (a0 : Nat) (a1 : Int32) (kx47 : (Int32 → HSt → Option (Int32 × HSt))) : Nat → Int32 → Int32 → HSt → Option (Int32 × HSt)
  | 0, _, _, _ => none
  | n + 1, x3, x4, S => f_X11_sumOfOwnNears_B4 a0 a1 kx47 (f_X11_sumOfOwnNears_L4 a0 a1 kx47 n) x3 x4 S
def f_X11_sumOfOwnNears (S : HSt) (a0 : Nat) (a1 : Int32) : Option (Int32 × HSt) := (f_X11_sumOfOwnNears_L4 a0 a1 f_X11_sumOfOwnNears_K47 FU) 0 0 S
abbrev rm_X11_sumOfOwnNears : Room := { frames := 1, cells := 0, slots := 0, locals := 21 }
abbrev w_X11_sumOfOwnNears : List Cond := Cond.code yX11_sumOfOwnNears cX11_sumOfOwnNears 5 (Option.some FieldType.int) :: lwG
theorem yd_X11_sumOfOwnNears : yX11_sumOfOwnNears.cls ≠ "java/lang/invoke/MethodHandle" ∧ yX11_sumOfOwnNears.cls ≠ "java/lang/invoke/VarHandle" ∧ (parseMethodDescriptor yX11_sumOfOwnNears.desc).map (fun d => d.parameters.length) = some 1 := by decide +kernel
theorem ye_X11_sumOfOwnNears : yX11_sumOfOwnNears.cls = RX11 ∧ yX11_sumOfOwnNears.cls ≠ "java/lang/invoke/MethodHandle" ∧ yX11_sumOfOwnNears.cls ≠ "java/lang/invoke/VarHandle" ∧ (parseMethodDescriptor yX11_sumOfOwnNears.desc).map (fun d => d.parameters.length) = some 1 := by decide +kernel
set_option maxHeartbeats 4000000 in
set_option maxRecDepth 100000 in
theorem c_X11_sumOfOwnNears (l : Launch) (D : va_G) (kA ρ : Nat → Nat) (HB : Heap) (S : HSt) (a0 : Nat) (a1 : Int32) (res : Int32 × HSt) (h : f_X11_sumOfOwnNears S a0 a1 = some res) : Met l yX11_sumOfOwnNears w_X11_sumOfOwnNears rm_X11_sumOfOwnNears (hPc D kA ρ HB S [.ref a0, .int a1]) (hQi D kA HB S res) 0 0 (hFree HB) := by
  refine Met.ofW (cc := cX11_sumOfOwnNears) (maxL := 5) (ret := (Option.some FieldType.int)) (by decide) rfl ?_
  intro p e s m args below meth c s₁ B hml hv
  obtain ⟨rfl, hE, h0⟩ := hv
  have hx := B.exec
  have hb := B.bytes
  have hr := B.returns
  have hts0 := atoms_spec (ws := w_X11_sumOfOwnNears) B.pre
  have hts : ∀ w ∈ lwG, w.before _ s = true := fun w hw => hts0 w (List.mem_cons_of_mem _ hw)
  have hown : s.vm.findClass RX11 = some m.cls := findClass_of_methodNamed B.named
  have hlocks := B.notSynchronized
  have hI : hqX D kA HB S.2 S s.heap [] := ⟨h0, Nat.le_refl _, fun _ q => absurd q List.not_mem_nil⟩
  have hl := lv_entry ([.ref a0, .int a1]) (n := 5) (Nat.le_of_ble_eq_true rfl)
  rw [lg_entry_eq]
  generalize (lg_sl ([.ref a0, .int a1]) ++ List.replicate (5 - (lg_sl ([.ref a0, .int a1])).length) Slot.unset).toArray = ls at hl ⊢
  have hl : lv_has ls 5 [(0, .ref a0), (1, .int a1)] := hl
  unfold f_X11_sumOfOwnNears at h
  refine lv_iconst (v := 0) hx hb dX11_sumOfOwnNears_0 (by decide) ?_
  refine lv_istore_n (lv' := [(2, .int 0), (0, .ref a0), (1, .int a1)]) hx hb dX11_sumOfOwnNears_1 rfl hl (by decide) rfl (fun ls hl => ?_)
  refine lv_iconst (v := 0) hx hb dX11_sumOfOwnNears_2 (by decide) ?_
  refine lv_istore_n (lv' := [(3, .int 0), (2, .int 0), (0, .ref a0), (1, .int a1)]) hx hb dX11_sumOfOwnNears_3 rfl hl (by decide) rfl (fun ls hl => ?_)
  have hK47 : ∀ (x1 : Int32) (S2 : HSt) (H : Heap) (locs : List Loc) (ls : Array Slot), f_X11_sumOfOwnNears_K47 x1 S2 = some res → hqX D kA HB S.2 S2 H locs → lv_has ls 5 [(2, .int x1)] → W p l e rm_X11_sumOfOwnNears s m ([.ref a0, .int a1] : List Value).toArray below meth c H locs 0 0 (MQ below (hQi D kA HB S res) ([.ref a0, .int a1] : List Value).toArray s 0 0 (hFree HB)) (F0 m 47 ls []) := by
    intro x1 S2 H locs ls h hI hl
    unfold f_X11_sumOfOwnNears_K47 at h
    refine lv_iload_n hx hb dX11_sumOfOwnNears_47 rfl (lv_at hl 0 rfl) ?_
    exact hq_iret hx hb hr hlocks h0 hI h dX11_sumOfOwnNears_48
  have hL4 : ∀ (n4 : Nat) (x3 : Int32) (x4 : Int32) (S5 : HSt) (H : Heap) (locs : List Loc) (ls : Array Slot), (f_X11_sumOfOwnNears_L4 a0 a1 f_X11_sumOfOwnNears_K47 n4) x3 x4 S5 = some res → hqX D kA HB S.2 S5 H locs → lv_has ls 5 [(0, .ref a0), (1, .int a1), (2, .int x3), (3, .int x4)] → W p l e rm_X11_sumOfOwnNears s m ([.ref a0, .int a1] : List Value).toArray below meth c H locs 0 0 (MQ below (hQi D kA HB S res) ([.ref a0, .int a1] : List Value).toArray s 0 0 (hFree HB)) (F0 m 4 ls []) := by
    intro n4
    induction n4 with
    | zero =>
      intro x3 x4 S5 H locs ls h
      have h : (none : Option (Int32 × HSt)) = some res := h
      cases h
    | succ n4 ih4 =>
      intro x3 x4 S5 H locs ls h hI hl
      have h : f_X11_sumOfOwnNears_B4 a0 a1 f_X11_sumOfOwnNears_K47 (f_X11_sumOfOwnNears_L4 a0 a1 f_X11_sumOfOwnNears_K47 n4) x3 x4 S5 = some res := h
      unfold f_X11_sumOfOwnNears_B4 at h
      refine lv_iload_n hx hb dX11_sumOfOwnNears_4 rfl (lv_at hl 3 rfl) ?_
      refine lv_aload_n hx hb dX11_sumOfOwnNears_5 rfl (lv_at hl 0 rfl) ?_
      obtain ⟨v6, g7, h⟩ := hq_bind h
      obtain ⟨fs_g7, hs_g7, hv_g7⟩ := gI_at g7
      refine hq_get hx hb hts hown hE hI hs_g7 inG11 rfl 2 (by decide) kw_134 hv_g7 dX11_sumOfOwnNears_6 ?_
      refine lv_icmp_ge (tgt := 47) hx hb dX11_sumOfOwnNears_9 (by decide) (fun c8 => ?_) (fun c8 => ?_)
      · have h := hq_t h c8
        exact hK47 x3 S5 _ _ _ h hI (lv_sub hl [2] rfl)
      · have h := hq_f h c8
        refine lv_aload_n hx hb dX11_sumOfOwnNears_12 rfl (lv_at hl 0 rfl) ?_
        refine lv_iload_n hx hb dX11_sumOfOwnNears_13 rfl (lv_at hl 3 rfl) ?_
        obtain ⟨g10, h⟩ := hq_g h
        obtain ⟨b12, S11, g9, h⟩ := hq_bd2 h
        refine hq_callq hI (va_runV (As := [.int x4]) (rest := []) ⟨hx, hb, hml, hown, hts⟩ (c_X11_tryAt l D kA ρ HB S5 a0 x4 _ g9) (cwV 1 hts (gdIn (List.forall_mem_cons.mpr ⟨kw_354, (List.forall_mem_cons.mpr ⟨kw_356, (List.forall_mem_cons.mpr ⟨ks_2, (List.forall_mem_cons.mpr ⟨kw_1, (fun _ h => absurd h List.not_mem_nil)⟩)⟩)⟩)⟩) kw_357) rfl rfl rfl ye_X11_tryAt ⟨Nat.le_of_ble_eq_true rfl, Nat.le_of_ble_eq_true rfl⟩) (hq_preC hE hI g10 rfl _) rfl rfl hl.1 rfl (lv_room (Nat.le_of_ble_eq_true rfl)) dX11_sumOfOwnNears_14 ⟨Nat.le_of_ble_eq_true rfl, Nat.le_of_ble_eq_true rfl⟩) (fun H locs hI => ?_)
        rcases b12 with _ | r13
        · have h := oC_n h
          refine lv_astoreN (lv' := [(4, .null), (0, .ref a0), (1, .int a1), (2, .int x3), (3, .int x4)]) hx hb dX11_sumOfOwnNears_17 hl (by decide) rfl (fun ls hl => ?_)
          refine lv_aloadN hx hb dX11_sumOfOwnNears_19 (lv_at hl 0 rfl) ?_
          refine lv_ifnullN (tgt := 41) hx hb dX11_sumOfOwnNears_21 (by decide) ?_
          refine lv_iinc (v := (x4 + 1)) (lv' := [(3, .int (x4 + 1)), (4, .null), (0, .ref a0), (1, .int a1), (2, .int x3)]) hx hb dX11_sumOfOwnNears_41 hl (k := 4) rfl rfl (by decide) rfl (fun ls hl => ?_)
          refine lv_goto (tgt := 4) hx hb dX11_sumOfOwnNears_44 (by decide) ?_
          exact ih4 x3 (x4 + 1) S11 _ _ _ h hI (lv_sub hl [2, 3, 4, 0] rfl)
        · have h := oC_s h
          refine lv_astore (lv' := [(4, .ref r13), (0, .ref a0), (1, .int a1), (2, .int x3), (3, .int x4)]) hx hb dX11_sumOfOwnNears_17 hl (by decide) rfl (fun ls hl => ?_)
          refine lv_aload hx hb dX11_sumOfOwnNears_19 (lv_at hl 0 rfl) ?_
          refine lv_ifnull hx hb dX11_sumOfOwnNears_21 ?_
          refine lv_iload_n hx hb dX11_sumOfOwnNears_24 rfl (lv_at hl 2 rfl) ?_
          refine lv_iload_n hx hb dX11_sumOfOwnNears_25 rfl (lv_at hl 4 rfl) ?_
          refine lv_ishr hx hb dX11_sumOfOwnNears_26 ?_
          refine lv_iconst (v := 1) hx hb dX11_sumOfOwnNears_27 (by decide) ?_
          refine lv_iand hx hb dX11_sumOfOwnNears_28 ?_
          refine lv_iconst (v := 1) hx hb dX11_sumOfOwnNears_29 (by decide) ?_
          refine lv_icmp_ne (tgt := 41) hx hb dX11_sumOfOwnNears_30 (by decide) (fun c14 => ?_) (fun c14 => ?_)
          · have h := hq_f h c14
            refine lv_iinc (v := (x4 + 1)) (lv' := [(3, .int (x4 + 1)), (4, .ref r13), (0, .ref a0), (1, .int a1), (2, .int x3)]) hx hb dX11_sumOfOwnNears_41 hl (k := 4) rfl rfl (by decide) rfl (fun ls hl => ?_)
            refine lv_goto (tgt := 4) hx hb dX11_sumOfOwnNears_44 (by decide) ?_
            exact ih4 x3 (x4 + 1) S11 _ _ _ h hI (lv_sub hl [2, 3, 4, 0] rfl)
          · have h := hq_t h c14
            refine lv_iload_n hx hb dX11_sumOfOwnNears_33 rfl (lv_at hl 3 rfl) ?_
            refine lv_aload hx hb dX11_sumOfOwnNears_34 (lv_at hl 0 rfl) ?_
            obtain ⟨v15, g16, h⟩ := hq_bind h
            obtain ⟨c_g16, fs_g16, hk_g16, hs_g16, hv_g16⟩ := gIT_at g16
            obtain ⟨C_g16, hc_g16, hi_g16⟩ := hKin_at hk_g16
            refine hq_getN hx hb hts hown hE hI hs_g16 hi_g16 hc_g16 7 (by decide) kn_232 hv_g16 dX11_sumOfOwnNears_36 ?_
            refine lv_iadd hx hb dX11_sumOfOwnNears_39 ?_
            refine lv_istore_n (lv' := [(2, .int (x3 + v15)), (4, .ref r13), (0, .ref a0), (1, .int a1), (3, .int x4)]) hx hb dX11_sumOfOwnNears_40 rfl hl (by decide) rfl (fun ls hl => ?_)
            refine lv_iinc (v := (x4 + 1)) (lv' := [(3, .int (x4 + 1)), (2, .int (x3 + v15)), (4, .ref r13), (0, .ref a0), (1, .int a1)]) hx hb dX11_sumOfOwnNears_41 hl (k := 4) rfl rfl (by decide) rfl (fun ls hl => ?_)
            refine lv_goto (tgt := 4) hx hb dX11_sumOfOwnNears_44 (by decide) ?_
            exact ih4 (x3 + v15) (x4 + 1) S11 _ _ _ h hI (lv_sub hl [3, 4, 1, 0] rfl)
  exact hL4 FU 0 0 S _ _ _ h hI (lv_sub hl [2, 3, 1, 0] rfl)
