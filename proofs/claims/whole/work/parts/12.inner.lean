/-! odds, trace, texts, the tape: printed by wip/whole/gen.py -/
-- RodDips$Odds.start()V
theorem dX4_start_0 : decode cX4_start 0 = .ok (.aload_n 0, 1) := by decide +kernel
theorem dX4_start_1 : decode cX4_start 1 = .ok (.getfield 9, 3) := by decide +kernel
theorem dX4_start_4 : decode cX4_start 4 = .ok (.lconst 0, 1) := by decide +kernel
theorem dX4_start_5 : decode cX4_start 5 = .ok (.invokestatic 23, 3) := by decide +kernel
theorem dX4_start_8 : decode cX4_start 8 = .ok (.aload_n 0, 1) := by decide +kernel
theorem dX4_start_9 : decode cX4_start 9 = .ok (.getfield 9, 3) := by decide +kernel
theorem dX4_start_12 : decode cX4_start 12 = .ok (.iconst 0, 1) := by decide +kernel
theorem dX4_start_13 : decode cX4_start 13 = .ok (.lconst 1, 1) := by decide +kernel
theorem dX4_start_14 : decode cX4_start 14 = .ok (.lastore, 1) := by decide +kernel
theorem dX4_start_15 : decode cX4_start 15 = .ok (.aload_n 0, 1) := by decide +kernel
theorem dX4_start_16 : decode cX4_start 16 = .ok (.iconst 0, 1) := by decide +kernel
theorem dX4_start_17 : decode cX4_start 17 = .ok (.putfield 15, 3) := by decide +kernel
theorem dX4_start_20 : decode cX4_start 20 = .ok (.aload_n 0, 1) := by decide +kernel
theorem dX4_start_21 : decode cX4_start 21 = .ok (.lconst 1, 1) := by decide +kernel
theorem dX4_start_22 : decode cX4_start 22 = .ok (.putfield 19, 3) := by decide +kernel
theorem dX4_start_25 : decode cX4_start 25 = .ok (.return_, 1) := by decide +kernel
def f_X4_start (S : HSt) (a0 : Nat) : Option (HSt) := (gR S a0 4 0).bind fun b1 => (f_J7_fill_d0a16 S b1 0).bind fun S4 => (gR S4 a0 4 0).bind fun b5 => (sL S4 b5 0 1).bind fun S8 => (pV S8 a0 4 1 (.int 0)).bind fun S9 => (pV S9 a0 4 2 (.long 1)).bind fun S11 => some S11
abbrev rm_X4_start : Room := { frames := 1, cells := 0, slots := 0, locals := 24 }
abbrev w_X4_start : List Cond := Cond.code yX4_start cX4_start 1 none :: lwG
theorem yd_X4_start : yX4_start.cls ≠ "java/lang/invoke/MethodHandle" ∧ yX4_start.cls ≠ "java/lang/invoke/VarHandle" ∧ (parseMethodDescriptor yX4_start.desc).map (fun d => d.parameters.length) = some 0 := by decide +kernel
theorem ye_X4_start : yX4_start.cls = RX4 ∧ yX4_start.cls ≠ "java/lang/invoke/MethodHandle" ∧ yX4_start.cls ≠ "java/lang/invoke/VarHandle" ∧ (parseMethodDescriptor yX4_start.desc).map (fun d => d.parameters.length) = some 0 := by decide +kernel
set_option maxHeartbeats 4000000 in
set_option maxRecDepth 100000 in
theorem c_X4_start (l : Launch) (D : va_G) (kA ρ : Nat → Nat) (HB : Heap) (S : HSt) (a0 : Nat) (res : HSt) (h : f_X4_start S a0 = some res) : Met l yX4_start w_X4_start rm_X4_start (hPc D kA ρ HB S [.ref a0]) (hQv D kA HB S res) 0 0 (hFree HB) := by
  refine Met.ofW (cc := cX4_start) (maxL := 1) (ret := none) (by decide) rfl ?_
  intro p e s m args below meth c s₁ B hml hv
  obtain ⟨rfl, hE, h0⟩ := hv
  have hx := B.exec
  have hb := B.bytes
  have hr := B.returns
  have hts0 := atoms_spec (ws := w_X4_start) B.pre
  have hts : ∀ w ∈ lwG, w.before _ s = true := fun w hw => hts0 w (List.mem_cons_of_mem _ hw)
  have hown : s.vm.findClass RX4 = some m.cls := findClass_of_methodNamed B.named
  have hlocks := B.notSynchronized
  have hI : hqX D kA HB S.2 S s.heap [] := ⟨h0, Nat.le_refl _, fun _ q => absurd q List.not_mem_nil⟩
  have hl := lv_entry ([.ref a0]) (n := 1) (Nat.le_of_ble_eq_true rfl)
  rw [lg_entry_eq]
  generalize (lg_sl ([.ref a0]) ++ List.replicate (1 - (lg_sl ([.ref a0])).length) Slot.unset).toArray = ls at hl ⊢
  have hl : lv_has ls 1 [(0, .ref a0)] := hl
  unfold f_X4_start at h
  refine lv_aload_n hx hb dX4_start_0 rfl (lv_at hl 0 rfl) ?_
  obtain ⟨b1, g2, h⟩ := hq_bind h
  obtain ⟨fs_g2, hs_g2, hv_g2⟩ := gR_at g2
  refine hq_get hx hb hts hown hE hI hs_g2 inG4 rfl 0 (by decide) kw_59 hv_g2 dX4_start_1 ?_
  refine lv_lconst (v := 0) hx hb dX4_start_4 (by decide) ?_
  obtain ⟨S4, g3, h⟩ := hq_bind h
  refine hq_callv hI (va_runS (As := [.ref b1, .long 0]) (rest := []) ⟨hx, hb, hml, hown, hts⟩ (c_J7_fill_d0a16 l D kA ρ HB S b1 0 _ g3) (va_cwS 2 hts (gdIn (List.forall_mem_cons.mpr ⟨kw_652, (List.forall_mem_cons.mpr ⟨kw_653, (List.forall_mem_cons.mpr ⟨kw_21, (fun _ h => absurd h List.not_mem_nil)⟩)⟩)⟩) kw_654) rfl rfl rfl yd_J7_fill_d0a16 ⟨Nat.le_of_ble_eq_true rfl, Nat.le_of_ble_eq_true rfl⟩) (hq_preS hE hI _) rfl rfl hl.1 rfl (lv_room (Nat.le_of_ble_eq_true rfl)) dX4_start_5 ⟨Nat.le_of_ble_eq_true rfl, Nat.le_of_ble_eq_true rfl⟩) (fun H locs hI => ?_)
  refine lv_aload_n hx hb dX4_start_8 rfl (lv_at hl 0 rfl) ?_
  obtain ⟨b5, g6, h⟩ := hq_bind h
  obtain ⟨fs_g6, hs_g6, hv_g6⟩ := gR_at g6
  refine hq_get hx hb hts hown hE hI hs_g6 inG4 rfl 0 (by decide) kw_59 hv_g6 dX4_start_9 ?_
  refine lv_iconst (v := 0) hx hb dX4_start_12 (by decide) ?_
  refine lv_lconst (v := 1) hx hb dX4_start_13 (by decide) ?_
  obtain ⟨S8, g7, h⟩ := hq_bind h
  refine hq_last hx hb hE hI g7 dX4_start_14 (fun H locs hI => ?_)
  refine lv_aload_n hx hb dX4_start_15 rfl (lv_at hl 0 rfl) ?_
  refine lv_iconst (v := 0) hx hb dX4_start_16 (by decide) ?_
  obtain ⟨S9, g10, h⟩ := hq_bind h
  obtain ⟨fs_g10, hs_g10, hl_g10, e_g10⟩ := pV_at g10
  refine hq_put hx hb hts hown hE hI hs_g10 inG4 tyX4 tyX4_ok nmX4 rfl 1 (by decide) kw_60 rfl (v := .int 0) rfl rfl rfl hl_g10 e_g10 dX4_start_17 (fun H locs hI => ?_)
  refine lv_aload_n hx hb dX4_start_20 rfl (lv_at hl 0 rfl) ?_
  refine lv_lconst (v := 1) hx hb dX4_start_21 (by decide) ?_
  obtain ⟨S11, g12, h⟩ := hq_bind h
  obtain ⟨fs_g12, hs_g12, hl_g12, e_g12⟩ := pV_at g12
  refine hq_put hx hb hts hown hE hI hs_g12 inG4 tyX4 tyX4_ok nmX4 rfl 2 (by decide) kw_61 rfl (v := .long 1) rfl rfl rfl hl_g12 e_g12 dX4_start_22 (fun H locs hI => ?_)
  exact hq_vret hx hb hr hlocks h0 hI h dX4_start_25
-- RodDips$Odds.add(JJ)V
theorem dX4_add_0 : decode cX4_add 0 = .ok (.aload_n 0, 1) := by decide +kernel
theorem dX4_add_1 : decode cX4_add 1 = .ok (.getfield 15, 3) := by decide +kernel
theorem dX4_add_4 : decode cX4_add 4 = .ok (.ifCond .lt 12, 3) := by decide +kernel
theorem dX4_add_7 : decode cX4_add 7 = .ok (.aload_n 0, 1) := by decide +kernel
theorem dX4_add_8 : decode cX4_add 8 = .ok (.getfield 15, 3) := by decide +kernel
theorem dX4_add_11 : decode cX4_add 11 = .ok (.bipush 9, 2) := by decide +kernel
theorem dX4_add_13 : decode cX4_add 13 = .ok (.if_icmp .lt 4, 3) := by decide +kernel
theorem dX4_add_16 : decode cX4_add 16 = .ok (.return_, 1) := by decide +kernel
theorem dX4_add_17 : decode cX4_add 17 = .ok (.aload_n 0, 1) := by decide +kernel
theorem dX4_add_18 : decode cX4_add 18 = .ok (.dup, 1) := by decide +kernel
theorem dX4_add_19 : decode cX4_add 19 = .ok (.getfield 15, 3) := by decide +kernel
theorem dX4_add_22 : decode cX4_add 22 = .ok (.iconst 1, 1) := by decide +kernel
theorem dX4_add_23 : decode cX4_add 23 = .ok (.iadd, 1) := by decide +kernel
theorem dX4_add_24 : decode cX4_add 24 = .ok (.putfield 15, 3) := by decide +kernel
theorem dX4_add_27 : decode cX4_add 27 = .ok (.aload_n 0, 1) := by decide +kernel
theorem dX4_add_28 : decode cX4_add 28 = .ok (.getfield 15, 3) := by decide +kernel
theorem dX4_add_31 : decode cX4_add 31 = .ok (.istore 5, 2) := by decide +kernel
theorem dX4_add_33 : decode cX4_add 33 = .ok (.iload 5, 2) := by decide +kernel
theorem dX4_add_35 : decode cX4_add 35 = .ok (.ifCond .le 49, 3) := by decide +kernel
theorem dX4_add_38 : decode cX4_add 38 = .ok (.iload 5, 2) := by decide +kernel
theorem dX4_add_40 : decode cX4_add 40 = .ok (.aload_n 0, 1) := by decide +kernel
theorem dX4_add_41 : decode cX4_add 41 = .ok (.getfield 9, 3) := by decide +kernel
theorem dX4_add_44 : decode cX4_add 44 = .ok (.arraylength, 1) := by decide +kernel
theorem dX4_add_45 : decode cX4_add 45 = .ok (.if_icmp .ge 39, 3) := by decide +kernel
theorem dX4_add_48 : decode cX4_add 48 = .ok (.aload_n 0, 1) := by decide +kernel
theorem dX4_add_49 : decode cX4_add 49 = .ok (.getfield 9, 3) := by decide +kernel
theorem dX4_add_52 : decode cX4_add 52 = .ok (.iload 5, 2) := by decide +kernel
theorem dX4_add_54 : decode cX4_add 54 = .ok (.aload_n 0, 1) := by decide +kernel
theorem dX4_add_55 : decode cX4_add 55 = .ok (.getfield 9, 3) := by decide +kernel
theorem dX4_add_58 : decode cX4_add 58 = .ok (.iload 5, 2) := by decide +kernel
theorem dX4_add_60 : decode cX4_add 60 = .ok (.laload, 1) := by decide +kernel
theorem dX4_add_61 : decode cX4_add 61 = .ok (.lload_n 3, 1) := by decide +kernel
theorem dX4_add_62 : decode cX4_add 62 = .ok (.lload_n 1, 1) := by decide +kernel
theorem dX4_add_63 : decode cX4_add 63 = .ok (.lsub, 1) := by decide +kernel
theorem dX4_add_64 : decode cX4_add 64 = .ok (.lmul, 1) := by decide +kernel
theorem dX4_add_65 : decode cX4_add 65 = .ok (.aload_n 0, 1) := by decide +kernel
theorem dX4_add_66 : decode cX4_add 66 = .ok (.getfield 9, 3) := by decide +kernel
theorem dX4_add_69 : decode cX4_add 69 = .ok (.iload 5, 2) := by decide +kernel
theorem dX4_add_71 : decode cX4_add 71 = .ok (.iconst 1, 1) := by decide +kernel
theorem dX4_add_72 : decode cX4_add 72 = .ok (.isub, 1) := by decide +kernel
theorem dX4_add_73 : decode cX4_add 73 = .ok (.laload, 1) := by decide +kernel
theorem dX4_add_74 : decode cX4_add 74 = .ok (.lload_n 1, 1) := by decide +kernel
theorem dX4_add_75 : decode cX4_add 75 = .ok (.lmul, 1) := by decide +kernel
theorem dX4_add_76 : decode cX4_add 76 = .ok (.ladd, 1) := by decide +kernel
theorem dX4_add_77 : decode cX4_add 77 = .ok (.lastore, 1) := by decide +kernel
theorem dX4_add_78 : decode cX4_add 78 = .ok (.iinc 5 (-1), 3) := by decide +kernel
theorem dX4_add_81 : decode cX4_add 81 = .ok (.goto (-48), 3) := by decide +kernel
theorem dX4_add_84 : decode cX4_add 84 = .ok (.aload_n 0, 1) := by decide +kernel
theorem dX4_add_85 : decode cX4_add 85 = .ok (.getfield 9, 3) := by decide +kernel
theorem dX4_add_88 : decode cX4_add 88 = .ok (.iconst 0, 1) := by decide +kernel
theorem dX4_add_89 : decode cX4_add 89 = .ok (.dup2, 1) := by decide +kernel
theorem dX4_add_90 : decode cX4_add 90 = .ok (.laload, 1) := by decide +kernel
theorem dX4_add_91 : decode cX4_add 91 = .ok (.lload_n 3, 1) := by decide +kernel
theorem dX4_add_92 : decode cX4_add 92 = .ok (.lload_n 1, 1) := by decide +kernel
theorem dX4_add_93 : decode cX4_add 93 = .ok (.lsub, 1) := by decide +kernel
theorem dX4_add_94 : decode cX4_add 94 = .ok (.lmul, 1) := by decide +kernel
theorem dX4_add_95 : decode cX4_add 95 = .ok (.lastore, 1) := by decide +kernel
theorem dX4_add_96 : decode cX4_add 96 = .ok (.aload_n 0, 1) := by decide +kernel
theorem dX4_add_97 : decode cX4_add 97 = .ok (.dup, 1) := by decide +kernel
theorem dX4_add_98 : decode cX4_add 98 = .ok (.getfield 19, 3) := by decide +kernel
theorem dX4_add_101 : decode cX4_add 101 = .ok (.lload_n 3, 1) := by decide +kernel
theorem dX4_add_102 : decode cX4_add 102 = .ok (.lmul, 1) := by decide +kernel
theorem dX4_add_103 : decode cX4_add 103 = .ok (.putfield 19, 3) := by decide +kernel
theorem dX4_add_106 : decode cX4_add 106 = .ok (.return_, 1) := by decide +kernel
def f_X4_add_K84 (a0 : Nat) (a1 : Int64) (a2 : Int64) (S13 : HSt) : Option (HSt) := (gR S13 a0 4 0).bind fun b14 => (aL S13 b14 0).bind fun v17 => (sL S13 b14 0 (v17 * (a2 - a1))).bind fun S19 => (gL S19 a0 4 2).bind fun v20 => (pV S19 a0 4 2 (.long (v20 * a2))).bind fun S22 => some S22
def f_X4_add_B33 (a0 : Nat) (a1 : Int64) (a2 : Int64) (kx84 : (HSt → Option (HSt))) (kb33 : (Int32 → HSt → Option (HSt))) (x24 : Int32) (S25 : HSt) : Option (HSt) := if x24 ≤ 0 then (kx84 S25) else ((gR S25 a0 4 0).bind fun b27 => (aN S25 b27).bind fun v29 => if v29 ≤ x24 then (kx84 S25) else ((gR S25 a0 4 0).bind fun b32 => (gR S25 a0 4 0).bind fun b34 => (aL S25 b34 x24).bind fun v37 => (gR S25 a0 4 0).bind fun b38 => (aL S25 b38 (x24 - 1)).bind fun v41 => (sL S25 b32 x24 ((v37 * (a2 - a1)) + (v41 * a1))).bind fun S43 => kb33 (x24 + (-1)) S43))
def f_X4_add_L33 (a0 : Nat) (a1 : Int64) (a2 : Int64) (kx84 : (HSt → Option (HSt))) : Nat → Int32 → HSt → Option (HSt)
  | 0, _, _ => none
  | n + 1, x24, S => f_X4_add_B33 a0 a1 a2 kx84 (f_X4_add_L33 a0 a1 a2 kx84 n) x24 S
def f_X4_add (S : HSt) (a0 : Nat) (a1 : Int64) (a2 : Int64) : Option (HSt) := (gI S a0 4 1).bind fun v1 => if v1 < 0 then (some S) else ((gI S a0 4 1).bind fun v4 => if v4 < 9 then ((gI S a0 4 1).bind fun v7 => (pV S a0 4 1 (.int (v7 + 1))).bind fun S9 => (gI S9 a0 4 1).bind fun v11 => (f_X4_add_L33 a0 a1 a2 (f_X4_add_K84 a0 a1 a2) FU) v11 S9) else (some S))
abbrev rm_X4_add : Room := { frames := 0, cells := 0, slots := 0, locals := 0 }
abbrev w_X4_add : List Cond := Cond.code yX4_add cX4_add 6 none :: lwG
theorem yd_X4_add : yX4_add.cls ≠ "java/lang/invoke/MethodHandle" ∧ yX4_add.cls ≠ "java/lang/invoke/VarHandle" ∧ (parseMethodDescriptor yX4_add.desc).map (fun d => d.parameters.length) = some 2 := by decide +kernel
theorem ye_X4_add : yX4_add.cls = RX4 ∧ yX4_add.cls ≠ "java/lang/invoke/MethodHandle" ∧ yX4_add.cls ≠ "java/lang/invoke/VarHandle" ∧ (parseMethodDescriptor yX4_add.desc).map (fun d => d.parameters.length) = some 2 := by decide +kernel
set_option maxHeartbeats 4000000 in
set_option maxRecDepth 100000 in
theorem c_X4_add (l : Launch) (D : va_G) (kA ρ : Nat → Nat) (HB : Heap) (S : HSt) (a0 : Nat) (a1 : Int64) (a2 : Int64) (res : HSt) (h : f_X4_add S a0 a1 a2 = some res) : Met l yX4_add w_X4_add rm_X4_add (hPc D kA ρ HB S [.ref a0, .long a1, .long a2]) (hQv D kA HB S res) 0 0 (hFree HB) := by
  refine Met.ofW (cc := cX4_add) (maxL := 6) (ret := none) (by decide) rfl ?_
  intro p e s m args below meth c s₁ B hml hv
  obtain ⟨rfl, hE, h0⟩ := hv
  have hx := B.exec
  have hb := B.bytes
  have hr := B.returns
  have hts0 := atoms_spec (ws := w_X4_add) B.pre
  have hts : ∀ w ∈ lwG, w.before _ s = true := fun w hw => hts0 w (List.mem_cons_of_mem _ hw)
  have hown : s.vm.findClass RX4 = some m.cls := findClass_of_methodNamed B.named
  have hlocks := B.notSynchronized
  have hI : hqX D kA HB S.2 S s.heap [] := ⟨h0, Nat.le_refl _, fun _ q => absurd q List.not_mem_nil⟩
  have hl := lv_entry ([.ref a0, .long a1, .long a2]) (n := 6) (Nat.le_of_ble_eq_true rfl)
  rw [lg_entry_eq]
  generalize (lg_sl ([.ref a0, .long a1, .long a2]) ++ List.replicate (6 - (lg_sl ([.ref a0, .long a1, .long a2])).length) Slot.unset).toArray = ls at hl ⊢
  have hl : lv_has ls 6 [(0, .ref a0), (1, .long a1), (3, .long a2)] := hl
  unfold f_X4_add at h
  refine lv_aload_n hx hb dX4_add_0 rfl (lv_at hl 0 rfl) ?_
  obtain ⟨v1, g2, h⟩ := hq_bind h
  obtain ⟨fs_g2, hs_g2, hv_g2⟩ := gI_at g2
  refine hq_get hx hb hts hown hE hI hs_g2 inG4 rfl 1 (by decide) kw_60 hv_g2 dX4_add_1 ?_
  refine lv_if_lt (tgt := 16) hx hb dX4_add_4 (by decide) (fun c3 => ?_) (fun c3 => ?_)
  · have h := hq_t h c3
    exact hq_vret hx hb hr hlocks h0 hI h dX4_add_16
  · have h := hq_f h c3
    refine lv_aload_n hx hb dX4_add_7 rfl (lv_at hl 0 rfl) ?_
    obtain ⟨v4, g5, h⟩ := hq_bind h
    obtain ⟨fs_g5, hs_g5, hv_g5⟩ := gI_at g5
    refine hq_get hx hb hts hown hE hI hs_g5 inG4 rfl 1 (by decide) kw_60 hv_g5 dX4_add_8 ?_
    refine lv_bipush (v := 9) hx hb dX4_add_11 (by decide) ?_
    refine lv_icmp_lt (tgt := 17) hx hb dX4_add_13 (by decide) (fun c6 => ?_) (fun c6 => ?_)
    · have h := hq_t h c6
      refine lv_aload_n hx hb dX4_add_17 rfl (lv_at hl 0 rfl) ?_
      refine lv_dup hx hb dX4_add_18 rfl ?_
      obtain ⟨v7, g8, h⟩ := hq_bind h
      obtain ⟨fs_g8, hs_g8, hv_g8⟩ := gI_at g8
      refine hq_get hx hb hts hown hE hI hs_g8 inG4 rfl 1 (by decide) kw_60 hv_g8 dX4_add_19 ?_
      refine lv_iconst (v := 1) hx hb dX4_add_22 (by decide) ?_
      refine lv_iadd hx hb dX4_add_23 ?_
      obtain ⟨S9, g10, h⟩ := hq_bind h
      obtain ⟨fs_g10, hs_g10, hl_g10, e_g10⟩ := pV_at g10
      refine hq_put hx hb hts hown hE hI hs_g10 inG4 tyX4 tyX4_ok nmX4 rfl 1 (by decide) kw_60 rfl (v := .int (v7 + 1)) rfl rfl rfl hl_g10 e_g10 dX4_add_24 (fun H locs hI => ?_)
      refine lv_aload_n hx hb dX4_add_27 rfl (lv_at hl 0 rfl) ?_
      obtain ⟨v11, g12, h⟩ := hq_bind h
      obtain ⟨fs_g12, hs_g12, hv_g12⟩ := gI_at g12
      refine hq_get hx hb hts hown hE hI hs_g12 inG4 rfl 1 (by decide) kw_60 hv_g12 dX4_add_28 ?_
      refine lv_istore (lv' := [(5, .int v11), (0, .ref a0), (1, .long a1), (3, .long a2)]) hx hb dX4_add_31 hl (by decide) rfl (fun ls hl => ?_)
      have hK84 : ∀ (S13 : HSt) (H : Heap) (locs : List Loc) (ls : Array Slot), (f_X4_add_K84 a0 a1 a2) S13 = some res → hqX D kA HB S.2 S13 H locs → lv_has ls 6 [(0, .ref a0), (1, .long a1), (3, .long a2)] → W p l e rm_X4_add s m ([.ref a0, .long a1, .long a2] : List Value).toArray below meth c H locs 0 0 (MQ below (hQv D kA HB S res) ([.ref a0, .long a1, .long a2] : List Value).toArray s 0 0 (hFree HB)) (F0 m 84 ls []) := by
        intro S13 H locs ls h hI hl
        unfold f_X4_add_K84 at h
        refine lv_aload_n hx hb dX4_add_84 rfl (lv_at hl 0 rfl) ?_
        obtain ⟨b14, g15, h⟩ := hq_bind h
        obtain ⟨fs_g15, hs_g15, hv_g15⟩ := gR_at g15
        refine hq_get hx hb hts hown hE hI hs_g15 inG4 rfl 0 (by decide) kw_59 hv_g15 dX4_add_85 ?_
        refine lv_iconst (v := 0) hx hb dX4_add_88 (by decide) ?_
        refine lv_dup2_11 hx hb dX4_add_89 rfl rfl ?_
        obtain ⟨v17, g16, h⟩ := hq_bind h
        refine hq_lald hx hb hE hI g16 dX4_add_90 ?_
        refine lv_lload_n hx hb dX4_add_91 rfl (lv_at hl 2 rfl) ?_
        refine lv_lload_n hx hb dX4_add_92 rfl (lv_at hl 1 rfl) ?_
        refine lv_lsub hx hb dX4_add_93 ?_
        refine lv_lmul hx hb dX4_add_94 ?_
        obtain ⟨S19, g18, h⟩ := hq_bind h
        refine hq_last hx hb hE hI g18 dX4_add_95 (fun H locs hI => ?_)
        refine lv_aload_n hx hb dX4_add_96 rfl (lv_at hl 0 rfl) ?_
        refine lv_dup hx hb dX4_add_97 rfl ?_
        obtain ⟨v20, g21, h⟩ := hq_bind h
        obtain ⟨fs_g21, hs_g21, hv_g21⟩ := gL_at g21
        refine hq_get hx hb hts hown hE hI hs_g21 inG4 rfl 2 (by decide) kw_61 hv_g21 dX4_add_98 ?_
        refine lv_lload_n hx hb dX4_add_101 rfl (lv_at hl 2 rfl) ?_
        refine lv_lmul hx hb dX4_add_102 ?_
        obtain ⟨S22, g23, h⟩ := hq_bind h
        obtain ⟨fs_g23, hs_g23, hl_g23, e_g23⟩ := pV_at g23
        refine hq_put hx hb hts hown hE hI hs_g23 inG4 tyX4 tyX4_ok nmX4 rfl 2 (by decide) kw_61 rfl (v := .long (v20 * a2)) rfl rfl rfl hl_g23 e_g23 dX4_add_103 (fun H locs hI => ?_)
        exact hq_vret hx hb hr hlocks h0 hI h dX4_add_106
      have hL33 : ∀ (n33 : Nat) (x24 : Int32) (S25 : HSt) (H : Heap) (locs : List Loc) (ls : Array Slot), (f_X4_add_L33 a0 a1 a2 (f_X4_add_K84 a0 a1 a2) n33) x24 S25 = some res → hqX D kA HB S.2 S25 H locs → lv_has ls 6 [(0, .ref a0), (1, .long a1), (3, .long a2), (5, .int x24)] → W p l e rm_X4_add s m ([.ref a0, .long a1, .long a2] : List Value).toArray below meth c H locs 0 0 (MQ below (hQv D kA HB S res) ([.ref a0, .long a1, .long a2] : List Value).toArray s 0 0 (hFree HB)) (F0 m 33 ls []) := by
        intro n33
        induction n33 with
        | zero =>
          intro x24 S25 H locs ls h
          have h : (none : Option (HSt)) = some res := h
          cases h
        | succ n33 ih33 =>
          intro x24 S25 H locs ls h hI hl
          have h : f_X4_add_B33 a0 a1 a2 (f_X4_add_K84 a0 a1 a2) (f_X4_add_L33 a0 a1 a2 (f_X4_add_K84 a0 a1 a2) n33) x24 S25 = some res := h
          unfold f_X4_add_B33 at h
          refine lv_iload hx hb dX4_add_33 (lv_at hl 3 rfl) ?_
          refine lv_if_le (tgt := 84) hx hb dX4_add_35 (by decide) (fun c26 => ?_) (fun c26 => ?_)
          · have h := hq_t h c26
            exact hK84 S25 _ _ _ h hI (lv_sub hl [0, 1, 2] rfl)
          · have h := hq_f h c26
            refine lv_iload hx hb dX4_add_38 (lv_at hl 3 rfl) ?_
            refine lv_aload_n hx hb dX4_add_40 rfl (lv_at hl 0 rfl) ?_
            obtain ⟨b27, g28, h⟩ := hq_bind h
            obtain ⟨fs_g28, hs_g28, hv_g28⟩ := gR_at g28
            refine hq_get hx hb hts hown hE hI hs_g28 inG4 rfl 0 (by decide) kw_59 hv_g28 dX4_add_41 ?_
            obtain ⟨v29, g30, h⟩ := hq_bind h
            refine hq_alen hx hb hE hI g30 dX4_add_44 ?_
            refine lv_icmp_ge (tgt := 84) hx hb dX4_add_45 (by decide) (fun c31 => ?_) (fun c31 => ?_)
            · have h := hq_t h c31
              exact hK84 S25 _ _ _ h hI (lv_sub hl [0, 1, 2] rfl)
            · have h := hq_f h c31
              refine lv_aload_n hx hb dX4_add_48 rfl (lv_at hl 0 rfl) ?_
              obtain ⟨b32, g33, h⟩ := hq_bind h
              obtain ⟨fs_g33, hs_g33, hv_g33⟩ := gR_at g33
              refine hq_get hx hb hts hown hE hI hs_g33 inG4 rfl 0 (by decide) kw_59 hv_g33 dX4_add_49 ?_
              refine lv_iload hx hb dX4_add_52 (lv_at hl 3 rfl) ?_
              refine lv_aload_n hx hb dX4_add_54 rfl (lv_at hl 0 rfl) ?_
              obtain ⟨b34, g35, h⟩ := hq_bind h
              obtain ⟨fs_g35, hs_g35, hv_g35⟩ := gR_at g35
              refine hq_get hx hb hts hown hE hI hs_g35 inG4 rfl 0 (by decide) kw_59 hv_g35 dX4_add_55 ?_
              refine lv_iload hx hb dX4_add_58 (lv_at hl 3 rfl) ?_
              obtain ⟨v37, g36, h⟩ := hq_bind h
              refine hq_lald hx hb hE hI g36 dX4_add_60 ?_
              refine lv_lload_n hx hb dX4_add_61 rfl (lv_at hl 2 rfl) ?_
              refine lv_lload_n hx hb dX4_add_62 rfl (lv_at hl 1 rfl) ?_
              refine lv_lsub hx hb dX4_add_63 ?_
              refine lv_lmul hx hb dX4_add_64 ?_
              refine lv_aload_n hx hb dX4_add_65 rfl (lv_at hl 0 rfl) ?_
              obtain ⟨b38, g39, h⟩ := hq_bind h
              obtain ⟨fs_g39, hs_g39, hv_g39⟩ := gR_at g39
              refine hq_get hx hb hts hown hE hI hs_g39 inG4 rfl 0 (by decide) kw_59 hv_g39 dX4_add_66 ?_
              refine lv_iload hx hb dX4_add_69 (lv_at hl 3 rfl) ?_
              refine lv_iconst (v := 1) hx hb dX4_add_71 (by decide) ?_
              refine lv_isub hx hb dX4_add_72 ?_
              obtain ⟨v41, g40, h⟩ := hq_bind h
              refine hq_lald hx hb hE hI g40 dX4_add_73 ?_
              refine lv_lload_n hx hb dX4_add_74 rfl (lv_at hl 1 rfl) ?_
              refine lv_lmul hx hb dX4_add_75 ?_
              refine lv_ladd hx hb dX4_add_76 ?_
              obtain ⟨S43, g42, h⟩ := hq_bind h
              refine hq_last hx hb hE hI g42 dX4_add_77 (fun H locs hI => ?_)
              refine lv_iinc (v := (x24 + (-1))) (lv' := [(5, .int (x24 + (-1))), (0, .ref a0), (1, .long a1), (3, .long a2)]) hx hb dX4_add_78 hl (k := 3) rfl rfl (by decide) rfl (fun ls hl => ?_)
              refine lv_goto (tgt := 33) hx hb dX4_add_81 (by decide) ?_
              exact ih33 (x24 + (-1)) S43 _ _ _ h hI (lv_sub hl [1, 2, 3, 0] rfl)
      exact hL33 FU v11 S9 _ _ _ h hI (lv_sub hl [1, 2, 3, 0] rfl)
    · have h := hq_f h c6
      exact hq_vret hx hb hr hlocks h0 hI h dX4_add_16
-- RodDips$Odds.exactly(I)J
theorem dX4_exactly_0 : decode cX4_exactly 0 = .ok (.iload_n 1, 1) := by decide +kernel
theorem dX4_exactly_1 : decode cX4_exactly 1 = .ok (.ifCond .lt 29, 3) := by decide +kernel
theorem dX4_exactly_4 : decode cX4_exactly 4 = .ok (.iload_n 1, 1) := by decide +kernel
theorem dX4_exactly_5 : decode cX4_exactly 5 = .ok (.aload_n 0, 1) := by decide +kernel
theorem dX4_exactly_6 : decode cX4_exactly 6 = .ok (.getfield 15, 3) := by decide +kernel
theorem dX4_exactly_9 : decode cX4_exactly 9 = .ok (.if_icmp .gt 21, 3) := by decide +kernel
theorem dX4_exactly_12 : decode cX4_exactly 12 = .ok (.iload_n 1, 1) := by decide +kernel
theorem dX4_exactly_13 : decode cX4_exactly 13 = .ok (.aload_n 0, 1) := by decide +kernel
theorem dX4_exactly_14 : decode cX4_exactly 14 = .ok (.getfield 9, 3) := by decide +kernel
theorem dX4_exactly_17 : decode cX4_exactly 17 = .ok (.arraylength, 1) := by decide +kernel
theorem dX4_exactly_18 : decode cX4_exactly 18 = .ok (.if_icmp .ge 12, 3) := by decide +kernel
theorem dX4_exactly_21 : decode cX4_exactly 21 = .ok (.aload_n 0, 1) := by decide +kernel
theorem dX4_exactly_22 : decode cX4_exactly 22 = .ok (.getfield 9, 3) := by decide +kernel
theorem dX4_exactly_25 : decode cX4_exactly 25 = .ok (.iload_n 1, 1) := by decide +kernel
theorem dX4_exactly_26 : decode cX4_exactly 26 = .ok (.laload, 1) := by decide +kernel
theorem dX4_exactly_27 : decode cX4_exactly 27 = .ok (.goto 4, 3) := by decide +kernel
theorem dX4_exactly_30 : decode cX4_exactly 30 = .ok (.lconst 0, 1) := by decide +kernel
theorem dX4_exactly_31 : decode cX4_exactly 31 = .ok (.lreturn, 1) := by decide +kernel
def f_X4_exactly (S : HSt) (a0 : Nat) (a1 : Int32) : Option (Int64 × HSt) := if a1 < 0 then (some (0, S)) else ((gI S a0 4 1).bind fun v2 => if v2 < a1 then (some (0, S)) else ((gR S a0 4 0).bind fun b5 => (aN S b5).bind fun v7 => if v7 ≤ a1 then (some (0, S)) else ((gR S a0 4 0).bind fun b10 => (aL S b10 a1).bind fun v13 => some (v13, S))))
abbrev rm_X4_exactly : Room := { frames := 0, cells := 0, slots := 0, locals := 0 }
abbrev w_X4_exactly : List Cond := Cond.code yX4_exactly cX4_exactly 2 (Option.some FieldType.long) :: lwG
theorem yd_X4_exactly : yX4_exactly.cls ≠ "java/lang/invoke/MethodHandle" ∧ yX4_exactly.cls ≠ "java/lang/invoke/VarHandle" ∧ (parseMethodDescriptor yX4_exactly.desc).map (fun d => d.parameters.length) = some 1 := by decide +kernel
theorem ye_X4_exactly : yX4_exactly.cls = RX4 ∧ yX4_exactly.cls ≠ "java/lang/invoke/MethodHandle" ∧ yX4_exactly.cls ≠ "java/lang/invoke/VarHandle" ∧ (parseMethodDescriptor yX4_exactly.desc).map (fun d => d.parameters.length) = some 1 := by decide +kernel
set_option maxHeartbeats 4000000 in
set_option maxRecDepth 100000 in
theorem c_X4_exactly (l : Launch) (D : va_G) (kA ρ : Nat → Nat) (HB : Heap) (S : HSt) (a0 : Nat) (a1 : Int32) (res : Int64 × HSt) (h : f_X4_exactly S a0 a1 = some res) : Met l yX4_exactly w_X4_exactly rm_X4_exactly (hPc D kA ρ HB S [.ref a0, .int a1]) (hQl D kA HB S res) 0 0 (hFree HB) := by
  refine Met.ofW (cc := cX4_exactly) (maxL := 2) (ret := (Option.some FieldType.long)) (by decide) rfl ?_
  intro p e s m args below meth c s₁ B hml hv
  obtain ⟨rfl, hE, h0⟩ := hv
  have hx := B.exec
  have hb := B.bytes
  have hr := B.returns
  have hts0 := atoms_spec (ws := w_X4_exactly) B.pre
  have hts : ∀ w ∈ lwG, w.before _ s = true := fun w hw => hts0 w (List.mem_cons_of_mem _ hw)
  have hown : s.vm.findClass RX4 = some m.cls := findClass_of_methodNamed B.named
  have hlocks := B.notSynchronized
  have hI : hqX D kA HB S.2 S s.heap [] := ⟨h0, Nat.le_refl _, fun _ q => absurd q List.not_mem_nil⟩
  have hl := lv_entry ([.ref a0, .int a1]) (n := 2) (Nat.le_of_ble_eq_true rfl)
  rw [lg_entry_eq]
  generalize (lg_sl ([.ref a0, .int a1]) ++ List.replicate (2 - (lg_sl ([.ref a0, .int a1])).length) Slot.unset).toArray = ls at hl ⊢
  have hl : lv_has ls 2 [(0, .ref a0), (1, .int a1)] := hl
  unfold f_X4_exactly at h
  refine lv_iload_n hx hb dX4_exactly_0 rfl (lv_at hl 1 rfl) ?_
  refine lv_if_lt (tgt := 30) hx hb dX4_exactly_1 (by decide) (fun c1 => ?_) (fun c1 => ?_)
  · have h := hq_t h c1
    refine lv_lconst (v := 0) hx hb dX4_exactly_30 (by decide) ?_
    exact hq_lret hx hb hr hlocks h0 hI h dX4_exactly_31
  · have h := hq_f h c1
    refine lv_iload_n hx hb dX4_exactly_4 rfl (lv_at hl 1 rfl) ?_
    refine lv_aload_n hx hb dX4_exactly_5 rfl (lv_at hl 0 rfl) ?_
    obtain ⟨v2, g3, h⟩ := hq_bind h
    obtain ⟨fs_g3, hs_g3, hv_g3⟩ := gI_at g3
    refine hq_get hx hb hts hown hE hI hs_g3 inG4 rfl 1 (by decide) kw_60 hv_g3 dX4_exactly_6 ?_
    refine lv_icmp_gt (tgt := 30) hx hb dX4_exactly_9 (by decide) (fun c4 => ?_) (fun c4 => ?_)
    · have h := hq_t h c4
      refine lv_lconst (v := 0) hx hb dX4_exactly_30 (by decide) ?_
      exact hq_lret hx hb hr hlocks h0 hI h dX4_exactly_31
    · have h := hq_f h c4
      refine lv_iload_n hx hb dX4_exactly_12 rfl (lv_at hl 1 rfl) ?_
      refine lv_aload_n hx hb dX4_exactly_13 rfl (lv_at hl 0 rfl) ?_
      obtain ⟨b5, g6, h⟩ := hq_bind h
      obtain ⟨fs_g6, hs_g6, hv_g6⟩ := gR_at g6
      refine hq_get hx hb hts hown hE hI hs_g6 inG4 rfl 0 (by decide) kw_59 hv_g6 dX4_exactly_14 ?_
      obtain ⟨v7, g8, h⟩ := hq_bind h
      refine hq_alen hx hb hE hI g8 dX4_exactly_17 ?_
      refine lv_icmp_ge (tgt := 30) hx hb dX4_exactly_18 (by decide) (fun c9 => ?_) (fun c9 => ?_)
      · have h := hq_t h c9
        refine lv_lconst (v := 0) hx hb dX4_exactly_30 (by decide) ?_
        exact hq_lret hx hb hr hlocks h0 hI h dX4_exactly_31
      · have h := hq_f h c9
        refine lv_aload_n hx hb dX4_exactly_21 rfl (lv_at hl 0 rfl) ?_
        obtain ⟨b10, g11, h⟩ := hq_bind h
        obtain ⟨fs_g11, hs_g11, hv_g11⟩ := gR_at g11
        refine hq_get hx hb hts hown hE hI hs_g11 inG4 rfl 0 (by decide) kw_59 hv_g11 dX4_exactly_22 ?_
        refine lv_iload_n hx hb dX4_exactly_25 rfl (lv_at hl 1 rfl) ?_
        obtain ⟨v13, g12, h⟩ := hq_bind h
        refine hq_lald hx hb hE hI g12 dX4_exactly_26 ?_
        refine lv_goto (tgt := 31) hx hb dX4_exactly_27 (by decide) ?_
        exact hq_lret hx hb hr hlocks h0 hI h dX4_exactly_31
-- RodDips$Odds.fewer(I)J
theorem dX4_fewer_0 : decode cX4_fewer 0 = .ok (.lconst 0, 1) := by decide +kernel
theorem dX4_fewer_1 : decode cX4_fewer 1 = .ok (.lstore_n 2, 1) := by decide +kernel
theorem dX4_fewer_2 : decode cX4_fewer 2 = .ok (.iconst 0, 1) := by decide +kernel
theorem dX4_fewer_3 : decode cX4_fewer 3 = .ok (.istore 4, 2) := by decide +kernel
theorem dX4_fewer_5 : decode cX4_fewer 5 = .ok (.iload 4, 2) := by decide +kernel
theorem dX4_fewer_7 : decode cX4_fewer 7 = .ok (.iload_n 1, 1) := by decide +kernel
theorem dX4_fewer_8 : decode cX4_fewer 8 = .ok (.if_icmp .ge 27, 3) := by decide +kernel
theorem dX4_fewer_11 : decode cX4_fewer 11 = .ok (.iload 4, 2) := by decide +kernel
theorem dX4_fewer_13 : decode cX4_fewer 13 = .ok (.aload_n 0, 1) := by decide +kernel
theorem dX4_fewer_14 : decode cX4_fewer 14 = .ok (.getfield 15, 3) := by decide +kernel
theorem dX4_fewer_17 : decode cX4_fewer 17 = .ok (.if_icmp .gt 18, 3) := by decide +kernel
theorem dX4_fewer_20 : decode cX4_fewer 20 = .ok (.lload_n 2, 1) := by decide +kernel
theorem dX4_fewer_21 : decode cX4_fewer 21 = .ok (.aload_n 0, 1) := by decide +kernel
theorem dX4_fewer_22 : decode cX4_fewer 22 = .ok (.iload 4, 2) := by decide +kernel
theorem dX4_fewer_24 : decode cX4_fewer 24 = .ok (.invokevirtual 29, 3) := by decide +kernel
theorem dX4_fewer_27 : decode cX4_fewer 27 = .ok (.ladd, 1) := by decide +kernel
theorem dX4_fewer_28 : decode cX4_fewer 28 = .ok (.lstore_n 2, 1) := by decide +kernel
theorem dX4_fewer_29 : decode cX4_fewer 29 = .ok (.iinc 4 1, 3) := by decide +kernel
theorem dX4_fewer_32 : decode cX4_fewer 32 = .ok (.goto (-27), 3) := by decide +kernel
theorem dX4_fewer_35 : decode cX4_fewer 35 = .ok (.lload_n 2, 1) := by decide +kernel
theorem dX4_fewer_36 : decode cX4_fewer 36 = .ok (.lreturn, 1) := by decide +kernel
def f_X4_fewer_K35 (x1 : Int64) (S2 : HSt) : Option (Int64 × HSt) := some (x1, S2)
def f_X4_fewer_B5 (a0 : Nat) (a1 : Int32) (kx35 : (Int64 → HSt → Option (Int64 × HSt))) (kb5 : (Int64 → Int32 → HSt → Option (Int64 × HSt))) (x3 : Int64) (x4 : Int32) (S5 : HSt) : Option (Int64 × HSt) := if a1 ≤ x4 then (kx35 x3 S5) else ((gI S5 a0 4 1).bind fun v7 => if v7 < x4 then (kx35 x3 S5) else (if gC S5 a0 = some 4 then (bd2 (f_X4_exactly S5 a0 x4) fun v13 S12 => kb5 (x3 + v13) (x4 + 1) S12) else none))
def f_X4_fewer_L5 (a0 : Nat) (a1 : Int32) (kx35 : (Int64 → HSt → Option (Int64 × HSt))) : Nat → Int64 → Int32 → HSt → Option (Int64 × HSt)
  | 0, _, _, _ => none
  | n + 1, x3, x4, S => f_X4_fewer_B5 a0 a1 kx35 (f_X4_fewer_L5 a0 a1 kx35 n) x3 x4 S
def f_X4_fewer (S : HSt) (a0 : Nat) (a1 : Int32) : Option (Int64 × HSt) := (f_X4_fewer_L5 a0 a1 f_X4_fewer_K35 FU) 0 0 S
abbrev rm_X4_fewer : Room := { frames := 1, cells := 0, slots := 0, locals := 21 }
abbrev w_X4_fewer : List Cond := Cond.code yX4_fewer cX4_fewer 5 (Option.some FieldType.long) :: lwG
theorem yd_X4_fewer : yX4_fewer.cls ≠ "java/lang/invoke/MethodHandle" ∧ yX4_fewer.cls ≠ "java/lang/invoke/VarHandle" ∧ (parseMethodDescriptor yX4_fewer.desc).map (fun d => d.parameters.length) = some 1 := by decide +kernel
theorem ye_X4_fewer : yX4_fewer.cls = RX4 ∧ yX4_fewer.cls ≠ "java/lang/invoke/MethodHandle" ∧ yX4_fewer.cls ≠ "java/lang/invoke/VarHandle" ∧ (parseMethodDescriptor yX4_fewer.desc).map (fun d => d.parameters.length) = some 1 := by decide +kernel
set_option maxHeartbeats 4000000 in
set_option maxRecDepth 100000 in
theorem c_X4_fewer (l : Launch) (D : va_G) (kA ρ : Nat → Nat) (HB : Heap) (S : HSt) (a0 : Nat) (a1 : Int32) (res : Int64 × HSt) (h : f_X4_fewer S a0 a1 = some res) : Met l yX4_fewer w_X4_fewer rm_X4_fewer (hPc D kA ρ HB S [.ref a0, .int a1]) (hQl D kA HB S res) 0 0 (hFree HB) := by
  refine Met.ofW (cc := cX4_fewer) (maxL := 5) (ret := (Option.some FieldType.long)) (by decide) rfl ?_
  intro p e s m args below meth c s₁ B hml hv
  obtain ⟨rfl, hE, h0⟩ := hv
  have hx := B.exec
  have hb := B.bytes
  have hr := B.returns
  have hts0 := atoms_spec (ws := w_X4_fewer) B.pre
  have hts : ∀ w ∈ lwG, w.before _ s = true := fun w hw => hts0 w (List.mem_cons_of_mem _ hw)
  have hown : s.vm.findClass RX4 = some m.cls := findClass_of_methodNamed B.named
  have hlocks := B.notSynchronized
  have hI : hqX D kA HB S.2 S s.heap [] := ⟨h0, Nat.le_refl _, fun _ q => absurd q List.not_mem_nil⟩
  have hl := lv_entry ([.ref a0, .int a1]) (n := 5) (Nat.le_of_ble_eq_true rfl)
  rw [lg_entry_eq]
  generalize (lg_sl ([.ref a0, .int a1]) ++ List.replicate (5 - (lg_sl ([.ref a0, .int a1])).length) Slot.unset).toArray = ls at hl ⊢
  have hl : lv_has ls 5 [(0, .ref a0), (1, .int a1)] := hl
  unfold f_X4_fewer at h
  refine lv_lconst (v := 0) hx hb dX4_fewer_0 (by decide) ?_
  refine lv_lstore_n (lv' := [(2, .long 0), (0, .ref a0), (1, .int a1)]) hx hb dX4_fewer_1 rfl hl (by decide) rfl (fun ls hl => ?_)
  refine lv_iconst (v := 0) hx hb dX4_fewer_2 (by decide) ?_
  refine lv_istore (lv' := [(4, .int 0), (2, .long 0), (0, .ref a0), (1, .int a1)]) hx hb dX4_fewer_3 hl (by decide) rfl (fun ls hl => ?_)
  have hK35 : ∀ (x1 : Int64) (S2 : HSt) (H : Heap) (locs : List Loc) (ls : Array Slot), f_X4_fewer_K35 x1 S2 = some res → hqX D kA HB S.2 S2 H locs → lv_has ls 5 [(2, .long x1)] → W p l e rm_X4_fewer s m ([.ref a0, .int a1] : List Value).toArray below meth c H locs 0 0 (MQ below (hQl D kA HB S res) ([.ref a0, .int a1] : List Value).toArray s 0 0 (hFree HB)) (F0 m 35 ls []) := by
    intro x1 S2 H locs ls h hI hl
    unfold f_X4_fewer_K35 at h
    refine lv_lload_n hx hb dX4_fewer_35 rfl (lv_at hl 0 rfl) ?_
    exact hq_lret hx hb hr hlocks h0 hI h dX4_fewer_36
  have hL5 : ∀ (n5 : Nat) (x3 : Int64) (x4 : Int32) (S5 : HSt) (H : Heap) (locs : List Loc) (ls : Array Slot), (f_X4_fewer_L5 a0 a1 f_X4_fewer_K35 n5) x3 x4 S5 = some res → hqX D kA HB S.2 S5 H locs → lv_has ls 5 [(0, .ref a0), (1, .int a1), (2, .long x3), (4, .int x4)] → W p l e rm_X4_fewer s m ([.ref a0, .int a1] : List Value).toArray below meth c H locs 0 0 (MQ below (hQl D kA HB S res) ([.ref a0, .int a1] : List Value).toArray s 0 0 (hFree HB)) (F0 m 5 ls []) := by
    intro n5
    induction n5 with
    | zero =>
      intro x3 x4 S5 H locs ls h
      have h : (none : Option (Int64 × HSt)) = some res := h
      cases h
    | succ n5 ih5 =>
      intro x3 x4 S5 H locs ls h hI hl
      have h : f_X4_fewer_B5 a0 a1 f_X4_fewer_K35 (f_X4_fewer_L5 a0 a1 f_X4_fewer_K35 n5) x3 x4 S5 = some res := h
      unfold f_X4_fewer_B5 at h
      refine lv_iload hx hb dX4_fewer_5 (lv_at hl 3 rfl) ?_
      refine lv_iload_n hx hb dX4_fewer_7 rfl (lv_at hl 1 rfl) ?_
      refine lv_icmp_ge (tgt := 35) hx hb dX4_fewer_8 (by decide) (fun c6 => ?_) (fun c6 => ?_)
      · have h := hq_t h c6
        exact hK35 x3 S5 _ _ _ h hI (lv_sub hl [2] rfl)
      · have h := hq_f h c6
        refine lv_iload hx hb dX4_fewer_11 (lv_at hl 3 rfl) ?_
        refine lv_aload_n hx hb dX4_fewer_13 rfl (lv_at hl 0 rfl) ?_
        obtain ⟨v7, g8, h⟩ := hq_bind h
        obtain ⟨fs_g8, hs_g8, hv_g8⟩ := gI_at g8
        refine hq_get hx hb hts hown hE hI hs_g8 inG4 rfl 1 (by decide) kw_60 hv_g8 dX4_fewer_14 ?_
        refine lv_icmp_gt (tgt := 35) hx hb dX4_fewer_17 (by decide) (fun c9 => ?_) (fun c9 => ?_)
        · have h := hq_t h c9
          exact hK35 x3 S5 _ _ _ h hI (lv_sub hl [2] rfl)
        · have h := hq_f h c9
          refine lv_lload_n hx hb dX4_fewer_20 rfl (lv_at hl 2 rfl) ?_
          refine lv_aload_n hx hb dX4_fewer_21 rfl (lv_at hl 0 rfl) ?_
          refine lv_iload hx hb dX4_fewer_22 (lv_at hl 3 rfl) ?_
          obtain ⟨g11, h⟩ := hq_g h
          obtain ⟨v13, S12, g10, h⟩ := hq_bd2 h
          refine hq_calll hI (va_runV (As := [.int x4]) (rest := [.long x3]) ⟨hx, hb, hml, hown, hts⟩ (c_X4_exactly l D kA ρ HB S5 a0 x4 _ g10) (cwV 1 hts (gdIn (List.forall_mem_cons.mpr ⟨kw_667, (List.forall_mem_cons.mpr ⟨kw_668, (List.forall_mem_cons.mpr ⟨kw_669, (List.forall_mem_cons.mpr ⟨kw_3, (fun _ h => absurd h List.not_mem_nil)⟩)⟩)⟩)⟩) kw_670) rfl rfl rfl ye_X4_exactly ⟨Nat.le_of_ble_eq_true rfl, Nat.le_of_ble_eq_true rfl⟩) (hq_preC hE hI g11 rfl _) rfl rfl hl.1 rfl (lv_room (Nat.le_of_ble_eq_true rfl)) dX4_fewer_24 ⟨Nat.le_of_ble_eq_true rfl, Nat.le_of_ble_eq_true rfl⟩) (fun H locs hI => ?_)
          refine lv_ladd hx hb dX4_fewer_27 ?_
          refine lv_lstore_n (lv' := [(2, .long (x3 + v13)), (0, .ref a0), (1, .int a1), (4, .int x4)]) hx hb dX4_fewer_28 rfl hl (by decide) rfl (fun ls hl => ?_)
          refine lv_iinc (v := (x4 + 1)) (lv' := [(4, .int (x4 + 1)), (2, .long (x3 + v13)), (0, .ref a0), (1, .int a1)]) hx hb dX4_fewer_29 hl (k := 3) rfl rfl (by decide) rfl (fun ls hl => ?_)
          refine lv_goto (tgt := 5) hx hb dX4_fewer_32 (by decide) ?_
          exact ih5 (x3 + v13) (x4 + 1) S12 _ _ _ h hI (lv_sub hl [2, 3, 1, 0] rfl)
  exact hL5 FU 0 0 S _ _ _ h hI (lv_sub hl [2, 3, 1, 0] rfl)
-- RodDips$Odds.orMore(I)J
theorem dX4_orMore_0 : decode cX4_orMore 0 = .ok (.aload_n 0, 1) := by decide +kernel
theorem dX4_orMore_1 : decode cX4_orMore 1 = .ok (.getfield 19, 3) := by decide +kernel
theorem dX4_orMore_4 : decode cX4_orMore 4 = .ok (.aload_n 0, 1) := by decide +kernel
theorem dX4_orMore_5 : decode cX4_orMore 5 = .ok (.iload_n 1, 1) := by decide +kernel
theorem dX4_orMore_6 : decode cX4_orMore 6 = .ok (.invokevirtual 33, 3) := by decide +kernel
theorem dX4_orMore_9 : decode cX4_orMore 9 = .ok (.lsub, 1) := by decide +kernel
theorem dX4_orMore_10 : decode cX4_orMore 10 = .ok (.lreturn, 1) := by decide +kernel
def f_X4_orMore (S : HSt) (a0 : Nat) (a1 : Int32) : Option (Int64 × HSt) := (gL S a0 4 2).bind fun v1 => if gC S a0 = some 4 then (bd2 (f_X4_fewer S a0 a1) fun v6 S5 => some (v1 - v6, S5)) else none
abbrev rm_X4_orMore : Room := { frames := 2, cells := 0, slots := 0, locals := 45 }
abbrev w_X4_orMore : List Cond := Cond.code yX4_orMore cX4_orMore 2 (Option.some FieldType.long) :: lwG
theorem yd_X4_orMore : yX4_orMore.cls ≠ "java/lang/invoke/MethodHandle" ∧ yX4_orMore.cls ≠ "java/lang/invoke/VarHandle" ∧ (parseMethodDescriptor yX4_orMore.desc).map (fun d => d.parameters.length) = some 1 := by decide +kernel
theorem ye_X4_orMore : yX4_orMore.cls = RX4 ∧ yX4_orMore.cls ≠ "java/lang/invoke/MethodHandle" ∧ yX4_orMore.cls ≠ "java/lang/invoke/VarHandle" ∧ (parseMethodDescriptor yX4_orMore.desc).map (fun d => d.parameters.length) = some 1 := by decide +kernel
set_option maxHeartbeats 4000000 in
set_option maxRecDepth 100000 in
theorem c_X4_orMore (l : Launch) (D : va_G) (kA ρ : Nat → Nat) (HB : Heap) (S : HSt) (a0 : Nat) (a1 : Int32) (res : Int64 × HSt) (h : f_X4_orMore S a0 a1 = some res) : Met l yX4_orMore w_X4_orMore rm_X4_orMore (hPc D kA ρ HB S [.ref a0, .int a1]) (hQl D kA HB S res) 0 0 (hFree HB) := by
  refine Met.ofW (cc := cX4_orMore) (maxL := 2) (ret := (Option.some FieldType.long)) (by decide) rfl ?_
  intro p e s m args below meth c s₁ B hml hv
  obtain ⟨rfl, hE, h0⟩ := hv
  have hx := B.exec
  have hb := B.bytes
  have hr := B.returns
  have hts0 := atoms_spec (ws := w_X4_orMore) B.pre
  have hts : ∀ w ∈ lwG, w.before _ s = true := fun w hw => hts0 w (List.mem_cons_of_mem _ hw)
  have hown : s.vm.findClass RX4 = some m.cls := findClass_of_methodNamed B.named
  have hlocks := B.notSynchronized
  have hI : hqX D kA HB S.2 S s.heap [] := ⟨h0, Nat.le_refl _, fun _ q => absurd q List.not_mem_nil⟩
  have hl := lv_entry ([.ref a0, .int a1]) (n := 2) (Nat.le_of_ble_eq_true rfl)
  rw [lg_entry_eq]
  generalize (lg_sl ([.ref a0, .int a1]) ++ List.replicate (2 - (lg_sl ([.ref a0, .int a1])).length) Slot.unset).toArray = ls at hl ⊢
  have hl : lv_has ls 2 [(0, .ref a0), (1, .int a1)] := hl
  unfold f_X4_orMore at h
  refine lv_aload_n hx hb dX4_orMore_0 rfl (lv_at hl 0 rfl) ?_
  obtain ⟨v1, g2, h⟩ := hq_bind h
  obtain ⟨fs_g2, hs_g2, hv_g2⟩ := gL_at g2
  refine hq_get hx hb hts hown hE hI hs_g2 inG4 rfl 2 (by decide) kw_61 hv_g2 dX4_orMore_1 ?_
  refine lv_aload_n hx hb dX4_orMore_4 rfl (lv_at hl 0 rfl) ?_
  refine lv_iload_n hx hb dX4_orMore_5 rfl (lv_at hl 1 rfl) ?_
  obtain ⟨g4, h⟩ := hq_g h
  obtain ⟨v6, S5, g3, h⟩ := hq_bd2 h
  refine hq_calll hI (va_runV (As := [.int a1]) (rest := [.long v1]) ⟨hx, hb, hml, hown, hts⟩ (c_X4_fewer l D kA ρ HB S a0 a1 _ g3) (cwV 1 hts (gdIn (List.forall_mem_cons.mpr ⟨kw_663, (List.forall_mem_cons.mpr ⟨kw_664, (List.forall_mem_cons.mpr ⟨kw_665, (List.forall_mem_cons.mpr ⟨kw_3, (fun _ h => absurd h List.not_mem_nil)⟩)⟩)⟩)⟩) kw_666) rfl rfl rfl ye_X4_fewer ⟨Nat.le_of_ble_eq_true rfl, Nat.le_of_ble_eq_true rfl⟩) (hq_preC hE hI g4 rfl _) rfl rfl hl.1 rfl (lv_room (Nat.le_of_ble_eq_true rfl)) dX4_orMore_6 ⟨Nat.le_of_ble_eq_true rfl, Nat.le_of_ble_eq_true rfl⟩) (fun H locs hI => ?_)
  refine lv_lsub hx hb dX4_orMore_9 ?_
  exact hq_lret hx hb hr hlocks h0 hI h dX4_orMore_10
-- RodDips$Trace.clear()V
theorem dX8_clear_0 : decode cX8_clear 0 = .ok (.aload_n 0, 1) := by decide +kernel
theorem dX8_clear_1 : decode cX8_clear 1 = .ok (.iconst 0, 1) := by decide +kernel
theorem dX8_clear_2 : decode cX8_clear 2 = .ok (.putfield 15, 3) := by decide +kernel
theorem dX8_clear_5 : decode cX8_clear 5 = .ok (.return_, 1) := by decide +kernel
def f_X8_clear (S : HSt) (a0 : Nat) : Option (HSt) := (pV S a0 8 1 (.int 0)).bind fun S1 => some S1
abbrev rm_X8_clear : Room := { frames := 0, cells := 0, slots := 0, locals := 0 }
abbrev w_X8_clear : List Cond := Cond.code yX8_clear cX8_clear 1 none :: lwG
theorem yd_X8_clear : yX8_clear.cls ≠ "java/lang/invoke/MethodHandle" ∧ yX8_clear.cls ≠ "java/lang/invoke/VarHandle" ∧ (parseMethodDescriptor yX8_clear.desc).map (fun d => d.parameters.length) = some 0 := by decide +kernel
theorem ye_X8_clear : yX8_clear.cls = RX8 ∧ yX8_clear.cls ≠ "java/lang/invoke/MethodHandle" ∧ yX8_clear.cls ≠ "java/lang/invoke/VarHandle" ∧ (parseMethodDescriptor yX8_clear.desc).map (fun d => d.parameters.length) = some 0 := by decide +kernel
set_option maxHeartbeats 4000000 in
set_option maxRecDepth 100000 in
theorem c_X8_clear (l : Launch) (D : va_G) (kA ρ : Nat → Nat) (HB : Heap) (S : HSt) (a0 : Nat) (res : HSt) (h : f_X8_clear S a0 = some res) : Met l yX8_clear w_X8_clear rm_X8_clear (hPc D kA ρ HB S [.ref a0]) (hQv D kA HB S res) 0 0 (hFree HB) := by
  refine Met.ofW (cc := cX8_clear) (maxL := 1) (ret := none) (by decide) rfl ?_
  intro p e s m args below meth c s₁ B hml hv
  obtain ⟨rfl, hE, h0⟩ := hv
  have hx := B.exec
  have hb := B.bytes
  have hr := B.returns
  have hts0 := atoms_spec (ws := w_X8_clear) B.pre
  have hts : ∀ w ∈ lwG, w.before _ s = true := fun w hw => hts0 w (List.mem_cons_of_mem _ hw)
  have hown : s.vm.findClass RX8 = some m.cls := findClass_of_methodNamed B.named
  have hlocks := B.notSynchronized
  have hI : hqX D kA HB S.2 S s.heap [] := ⟨h0, Nat.le_refl _, fun _ q => absurd q List.not_mem_nil⟩
  have hl := lv_entry ([.ref a0]) (n := 1) (Nat.le_of_ble_eq_true rfl)
  rw [lg_entry_eq]
  generalize (lg_sl ([.ref a0]) ++ List.replicate (1 - (lg_sl ([.ref a0])).length) Slot.unset).toArray = ls at hl ⊢
  have hl : lv_has ls 1 [(0, .ref a0)] := hl
  unfold f_X8_clear at h
  refine lv_aload_n hx hb dX8_clear_0 rfl (lv_at hl 0 rfl) ?_
  refine lv_iconst (v := 0) hx hb dX8_clear_1 (by decide) ?_
  obtain ⟨S1, g2, h⟩ := hq_bind h
  obtain ⟨fs_g2, hs_g2, hl_g2, e_g2⟩ := pV_at g2
  refine hq_put hx hb hts hown hE hI hs_g2 inG8 tyX8 tyX8_ok nmX8 rfl 1 (by decide) kw_78 rfl (v := .int 0) rfl rfl rfl hl_g2 e_g2 dX8_clear_2 (fun H locs hI => ?_)
  exact hq_vret hx hb hr hlocks h0 hI h dX8_clear_5
-- RodDips$Trace.bodyAt(I)I
theorem dX8_bodyAt_0 : decode cX8_bodyAt 0 = .ok (.iload_n 1, 1) := by decide +kernel
theorem dX8_bodyAt_1 : decode cX8_bodyAt 1 = .ok (.ifCond .lt 29, 3) := by decide +kernel
theorem dX8_bodyAt_4 : decode cX8_bodyAt 4 = .ok (.iload_n 1, 1) := by decide +kernel
theorem dX8_bodyAt_5 : decode cX8_bodyAt 5 = .ok (.aload_n 0, 1) := by decide +kernel
theorem dX8_bodyAt_6 : decode cX8_bodyAt 6 = .ok (.getfield 15, 3) := by decide +kernel
theorem dX8_bodyAt_9 : decode cX8_bodyAt 9 = .ok (.if_icmp .ge 21, 3) := by decide +kernel
theorem dX8_bodyAt_12 : decode cX8_bodyAt 12 = .ok (.iload_n 1, 1) := by decide +kernel
theorem dX8_bodyAt_13 : decode cX8_bodyAt 13 = .ok (.aload_n 0, 1) := by decide +kernel
theorem dX8_bodyAt_14 : decode cX8_bodyAt 14 = .ok (.getfield 9, 3) := by decide +kernel
theorem dX8_bodyAt_17 : decode cX8_bodyAt 17 = .ok (.arraylength, 1) := by decide +kernel
theorem dX8_bodyAt_18 : decode cX8_bodyAt 18 = .ok (.if_icmp .ge 12, 3) := by decide +kernel
theorem dX8_bodyAt_21 : decode cX8_bodyAt 21 = .ok (.aload_n 0, 1) := by decide +kernel
theorem dX8_bodyAt_22 : decode cX8_bodyAt 22 = .ok (.getfield 9, 3) := by decide +kernel
theorem dX8_bodyAt_25 : decode cX8_bodyAt 25 = .ok (.iload_n 1, 1) := by decide +kernel
theorem dX8_bodyAt_26 : decode cX8_bodyAt 26 = .ok (.iaload, 1) := by decide +kernel
theorem dX8_bodyAt_27 : decode cX8_bodyAt 27 = .ok (.goto 4, 3) := by decide +kernel
theorem dX8_bodyAt_30 : decode cX8_bodyAt 30 = .ok (.iconst (-1), 1) := by decide +kernel
theorem dX8_bodyAt_31 : decode cX8_bodyAt 31 = .ok (.ireturn, 1) := by decide +kernel
def f_X8_bodyAt (S : HSt) (a0 : Nat) (a1 : Int32) : Option (Int32 × HSt) := if a1 < 0 then (some ((-1), S)) else ((gI S a0 8 1).bind fun v2 => if v2 ≤ a1 then (some ((-1), S)) else ((gR S a0 8 0).bind fun b5 => (aN S b5).bind fun v7 => if v7 ≤ a1 then (some ((-1), S)) else ((gR S a0 8 0).bind fun b10 => (aI S b10 0 a1).bind fun v13 => some (v13, S))))
abbrev rm_X8_bodyAt : Room := { frames := 0, cells := 0, slots := 0, locals := 0 }
abbrev w_X8_bodyAt : List Cond := Cond.code yX8_bodyAt cX8_bodyAt 2 (Option.some FieldType.int) :: lwG
theorem yd_X8_bodyAt : yX8_bodyAt.cls ≠ "java/lang/invoke/MethodHandle" ∧ yX8_bodyAt.cls ≠ "java/lang/invoke/VarHandle" ∧ (parseMethodDescriptor yX8_bodyAt.desc).map (fun d => d.parameters.length) = some 1 := by decide +kernel
theorem ye_X8_bodyAt : yX8_bodyAt.cls = RX8 ∧ yX8_bodyAt.cls ≠ "java/lang/invoke/MethodHandle" ∧ yX8_bodyAt.cls ≠ "java/lang/invoke/VarHandle" ∧ (parseMethodDescriptor yX8_bodyAt.desc).map (fun d => d.parameters.length) = some 1 := by decide +kernel
set_option maxHeartbeats 4000000 in
set_option maxRecDepth 100000 in
theorem c_X8_bodyAt (l : Launch) (D : va_G) (kA ρ : Nat → Nat) (HB : Heap) (S : HSt) (a0 : Nat) (a1 : Int32) (res : Int32 × HSt) (h : f_X8_bodyAt S a0 a1 = some res) : Met l yX8_bodyAt w_X8_bodyAt rm_X8_bodyAt (hPc D kA ρ HB S [.ref a0, .int a1]) (hQi D kA HB S res) 0 0 (hFree HB) := by
  refine Met.ofW (cc := cX8_bodyAt) (maxL := 2) (ret := (Option.some FieldType.int)) (by decide) rfl ?_
  intro p e s m args below meth c s₁ B hml hv
  obtain ⟨rfl, hE, h0⟩ := hv
  have hx := B.exec
  have hb := B.bytes
  have hr := B.returns
  have hts0 := atoms_spec (ws := w_X8_bodyAt) B.pre
  have hts : ∀ w ∈ lwG, w.before _ s = true := fun w hw => hts0 w (List.mem_cons_of_mem _ hw)
  have hown : s.vm.findClass RX8 = some m.cls := findClass_of_methodNamed B.named
  have hlocks := B.notSynchronized
  have hI : hqX D kA HB S.2 S s.heap [] := ⟨h0, Nat.le_refl _, fun _ q => absurd q List.not_mem_nil⟩
  have hl := lv_entry ([.ref a0, .int a1]) (n := 2) (Nat.le_of_ble_eq_true rfl)
  rw [lg_entry_eq]
  generalize (lg_sl ([.ref a0, .int a1]) ++ List.replicate (2 - (lg_sl ([.ref a0, .int a1])).length) Slot.unset).toArray = ls at hl ⊢
  have hl : lv_has ls 2 [(0, .ref a0), (1, .int a1)] := hl
  unfold f_X8_bodyAt at h
  refine lv_iload_n hx hb dX8_bodyAt_0 rfl (lv_at hl 1 rfl) ?_
  refine lv_if_lt (tgt := 30) hx hb dX8_bodyAt_1 (by decide) (fun c1 => ?_) (fun c1 => ?_)
  · have h := hq_t h c1
    refine lv_iconst (v := (-1)) hx hb dX8_bodyAt_30 (by decide) ?_
    exact hq_iret hx hb hr hlocks h0 hI h dX8_bodyAt_31
  · have h := hq_f h c1
    refine lv_iload_n hx hb dX8_bodyAt_4 rfl (lv_at hl 1 rfl) ?_
    refine lv_aload_n hx hb dX8_bodyAt_5 rfl (lv_at hl 0 rfl) ?_
    obtain ⟨v2, g3, h⟩ := hq_bind h
    obtain ⟨fs_g3, hs_g3, hv_g3⟩ := gI_at g3
    refine hq_get hx hb hts hown hE hI hs_g3 inG8 rfl 1 (by decide) kw_78 hv_g3 dX8_bodyAt_6 ?_
    refine lv_icmp_ge (tgt := 30) hx hb dX8_bodyAt_9 (by decide) (fun c4 => ?_) (fun c4 => ?_)
    · have h := hq_t h c4
      refine lv_iconst (v := (-1)) hx hb dX8_bodyAt_30 (by decide) ?_
      exact hq_iret hx hb hr hlocks h0 hI h dX8_bodyAt_31
    · have h := hq_f h c4
      refine lv_iload_n hx hb dX8_bodyAt_12 rfl (lv_at hl 1 rfl) ?_
      refine lv_aload_n hx hb dX8_bodyAt_13 rfl (lv_at hl 0 rfl) ?_
      obtain ⟨b5, g6, h⟩ := hq_bind h
      obtain ⟨fs_g6, hs_g6, hv_g6⟩ := gR_at g6
      refine hq_get hx hb hts hown hE hI hs_g6 inG8 rfl 0 (by decide) kw_77 hv_g6 dX8_bodyAt_14 ?_
      obtain ⟨v7, g8, h⟩ := hq_bind h
      refine hq_alen hx hb hE hI g8 dX8_bodyAt_17 ?_
      refine lv_icmp_ge (tgt := 30) hx hb dX8_bodyAt_18 (by decide) (fun c9 => ?_) (fun c9 => ?_)
      · have h := hq_t h c9
        refine lv_iconst (v := (-1)) hx hb dX8_bodyAt_30 (by decide) ?_
        exact hq_iret hx hb hr hlocks h0 hI h dX8_bodyAt_31
      · have h := hq_f h c9
        refine lv_aload_n hx hb dX8_bodyAt_21 rfl (lv_at hl 0 rfl) ?_
        obtain ⟨b10, g11, h⟩ := hq_bind h
        obtain ⟨fs_g11, hs_g11, hv_g11⟩ := gR_at g11
        refine hq_get hx hb hts hown hE hI hs_g11 inG8 rfl 0 (by decide) kw_77 hv_g11 dX8_bodyAt_22 ?_
        refine lv_iload_n hx hb dX8_bodyAt_25 rfl (lv_at hl 1 rfl) ?_
        obtain ⟨v13, g12, h⟩ := hq_bind h
        refine hq_iald hx hb hE hI g12 dX8_bodyAt_26 ?_
        refine lv_goto (tgt := 31) hx hb dX8_bodyAt_27 (by decide) ?_
        exact hq_iret hx hb hr hlocks h0 hI h dX8_bodyAt_31
-- RodDips$Text.clear()V
theorem dX7_clear_0 : decode cX7_clear 0 = .ok (.aload_n 0, 1) := by decide +kernel
theorem dX7_clear_1 : decode cX7_clear 1 = .ok (.iconst 0, 1) := by decide +kernel
theorem dX7_clear_2 : decode cX7_clear 2 = .ok (.putfield 36, 3) := by decide +kernel
theorem dX7_clear_5 : decode cX7_clear 5 = .ok (.aload_n 0, 1) := by decide +kernel
theorem dX7_clear_6 : decode cX7_clear 6 = .ok (.iconst 0, 1) := by decide +kernel
theorem dX7_clear_7 : decode cX7_clear 7 = .ok (.putfield 40, 3) := by decide +kernel
theorem dX7_clear_10 : decode cX7_clear 10 = .ok (.aload_n 0, 1) := by decide +kernel
theorem dX7_clear_11 : decode cX7_clear 11 = .ok (.iconst 0, 1) := by decide +kernel
theorem dX7_clear_12 : decode cX7_clear 12 = .ok (.putfield 43, 3) := by decide +kernel
theorem dX7_clear_15 : decode cX7_clear 15 = .ok (.aload_n 0, 1) := by decide +kernel
theorem dX7_clear_16 : decode cX7_clear 16 = .ok (.iconst 1, 1) := by decide +kernel
theorem dX7_clear_17 : decode cX7_clear 17 = .ok (.putfield 46, 3) := by decide +kernel
theorem dX7_clear_20 : decode cX7_clear 20 = .ok (.aload_n 0, 1) := by decide +kernel
theorem dX7_clear_21 : decode cX7_clear 21 = .ok (.iconst 0, 1) := by decide +kernel
theorem dX7_clear_22 : decode cX7_clear 22 = .ok (.putfield 49, 3) := by decide +kernel
theorem dX7_clear_25 : decode cX7_clear 25 = .ok (.return_, 1) := by decide +kernel
def f_X7_clear (S : HSt) (a0 : Nat) : Option (HSt) := (pV S a0 7 6 (.int 0)).bind fun S1 => (pV S1 a0 7 7 (.int 0)).bind fun S3 => (pV S3 a0 7 8 (.int 0)).bind fun S5 => (pV S5 a0 7 9 (.int 1)).bind fun S7 => (pV S7 a0 7 10 (.int 0)).bind fun S9 => some S9
abbrev rm_X7_clear : Room := { frames := 0, cells := 0, slots := 0, locals := 0 }
abbrev w_X7_clear : List Cond := Cond.code yX7_clear cX7_clear 1 none :: lwG
theorem yd_X7_clear : yX7_clear.cls ≠ "java/lang/invoke/MethodHandle" ∧ yX7_clear.cls ≠ "java/lang/invoke/VarHandle" ∧ (parseMethodDescriptor yX7_clear.desc).map (fun d => d.parameters.length) = some 0 := by decide +kernel
theorem ye_X7_clear : yX7_clear.cls = RX7 ∧ yX7_clear.cls ≠ "java/lang/invoke/MethodHandle" ∧ yX7_clear.cls ≠ "java/lang/invoke/VarHandle" ∧ (parseMethodDescriptor yX7_clear.desc).map (fun d => d.parameters.length) = some 0 := by decide +kernel
set_option maxHeartbeats 4000000 in
set_option maxRecDepth 100000 in
theorem c_X7_clear (l : Launch) (D : va_G) (kA ρ : Nat → Nat) (HB : Heap) (S : HSt) (a0 : Nat) (res : HSt) (h : f_X7_clear S a0 = some res) : Met l yX7_clear w_X7_clear rm_X7_clear (hPc D kA ρ HB S [.ref a0]) (hQv D kA HB S res) 0 0 (hFree HB) := by
  refine Met.ofW (cc := cX7_clear) (maxL := 1) (ret := none) (by decide) rfl ?_
  intro p e s m args below meth c s₁ B hml hv
  obtain ⟨rfl, hE, h0⟩ := hv
  have hx := B.exec
  have hb := B.bytes
  have hr := B.returns
  have hts0 := atoms_spec (ws := w_X7_clear) B.pre
  have hts : ∀ w ∈ lwG, w.before _ s = true := fun w hw => hts0 w (List.mem_cons_of_mem _ hw)
  have hown : s.vm.findClass RX7 = some m.cls := findClass_of_methodNamed B.named
  have hlocks := B.notSynchronized
  have hI : hqX D kA HB S.2 S s.heap [] := ⟨h0, Nat.le_refl _, fun _ q => absurd q List.not_mem_nil⟩
  have hl := lv_entry ([.ref a0]) (n := 1) (Nat.le_of_ble_eq_true rfl)
  rw [lg_entry_eq]
  generalize (lg_sl ([.ref a0]) ++ List.replicate (1 - (lg_sl ([.ref a0])).length) Slot.unset).toArray = ls at hl ⊢
  have hl : lv_has ls 1 [(0, .ref a0)] := hl
  unfold f_X7_clear at h
  refine lv_aload_n hx hb dX7_clear_0 rfl (lv_at hl 0 rfl) ?_
  refine lv_iconst (v := 0) hx hb dX7_clear_1 (by decide) ?_
  obtain ⟨S1, g2, h⟩ := hq_bind h
  obtain ⟨fs_g2, hs_g2, hl_g2, e_g2⟩ := pV_at g2
  refine hq_put hx hb hts hown hE hI hs_g2 inG7 tyX7 tyX7_ok nmX7 rfl 6 (by decide) kw_101 rfl (v := .int 0) rfl rfl rfl hl_g2 e_g2 dX7_clear_2 (fun H locs hI => ?_)
  refine lv_aload_n hx hb dX7_clear_5 rfl (lv_at hl 0 rfl) ?_
  refine lv_iconst (v := 0) hx hb dX7_clear_6 (by decide) ?_
  obtain ⟨S3, g4, h⟩ := hq_bind h
  obtain ⟨fs_g4, hs_g4, hl_g4, e_g4⟩ := pV_at g4
  refine hq_put hx hb hts hown hE hI hs_g4 inG7 tyX7 tyX7_ok nmX7 rfl 7 (by decide) kw_102 rfl (v := .int 0) rfl rfl rfl hl_g4 e_g4 dX7_clear_7 (fun H locs hI => ?_)
  refine lv_aload_n hx hb dX7_clear_10 rfl (lv_at hl 0 rfl) ?_
  refine lv_iconst (v := 0) hx hb dX7_clear_11 (by decide) ?_
  obtain ⟨S5, g6, h⟩ := hq_bind h
  obtain ⟨fs_g6, hs_g6, hl_g6, e_g6⟩ := pV_at g6
  refine hq_put hx hb hts hown hE hI hs_g6 inG7 tyX7 tyX7_ok nmX7 rfl 8 (by decide) kw_103 rfl (v := .int 0) rfl rfl rfl hl_g6 e_g6 dX7_clear_12 (fun H locs hI => ?_)
  refine lv_aload_n hx hb dX7_clear_15 rfl (lv_at hl 0 rfl) ?_
  refine lv_iconst (v := 1) hx hb dX7_clear_16 (by decide) ?_
  obtain ⟨S7, g8, h⟩ := hq_bind h
  obtain ⟨fs_g8, hs_g8, hl_g8, e_g8⟩ := pV_at g8
  refine hq_put hx hb hts hown hE hI hs_g8 inG7 tyX7 tyX7_ok nmX7 rfl 9 (by decide) kw_105 rfl (v := .int 1) rfl rfl rfl hl_g8 e_g8 dX7_clear_17 (fun H locs hI => ?_)
  refine lv_aload_n hx hb dX7_clear_20 rfl (lv_at hl 0 rfl) ?_
  refine lv_iconst (v := 0) hx hb dX7_clear_21 (by decide) ?_
  obtain ⟨S9, g10, h⟩ := hq_bind h
  obtain ⟨fs_g10, hs_g10, hl_g10, e_g10⟩ := pV_at g10
  refine hq_put hx hb hts hown hE hI hs_g10 inG7 tyX7 tyX7_ok nmX7 rfl 10 (by decide) kw_107 rfl (v := .int 0) rfl rfl rfl hl_g10 e_g10 dX7_clear_22 (fun H locs hI => ?_)
  exact hq_vret hx hb hr hlocks h0 hI h dX7_clear_25
-- RodDips$Text.isTold(I)Z
theorem dX7_isTold_0 : decode cX7_isTold 0 = .ok (.iload_n 1, 1) := by decide +kernel
theorem dX7_isTold_1 : decode cX7_isTold 1 = .ok (.bipush 104, 2) := by decide +kernel
theorem dX7_isTold_3 : decode cX7_isTold 3 = .ok (.if_icmp .eq 9, 3) := by decide +kernel
theorem dX7_isTold_6 : decode cX7_isTold 6 = .ok (.iload_n 1, 1) := by decide +kernel
theorem dX7_isTold_7 : decode cX7_isTold 7 = .ok (.bipush 110, 2) := by decide +kernel
theorem dX7_isTold_9 : decode cX7_isTold 9 = .ok (.if_icmp .ne 7, 3) := by decide +kernel
theorem dX7_isTold_12 : decode cX7_isTold 12 = .ok (.iconst 1, 1) := by decide +kernel
theorem dX7_isTold_13 : decode cX7_isTold 13 = .ok (.goto 4, 3) := by decide +kernel
theorem dX7_isTold_16 : decode cX7_isTold 16 = .ok (.iconst 0, 1) := by decide +kernel
theorem dX7_isTold_17 : decode cX7_isTold 17 = .ok (.ireturn, 1) := by decide +kernel
def f_X7_isTold (S : HSt) (a0 : Nat) (a1 : Int32) : Option (Int32 × HSt) := if a1 = 104 then (some (1, S)) else (if a1 = 110 then (some (1, S)) else (some (0, S)))
abbrev rm_X7_isTold : Room := { frames := 0, cells := 0, slots := 0, locals := 0 }
abbrev w_X7_isTold : List Cond := Cond.code yX7_isTold cX7_isTold 2 (Option.some FieldType.boolean) :: lwG
theorem yd_X7_isTold : yX7_isTold.cls ≠ "java/lang/invoke/MethodHandle" ∧ yX7_isTold.cls ≠ "java/lang/invoke/VarHandle" ∧ (parseMethodDescriptor yX7_isTold.desc).map (fun d => d.parameters.length) = some 1 := by decide +kernel
theorem ye_X7_isTold : yX7_isTold.cls = RX7 ∧ yX7_isTold.cls ≠ "java/lang/invoke/MethodHandle" ∧ yX7_isTold.cls ≠ "java/lang/invoke/VarHandle" ∧ (parseMethodDescriptor yX7_isTold.desc).map (fun d => d.parameters.length) = some 1 := by decide +kernel
set_option maxHeartbeats 4000000 in
set_option maxRecDepth 100000 in
theorem c_X7_isTold (l : Launch) (D : va_G) (kA ρ : Nat → Nat) (HB : Heap) (S : HSt) (a0 : Nat) (a1 : Int32) (res : Int32 × HSt) (h : f_X7_isTold S a0 a1 = some res) : Met l yX7_isTold w_X7_isTold rm_X7_isTold (hPc D kA ρ HB S [.ref a0, .int a1]) (hQi D kA HB S res) 0 0 (hFree HB) := by
  refine Met.ofW (cc := cX7_isTold) (maxL := 2) (ret := (Option.some FieldType.boolean)) (by decide) rfl ?_
  intro p e s m args below meth c s₁ B hml hv
  obtain ⟨rfl, hE, h0⟩ := hv
  have hx := B.exec
  have hb := B.bytes
  have hr := B.returns
  have hts0 := atoms_spec (ws := w_X7_isTold) B.pre
  have hts : ∀ w ∈ lwG, w.before _ s = true := fun w hw => hts0 w (List.mem_cons_of_mem _ hw)
  have hown : s.vm.findClass RX7 = some m.cls := findClass_of_methodNamed B.named
  have hlocks := B.notSynchronized
  have hI : hqX D kA HB S.2 S s.heap [] := ⟨h0, Nat.le_refl _, fun _ q => absurd q List.not_mem_nil⟩
  have hl := lv_entry ([.ref a0, .int a1]) (n := 2) (Nat.le_of_ble_eq_true rfl)
  rw [lg_entry_eq]
  generalize (lg_sl ([.ref a0, .int a1]) ++ List.replicate (2 - (lg_sl ([.ref a0, .int a1])).length) Slot.unset).toArray = ls at hl ⊢
  have hl : lv_has ls 2 [(0, .ref a0), (1, .int a1)] := hl
  unfold f_X7_isTold at h
  refine lv_iload_n hx hb dX7_isTold_0 rfl (lv_at hl 1 rfl) ?_
  refine lv_bipush (v := 104) hx hb dX7_isTold_1 (by decide) ?_
  refine lv_icmp_eq (tgt := 12) hx hb dX7_isTold_3 (by decide) (fun c1 => ?_) (fun c1 => ?_)
  · have h := hq_t h c1
    refine lv_iconst (v := 1) hx hb dX7_isTold_12 (by decide) ?_
    refine lv_goto (tgt := 17) hx hb dX7_isTold_13 (by decide) ?_
    exact hq_zret hx hb hr hlocks h0 hI (by decide) h dX7_isTold_17
  · have h := hq_f h c1
    refine lv_iload_n hx hb dX7_isTold_6 rfl (lv_at hl 1 rfl) ?_
    refine lv_bipush (v := 110) hx hb dX7_isTold_7 (by decide) ?_
    refine lv_icmp_ne (tgt := 16) hx hb dX7_isTold_9 (by decide) (fun c2 => ?_) (fun c2 => ?_)
    · have h := hq_f h c2
      refine lv_iconst (v := 0) hx hb dX7_isTold_16 (by decide) ?_
      exact hq_zret hx hb hr hlocks h0 hI (by decide) h dX7_isTold_17
    · have h := hq_t h c2
      refine lv_iconst (v := 1) hx hb dX7_isTold_12 (by decide) ?_
      refine lv_goto (tgt := 17) hx hb dX7_isTold_13 (by decide) ?_
      exact hq_zret hx hb hr hlocks h0 hI (by decide) h dX7_isTold_17
-- RodDips$Text.tell(II)V
theorem dX7_tell_0 : decode cX7_tell 0 = .ok (.iload_n 1, 1) := by decide +kernel
theorem dX7_tell_1 : decode cX7_tell 1 = .ok (.bipush 104, 2) := by decide +kernel
theorem dX7_tell_3 : decode cX7_tell 3 = .ok (.if_icmp .ne 11, 3) := by decide +kernel
theorem dX7_tell_6 : decode cX7_tell 6 = .ok (.aload_n 0, 1) := by decide +kernel
theorem dX7_tell_7 : decode cX7_tell 7 = .ok (.iload_n 2, 1) := by decide +kernel
theorem dX7_tell_8 : decode cX7_tell 8 = .ok (.putfield 43, 3) := by decide +kernel
theorem dX7_tell_11 : decode cX7_tell 11 = .ok (.goto 23, 3) := by decide +kernel
theorem dX7_tell_14 : decode cX7_tell 14 = .ok (.aload_n 0, 1) := by decide +kernel
theorem dX7_tell_15 : decode cX7_tell 15 = .ok (.getfield 24, 3) := by decide +kernel
theorem dX7_tell_18 : decode cX7_tell 18 = .ok (.ifCond .eq 11, 3) := by decide +kernel
theorem dX7_tell_21 : decode cX7_tell 21 = .ok (.aload_n 0, 1) := by decide +kernel
theorem dX7_tell_22 : decode cX7_tell 22 = .ok (.iload_n 2, 1) := by decide +kernel
theorem dX7_tell_23 : decode cX7_tell 23 = .ok (.putfield 49, 3) := by decide +kernel
theorem dX7_tell_26 : decode cX7_tell 26 = .ok (.goto 8, 3) := by decide +kernel
theorem dX7_tell_29 : decode cX7_tell 29 = .ok (.aload_n 0, 1) := by decide +kernel
theorem dX7_tell_30 : decode cX7_tell 30 = .ok (.iload_n 2, 1) := by decide +kernel
theorem dX7_tell_31 : decode cX7_tell 31 = .ok (.putfield 46, 3) := by decide +kernel
theorem dX7_tell_34 : decode cX7_tell 34 = .ok (.return_, 1) := by decide +kernel
def f_X7_tell (S : HSt) (a0 : Nat) (a1 : Int32) (a2 : Int32) : Option (HSt) := if a1 = 104 then ((pV S a0 7 8 (.int a2)).bind fun S9 => some S9) else ((gI S a0 7 0).bind fun v2 => if v2 = 0 then ((pV S a0 7 9 (.int a2)).bind fun S5 => some S5) else ((pV S a0 7 10 (.int a2)).bind fun S7 => some S7))
abbrev rm_X7_tell : Room := { frames := 0, cells := 0, slots := 0, locals := 0 }
abbrev w_X7_tell : List Cond := Cond.code yX7_tell cX7_tell 3 none :: lwG
theorem yd_X7_tell : yX7_tell.cls ≠ "java/lang/invoke/MethodHandle" ∧ yX7_tell.cls ≠ "java/lang/invoke/VarHandle" ∧ (parseMethodDescriptor yX7_tell.desc).map (fun d => d.parameters.length) = some 2 := by decide +kernel
theorem ye_X7_tell : yX7_tell.cls = RX7 ∧ yX7_tell.cls ≠ "java/lang/invoke/MethodHandle" ∧ yX7_tell.cls ≠ "java/lang/invoke/VarHandle" ∧ (parseMethodDescriptor yX7_tell.desc).map (fun d => d.parameters.length) = some 2 := by decide +kernel
set_option maxHeartbeats 4000000 in
set_option maxRecDepth 100000 in
theorem c_X7_tell (l : Launch) (D : va_G) (kA ρ : Nat → Nat) (HB : Heap) (S : HSt) (a0 : Nat) (a1 : Int32) (a2 : Int32) (res : HSt) (h : f_X7_tell S a0 a1 a2 = some res) : Met l yX7_tell w_X7_tell rm_X7_tell (hPc D kA ρ HB S [.ref a0, .int a1, .int a2]) (hQv D kA HB S res) 0 0 (hFree HB) := by
  refine Met.ofW (cc := cX7_tell) (maxL := 3) (ret := none) (by decide) rfl ?_
  intro p e s m args below meth c s₁ B hml hv
  obtain ⟨rfl, hE, h0⟩ := hv
  have hx := B.exec
  have hb := B.bytes
  have hr := B.returns
  have hts0 := atoms_spec (ws := w_X7_tell) B.pre
  have hts : ∀ w ∈ lwG, w.before _ s = true := fun w hw => hts0 w (List.mem_cons_of_mem _ hw)
  have hown : s.vm.findClass RX7 = some m.cls := findClass_of_methodNamed B.named
  have hlocks := B.notSynchronized
  have hI : hqX D kA HB S.2 S s.heap [] := ⟨h0, Nat.le_refl _, fun _ q => absurd q List.not_mem_nil⟩
  have hl := lv_entry ([.ref a0, .int a1, .int a2]) (n := 3) (Nat.le_of_ble_eq_true rfl)
  rw [lg_entry_eq]
  generalize (lg_sl ([.ref a0, .int a1, .int a2]) ++ List.replicate (3 - (lg_sl ([.ref a0, .int a1, .int a2])).length) Slot.unset).toArray = ls at hl ⊢
  have hl : lv_has ls 3 [(0, .ref a0), (1, .int a1), (2, .int a2)] := hl
  unfold f_X7_tell at h
  refine lv_iload_n hx hb dX7_tell_0 rfl (lv_at hl 1 rfl) ?_
  refine lv_bipush (v := 104) hx hb dX7_tell_1 (by decide) ?_
  refine lv_icmp_ne (tgt := 14) hx hb dX7_tell_3 (by decide) (fun c1 => ?_) (fun c1 => ?_)
  · have h := hq_f h c1
    refine lv_aload_n hx hb dX7_tell_14 rfl (lv_at hl 0 rfl) ?_
    obtain ⟨v2, g3, h⟩ := hq_bind h
    obtain ⟨fs_g3, hs_g3, hv_g3⟩ := gI_at g3
    refine hq_get hx hb hts hown hE hI hs_g3 inG7 rfl 0 (by decide) kw_93 hv_g3 dX7_tell_15 ?_
    refine lv_if_eq (tgt := 29) hx hb dX7_tell_18 (by decide) (fun c4 => ?_) (fun c4 => ?_)
    · have h := hq_t h c4
      refine lv_aload_n hx hb dX7_tell_29 rfl (lv_at hl 0 rfl) ?_
      refine lv_iload_n hx hb dX7_tell_30 rfl (lv_at hl 2 rfl) ?_
      obtain ⟨S5, g6, h⟩ := hq_bind h
      obtain ⟨fs_g6, hs_g6, hl_g6, e_g6⟩ := pV_at g6
      refine hq_put hx hb hts hown hE hI hs_g6 inG7 tyX7 tyX7_ok nmX7 rfl 9 (by decide) kw_105 rfl (v := .int a2) rfl rfl rfl hl_g6 e_g6 dX7_tell_31 (fun H locs hI => ?_)
      exact hq_vret hx hb hr hlocks h0 hI h dX7_tell_34
    · have h := hq_f h c4
      refine lv_aload_n hx hb dX7_tell_21 rfl (lv_at hl 0 rfl) ?_
      refine lv_iload_n hx hb dX7_tell_22 rfl (lv_at hl 2 rfl) ?_
      obtain ⟨S7, g8, h⟩ := hq_bind h
      obtain ⟨fs_g8, hs_g8, hl_g8, e_g8⟩ := pV_at g8
      refine hq_put hx hb hts hown hE hI hs_g8 inG7 tyX7 tyX7_ok nmX7 rfl 10 (by decide) kw_107 rfl (v := .int a2) rfl rfl rfl hl_g8 e_g8 dX7_tell_23 (fun H locs hI => ?_)
      refine lv_goto (tgt := 34) hx hb dX7_tell_26 (by decide) ?_
      exact hq_vret hx hb hr hlocks h0 hI h dX7_tell_34
  · have h := hq_t h c1
    refine lv_aload_n hx hb dX7_tell_6 rfl (lv_at hl 0 rfl) ?_
    refine lv_iload_n hx hb dX7_tell_7 rfl (lv_at hl 2 rfl) ?_
    obtain ⟨S9, g10, h⟩ := hq_bind h
    obtain ⟨fs_g10, hs_g10, hl_g10, e_g10⟩ := pV_at g10
    refine hq_put hx hb hts hown hE hI hs_g10 inG7 tyX7 tyX7_ok nmX7 rfl 8 (by decide) kw_103 rfl (v := .int a2) rfl rfl rfl hl_g10 e_g10 dX7_tell_8 (fun H locs hI => ?_)
    refine lv_goto (tgt := 34) hx hb dX7_tell_11 (by decide) ?_
    exact hq_vret hx hb hr hlocks h0 hI h dX7_tell_34
-- RodDips$Text.startClause(II)V
theorem dX7_startClause_0 : decode cX7_startClause 0 = .ok (.aload_n 0, 1) := by decide +kernel
theorem dX7_startClause_1 : decode cX7_startClause 1 = .ok (.getfield 40, 3) := by decide +kernel
theorem dX7_startClause_4 : decode cX7_startClause 4 = .ok (.ifCond .lt 27, 3) := by decide +kernel
theorem dX7_startClause_7 : decode cX7_startClause 7 = .ok (.aload_n 0, 1) := by decide +kernel
theorem dX7_startClause_8 : decode cX7_startClause 8 = .ok (.getfield 40, 3) := by decide +kernel
theorem dX7_startClause_11 : decode cX7_startClause 11 = .ok (.aload_n 0, 1) := by decide +kernel
theorem dX7_startClause_12 : decode cX7_startClause 12 = .ok (.getfield 15, 3) := by decide +kernel
theorem dX7_startClause_15 : decode cX7_startClause 15 = .ok (.arraylength, 1) := by decide +kernel
theorem dX7_startClause_16 : decode cX7_startClause 16 = .ok (.if_icmp .ge 15, 3) := by decide +kernel
theorem dX7_startClause_19 : decode cX7_startClause 19 = .ok (.aload_n 0, 1) := by decide +kernel
theorem dX7_startClause_20 : decode cX7_startClause 20 = .ok (.getfield 40, 3) := by decide +kernel
theorem dX7_startClause_23 : decode cX7_startClause 23 = .ok (.aload_n 0, 1) := by decide +kernel
theorem dX7_startClause_24 : decode cX7_startClause 24 = .ok (.getfield 18, 3) := by decide +kernel
theorem dX7_startClause_27 : decode cX7_startClause 27 = .ok (.arraylength, 1) := by decide +kernel
theorem dX7_startClause_28 : decode cX7_startClause 28 = .ok (.if_icmp .lt 4, 3) := by decide +kernel
theorem dX7_startClause_31 : decode cX7_startClause 31 = .ok (.return_, 1) := by decide +kernel
theorem dX7_startClause_32 : decode cX7_startClause 32 = .ok (.aload_n 0, 1) := by decide +kernel
theorem dX7_startClause_33 : decode cX7_startClause 33 = .ok (.getfield 15, 3) := by decide +kernel
theorem dX7_startClause_36 : decode cX7_startClause 36 = .ok (.aload_n 0, 1) := by decide +kernel
theorem dX7_startClause_37 : decode cX7_startClause 37 = .ok (.getfield 40, 3) := by decide +kernel
theorem dX7_startClause_40 : decode cX7_startClause 40 = .ok (.iload_n 1, 1) := by decide +kernel
theorem dX7_startClause_41 : decode cX7_startClause 41 = .ok (.iastore, 1) := by decide +kernel
theorem dX7_startClause_42 : decode cX7_startClause 42 = .ok (.aload_n 0, 1) := by decide +kernel
theorem dX7_startClause_43 : decode cX7_startClause 43 = .ok (.getfield 18, 3) := by decide +kernel
theorem dX7_startClause_46 : decode cX7_startClause 46 = .ok (.aload_n 0, 1) := by decide +kernel
theorem dX7_startClause_47 : decode cX7_startClause 47 = .ok (.getfield 40, 3) := by decide +kernel
theorem dX7_startClause_50 : decode cX7_startClause 50 = .ok (.iload_n 2, 1) := by decide +kernel
theorem dX7_startClause_51 : decode cX7_startClause 51 = .ok (.iastore, 1) := by decide +kernel
theorem dX7_startClause_52 : decode cX7_startClause 52 = .ok (.aload_n 0, 1) := by decide +kernel
theorem dX7_startClause_53 : decode cX7_startClause 53 = .ok (.dup, 1) := by decide +kernel
theorem dX7_startClause_54 : decode cX7_startClause 54 = .ok (.getfield 40, 3) := by decide +kernel
theorem dX7_startClause_57 : decode cX7_startClause 57 = .ok (.iconst 1, 1) := by decide +kernel
theorem dX7_startClause_58 : decode cX7_startClause 58 = .ok (.iadd, 1) := by decide +kernel
theorem dX7_startClause_59 : decode cX7_startClause 59 = .ok (.putfield 40, 3) := by decide +kernel
theorem dX7_startClause_62 : decode cX7_startClause 62 = .ok (.return_, 1) := by decide +kernel
def f_X7_startClause (S : HSt) (a0 : Nat) (a1 : Int32) (a2 : Int32) : Option (HSt) := (gI S a0 7 7).bind fun v1 => if v1 < 0 then (some S) else ((gI S a0 7 7).bind fun v4 => (gR S a0 7 3).bind fun b6 => (aN S b6).bind fun v8 => if v8 ≤ v4 then (some S) else ((gI S a0 7 7).bind fun v11 => (gR S a0 7 4).bind fun b13 => (aN S b13).bind fun v15 => if v11 < v15 then ((gR S a0 7 3).bind fun b18 => (gI S a0 7 7).bind fun v20 => (sI S b18 0 v20 a1).bind fun S23 => (gR S23 a0 7 4).bind fun b24 => (gI S23 a0 7 7).bind fun v26 => (sI S23 b24 0 v26 a2).bind fun S29 => (gI S29 a0 7 7).bind fun v30 => (pV S29 a0 7 7 (.int (v30 + 1))).bind fun S32 => some S32) else (some S)))
abbrev rm_X7_startClause : Room := { frames := 0, cells := 0, slots := 0, locals := 0 }
abbrev w_X7_startClause : List Cond := Cond.code yX7_startClause cX7_startClause 3 none :: lwG
theorem yd_X7_startClause : yX7_startClause.cls ≠ "java/lang/invoke/MethodHandle" ∧ yX7_startClause.cls ≠ "java/lang/invoke/VarHandle" ∧ (parseMethodDescriptor yX7_startClause.desc).map (fun d => d.parameters.length) = some 2 := by decide +kernel
theorem ye_X7_startClause : yX7_startClause.cls = RX7 ∧ yX7_startClause.cls ≠ "java/lang/invoke/MethodHandle" ∧ yX7_startClause.cls ≠ "java/lang/invoke/VarHandle" ∧ (parseMethodDescriptor yX7_startClause.desc).map (fun d => d.parameters.length) = some 2 := by decide +kernel
set_option maxHeartbeats 4000000 in
set_option maxRecDepth 100000 in
theorem c_X7_startClause (l : Launch) (D : va_G) (kA ρ : Nat → Nat) (HB : Heap) (S : HSt) (a0 : Nat) (a1 : Int32) (a2 : Int32) (res : HSt) (h : f_X7_startClause S a0 a1 a2 = some res) : Met l yX7_startClause w_X7_startClause rm_X7_startClause (hPc D kA ρ HB S [.ref a0, .int a1, .int a2]) (hQv D kA HB S res) 0 0 (hFree HB) := by
  refine Met.ofW (cc := cX7_startClause) (maxL := 3) (ret := none) (by decide) rfl ?_
  intro p e s m args below meth c s₁ B hml hv
  obtain ⟨rfl, hE, h0⟩ := hv
  have hx := B.exec
  have hb := B.bytes
  have hr := B.returns
  have hts0 := atoms_spec (ws := w_X7_startClause) B.pre
  have hts : ∀ w ∈ lwG, w.before _ s = true := fun w hw => hts0 w (List.mem_cons_of_mem _ hw)
  have hown : s.vm.findClass RX7 = some m.cls := findClass_of_methodNamed B.named
  have hlocks := B.notSynchronized
  have hI : hqX D kA HB S.2 S s.heap [] := ⟨h0, Nat.le_refl _, fun _ q => absurd q List.not_mem_nil⟩
  have hl := lv_entry ([.ref a0, .int a1, .int a2]) (n := 3) (Nat.le_of_ble_eq_true rfl)
  rw [lg_entry_eq]
  generalize (lg_sl ([.ref a0, .int a1, .int a2]) ++ List.replicate (3 - (lg_sl ([.ref a0, .int a1, .int a2])).length) Slot.unset).toArray = ls at hl ⊢
  have hl : lv_has ls 3 [(0, .ref a0), (1, .int a1), (2, .int a2)] := hl
  unfold f_X7_startClause at h
  refine lv_aload_n hx hb dX7_startClause_0 rfl (lv_at hl 0 rfl) ?_
  obtain ⟨v1, g2, h⟩ := hq_bind h
  obtain ⟨fs_g2, hs_g2, hv_g2⟩ := gI_at g2
  refine hq_get hx hb hts hown hE hI hs_g2 inG7 rfl 7 (by decide) kw_102 hv_g2 dX7_startClause_1 ?_
  refine lv_if_lt (tgt := 31) hx hb dX7_startClause_4 (by decide) (fun c3 => ?_) (fun c3 => ?_)
  · have h := hq_t h c3
    exact hq_vret hx hb hr hlocks h0 hI h dX7_startClause_31
  · have h := hq_f h c3
    refine lv_aload_n hx hb dX7_startClause_7 rfl (lv_at hl 0 rfl) ?_
    obtain ⟨v4, g5, h⟩ := hq_bind h
    obtain ⟨fs_g5, hs_g5, hv_g5⟩ := gI_at g5
    refine hq_get hx hb hts hown hE hI hs_g5 inG7 rfl 7 (by decide) kw_102 hv_g5 dX7_startClause_8 ?_
    refine lv_aload_n hx hb dX7_startClause_11 rfl (lv_at hl 0 rfl) ?_
    obtain ⟨b6, g7, h⟩ := hq_bind h
    obtain ⟨fs_g7, hs_g7, hv_g7⟩ := gR_at g7
    refine hq_get hx hb hts hown hE hI hs_g7 inG7 rfl 3 (by decide) kw_98 hv_g7 dX7_startClause_12 ?_
    obtain ⟨v8, g9, h⟩ := hq_bind h
    refine hq_alen hx hb hE hI g9 dX7_startClause_15 ?_
    refine lv_icmp_ge (tgt := 31) hx hb dX7_startClause_16 (by decide) (fun c10 => ?_) (fun c10 => ?_)
    · have h := hq_t h c10
      exact hq_vret hx hb hr hlocks h0 hI h dX7_startClause_31
    · have h := hq_f h c10
      refine lv_aload_n hx hb dX7_startClause_19 rfl (lv_at hl 0 rfl) ?_
      obtain ⟨v11, g12, h⟩ := hq_bind h
      obtain ⟨fs_g12, hs_g12, hv_g12⟩ := gI_at g12
      refine hq_get hx hb hts hown hE hI hs_g12 inG7 rfl 7 (by decide) kw_102 hv_g12 dX7_startClause_20 ?_
      refine lv_aload_n hx hb dX7_startClause_23 rfl (lv_at hl 0 rfl) ?_
      obtain ⟨b13, g14, h⟩ := hq_bind h
      obtain ⟨fs_g14, hs_g14, hv_g14⟩ := gR_at g14
      refine hq_get hx hb hts hown hE hI hs_g14 inG7 rfl 4 (by decide) kw_99 hv_g14 dX7_startClause_24 ?_
      obtain ⟨v15, g16, h⟩ := hq_bind h
      refine hq_alen hx hb hE hI g16 dX7_startClause_27 ?_
      refine lv_icmp_lt (tgt := 32) hx hb dX7_startClause_28 (by decide) (fun c17 => ?_) (fun c17 => ?_)
      · have h := hq_t h c17
        refine lv_aload_n hx hb dX7_startClause_32 rfl (lv_at hl 0 rfl) ?_
        obtain ⟨b18, g19, h⟩ := hq_bind h
        obtain ⟨fs_g19, hs_g19, hv_g19⟩ := gR_at g19
        refine hq_get hx hb hts hown hE hI hs_g19 inG7 rfl 3 (by decide) kw_98 hv_g19 dX7_startClause_33 ?_
        refine lv_aload_n hx hb dX7_startClause_36 rfl (lv_at hl 0 rfl) ?_
        obtain ⟨v20, g21, h⟩ := hq_bind h
        obtain ⟨fs_g21, hs_g21, hv_g21⟩ := gI_at g21
        refine hq_get hx hb hts hown hE hI hs_g21 inG7 rfl 7 (by decide) kw_102 hv_g21 dX7_startClause_37 ?_
        refine lv_iload_n hx hb dX7_startClause_40 rfl (lv_at hl 1 rfl) ?_
        obtain ⟨S23, g22, h⟩ := hq_bind h
        refine hq_iast hx hb hE hI g22 dX7_startClause_41 (fun H locs hI => ?_)
        refine lv_aload_n hx hb dX7_startClause_42 rfl (lv_at hl 0 rfl) ?_
        obtain ⟨b24, g25, h⟩ := hq_bind h
        obtain ⟨fs_g25, hs_g25, hv_g25⟩ := gR_at g25
        refine hq_get hx hb hts hown hE hI hs_g25 inG7 rfl 4 (by decide) kw_99 hv_g25 dX7_startClause_43 ?_
        refine lv_aload_n hx hb dX7_startClause_46 rfl (lv_at hl 0 rfl) ?_
        obtain ⟨v26, g27, h⟩ := hq_bind h
        obtain ⟨fs_g27, hs_g27, hv_g27⟩ := gI_at g27
        refine hq_get hx hb hts hown hE hI hs_g27 inG7 rfl 7 (by decide) kw_102 hv_g27 dX7_startClause_47 ?_
        refine lv_iload_n hx hb dX7_startClause_50 rfl (lv_at hl 2 rfl) ?_
        obtain ⟨S29, g28, h⟩ := hq_bind h
        refine hq_iast hx hb hE hI g28 dX7_startClause_51 (fun H locs hI => ?_)
        refine lv_aload_n hx hb dX7_startClause_52 rfl (lv_at hl 0 rfl) ?_
        refine lv_dup hx hb dX7_startClause_53 rfl ?_
        obtain ⟨v30, g31, h⟩ := hq_bind h
        obtain ⟨fs_g31, hs_g31, hv_g31⟩ := gI_at g31
        refine hq_get hx hb hts hown hE hI hs_g31 inG7 rfl 7 (by decide) kw_102 hv_g31 dX7_startClause_54 ?_
        refine lv_iconst (v := 1) hx hb dX7_startClause_57 (by decide) ?_
        refine lv_iadd hx hb dX7_startClause_58 ?_
        obtain ⟨S32, g33, h⟩ := hq_bind h
        obtain ⟨fs_g33, hs_g33, hl_g33, e_g33⟩ := pV_at g33
        refine hq_put hx hb hts hown hE hI hs_g33 inG7 tyX7 tyX7_ok nmX7 rfl 7 (by decide) kw_102 rfl (v := .int (v30 + 1)) rfl rfl rfl hl_g33 e_g33 dX7_startClause_59 (fun H locs hI => ?_)
        exact hq_vret hx hb hr hlocks h0 hI h dX7_startClause_62
      · have h := hq_f h c17
        exact hq_vret hx hb hr hlocks h0 hI h dX7_startClause_31
-- RodDips$Text.put(I)V
theorem dX7_put_0 : decode cX7_put 0 = .ok (.aload_n 0, 1) := by decide +kernel
theorem dX7_put_1 : decode cX7_put 1 = .ok (.getfield 36, 3) := by decide +kernel
theorem dX7_put_4 : decode cX7_put 4 = .ok (.ifCond .lt 15, 3) := by decide +kernel
theorem dX7_put_7 : decode cX7_put 7 = .ok (.aload_n 0, 1) := by decide +kernel
theorem dX7_put_8 : decode cX7_put 8 = .ok (.getfield 36, 3) := by decide +kernel
theorem dX7_put_11 : decode cX7_put 11 = .ok (.aload_n 0, 1) := by decide +kernel
theorem dX7_put_12 : decode cX7_put 12 = .ok (.getfield 9, 3) := by decide +kernel
theorem dX7_put_15 : decode cX7_put 15 = .ok (.arraylength, 1) := by decide +kernel
theorem dX7_put_16 : decode cX7_put 16 = .ok (.if_icmp .lt 4, 3) := by decide +kernel
theorem dX7_put_19 : decode cX7_put 19 = .ok (.return_, 1) := by decide +kernel
theorem dX7_put_20 : decode cX7_put 20 = .ok (.aload_n 0, 1) := by decide +kernel
theorem dX7_put_21 : decode cX7_put 21 = .ok (.getfield 9, 3) := by decide +kernel
theorem dX7_put_24 : decode cX7_put 24 = .ok (.aload_n 0, 1) := by decide +kernel
theorem dX7_put_25 : decode cX7_put 25 = .ok (.getfield 36, 3) := by decide +kernel
theorem dX7_put_28 : decode cX7_put 28 = .ok (.iload_n 1, 1) := by decide +kernel
theorem dX7_put_29 : decode cX7_put 29 = .ok (.iastore, 1) := by decide +kernel
theorem dX7_put_30 : decode cX7_put 30 = .ok (.aload_n 0, 1) := by decide +kernel
theorem dX7_put_31 : decode cX7_put 31 = .ok (.dup, 1) := by decide +kernel
theorem dX7_put_32 : decode cX7_put 32 = .ok (.getfield 36, 3) := by decide +kernel
theorem dX7_put_35 : decode cX7_put 35 = .ok (.iconst 1, 1) := by decide +kernel
theorem dX7_put_36 : decode cX7_put 36 = .ok (.iadd, 1) := by decide +kernel
theorem dX7_put_37 : decode cX7_put 37 = .ok (.putfield 36, 3) := by decide +kernel
theorem dX7_put_40 : decode cX7_put 40 = .ok (.aload_n 0, 1) := by decide +kernel
theorem dX7_put_41 : decode cX7_put 41 = .ok (.getfield 40, 3) := by decide +kernel
theorem dX7_put_44 : decode cX7_put 44 = .ok (.ifCond .le 30, 3) := by decide +kernel
theorem dX7_put_47 : decode cX7_put 47 = .ok (.aload_n 0, 1) := by decide +kernel
theorem dX7_put_48 : decode cX7_put 48 = .ok (.getfield 40, 3) := by decide +kernel
theorem dX7_put_51 : decode cX7_put 51 = .ok (.aload_n 0, 1) := by decide +kernel
theorem dX7_put_52 : decode cX7_put 52 = .ok (.getfield 21, 3) := by decide +kernel
theorem dX7_put_55 : decode cX7_put 55 = .ok (.arraylength, 1) := by decide +kernel
theorem dX7_put_56 : decode cX7_put 56 = .ok (.if_icmp .gt 18, 3) := by decide +kernel
theorem dX7_put_59 : decode cX7_put 59 = .ok (.aload_n 0, 1) := by decide +kernel
theorem dX7_put_60 : decode cX7_put 60 = .ok (.getfield 21, 3) := by decide +kernel
theorem dX7_put_63 : decode cX7_put 63 = .ok (.aload_n 0, 1) := by decide +kernel
theorem dX7_put_64 : decode cX7_put 64 = .ok (.getfield 40, 3) := by decide +kernel
theorem dX7_put_67 : decode cX7_put 67 = .ok (.iconst 1, 1) := by decide +kernel
theorem dX7_put_68 : decode cX7_put 68 = .ok (.isub, 1) := by decide +kernel
theorem dX7_put_69 : decode cX7_put 69 = .ok (.aload_n 0, 1) := by decide +kernel
theorem dX7_put_70 : decode cX7_put 70 = .ok (.getfield 36, 3) := by decide +kernel
theorem dX7_put_73 : decode cX7_put 73 = .ok (.iastore, 1) := by decide +kernel
theorem dX7_put_74 : decode cX7_put 74 = .ok (.return_, 1) := by decide +kernel
def f_X7_put (S : HSt) (a0 : Nat) (a1 : Int32) : Option (HSt) := (gI S a0 7 6).bind fun v1 => if v1 < 0 then (some S) else ((gI S a0 7 6).bind fun v4 => (gR S a0 7 2).bind fun b6 => (aN S b6).bind fun v8 => if v4 < v8 then ((gR S a0 7 2).bind fun b11 => (gI S a0 7 6).bind fun v13 => (sI S b11 0 v13 a1).bind fun S16 => (gI S16 a0 7 6).bind fun v17 => (pV S16 a0 7 6 (.int (v17 + 1))).bind fun S19 => (gI S19 a0 7 7).bind fun v21 => if v21 ≤ 0 then (some S19) else ((gI S19 a0 7 7).bind fun v24 => (gR S19 a0 7 5).bind fun b26 => (aN S19 b26).bind fun v28 => if v28 < v24 then (some S19) else ((gR S19 a0 7 5).bind fun b31 => (gI S19 a0 7 7).bind fun v33 => (gI S19 a0 7 6).bind fun v35 => (sI S19 b31 0 (v33 - 1) v35).bind fun S38 => some S38))) else (some S))
abbrev rm_X7_put : Room := { frames := 0, cells := 0, slots := 0, locals := 0 }
abbrev w_X7_put : List Cond := Cond.code yX7_put cX7_put 2 none :: lwG
theorem yd_X7_put : yX7_put.cls ≠ "java/lang/invoke/MethodHandle" ∧ yX7_put.cls ≠ "java/lang/invoke/VarHandle" ∧ (parseMethodDescriptor yX7_put.desc).map (fun d => d.parameters.length) = some 1 := by decide +kernel
theorem ye_X7_put : yX7_put.cls = RX7 ∧ yX7_put.cls ≠ "java/lang/invoke/MethodHandle" ∧ yX7_put.cls ≠ "java/lang/invoke/VarHandle" ∧ (parseMethodDescriptor yX7_put.desc).map (fun d => d.parameters.length) = some 1 := by decide +kernel
set_option maxHeartbeats 4000000 in
set_option maxRecDepth 100000 in
theorem c_X7_put (l : Launch) (D : va_G) (kA ρ : Nat → Nat) (HB : Heap) (S : HSt) (a0 : Nat) (a1 : Int32) (res : HSt) (h : f_X7_put S a0 a1 = some res) : Met l yX7_put w_X7_put rm_X7_put (hPc D kA ρ HB S [.ref a0, .int a1]) (hQv D kA HB S res) 0 0 (hFree HB) := by
  refine Met.ofW (cc := cX7_put) (maxL := 2) (ret := none) (by decide) rfl ?_
  intro p e s m args below meth c s₁ B hml hv
  obtain ⟨rfl, hE, h0⟩ := hv
  have hx := B.exec
  have hb := B.bytes
  have hr := B.returns
  have hts0 := atoms_spec (ws := w_X7_put) B.pre
  have hts : ∀ w ∈ lwG, w.before _ s = true := fun w hw => hts0 w (List.mem_cons_of_mem _ hw)
  have hown : s.vm.findClass RX7 = some m.cls := findClass_of_methodNamed B.named
  have hlocks := B.notSynchronized
  have hI : hqX D kA HB S.2 S s.heap [] := ⟨h0, Nat.le_refl _, fun _ q => absurd q List.not_mem_nil⟩
  have hl := lv_entry ([.ref a0, .int a1]) (n := 2) (Nat.le_of_ble_eq_true rfl)
  rw [lg_entry_eq]
  generalize (lg_sl ([.ref a0, .int a1]) ++ List.replicate (2 - (lg_sl ([.ref a0, .int a1])).length) Slot.unset).toArray = ls at hl ⊢
  have hl : lv_has ls 2 [(0, .ref a0), (1, .int a1)] := hl
  unfold f_X7_put at h
  refine lv_aload_n hx hb dX7_put_0 rfl (lv_at hl 0 rfl) ?_
  obtain ⟨v1, g2, h⟩ := hq_bind h
  obtain ⟨fs_g2, hs_g2, hv_g2⟩ := gI_at g2
  refine hq_get hx hb hts hown hE hI hs_g2 inG7 rfl 6 (by decide) kw_101 hv_g2 dX7_put_1 ?_
  refine lv_if_lt (tgt := 19) hx hb dX7_put_4 (by decide) (fun c3 => ?_) (fun c3 => ?_)
  · have h := hq_t h c3
    exact hq_vret hx hb hr hlocks h0 hI h dX7_put_19
  · have h := hq_f h c3
    refine lv_aload_n hx hb dX7_put_7 rfl (lv_at hl 0 rfl) ?_
    obtain ⟨v4, g5, h⟩ := hq_bind h
    obtain ⟨fs_g5, hs_g5, hv_g5⟩ := gI_at g5
    refine hq_get hx hb hts hown hE hI hs_g5 inG7 rfl 6 (by decide) kw_101 hv_g5 dX7_put_8 ?_
    refine lv_aload_n hx hb dX7_put_11 rfl (lv_at hl 0 rfl) ?_
    obtain ⟨b6, g7, h⟩ := hq_bind h
    obtain ⟨fs_g7, hs_g7, hv_g7⟩ := gR_at g7
    refine hq_get hx hb hts hown hE hI hs_g7 inG7 rfl 2 (by decide) kw_97 hv_g7 dX7_put_12 ?_
    obtain ⟨v8, g9, h⟩ := hq_bind h
    refine hq_alen hx hb hE hI g9 dX7_put_15 ?_
    refine lv_icmp_lt (tgt := 20) hx hb dX7_put_16 (by decide) (fun c10 => ?_) (fun c10 => ?_)
    · have h := hq_t h c10
      refine lv_aload_n hx hb dX7_put_20 rfl (lv_at hl 0 rfl) ?_
      obtain ⟨b11, g12, h⟩ := hq_bind h
      obtain ⟨fs_g12, hs_g12, hv_g12⟩ := gR_at g12
      refine hq_get hx hb hts hown hE hI hs_g12 inG7 rfl 2 (by decide) kw_97 hv_g12 dX7_put_21 ?_
      refine lv_aload_n hx hb dX7_put_24 rfl (lv_at hl 0 rfl) ?_
      obtain ⟨v13, g14, h⟩ := hq_bind h
      obtain ⟨fs_g14, hs_g14, hv_g14⟩ := gI_at g14
      refine hq_get hx hb hts hown hE hI hs_g14 inG7 rfl 6 (by decide) kw_101 hv_g14 dX7_put_25 ?_
      refine lv_iload_n hx hb dX7_put_28 rfl (lv_at hl 1 rfl) ?_
      obtain ⟨S16, g15, h⟩ := hq_bind h
      refine hq_iast hx hb hE hI g15 dX7_put_29 (fun H locs hI => ?_)
      refine lv_aload_n hx hb dX7_put_30 rfl (lv_at hl 0 rfl) ?_
      refine lv_dup hx hb dX7_put_31 rfl ?_
      obtain ⟨v17, g18, h⟩ := hq_bind h
      obtain ⟨fs_g18, hs_g18, hv_g18⟩ := gI_at g18
      refine hq_get hx hb hts hown hE hI hs_g18 inG7 rfl 6 (by decide) kw_101 hv_g18 dX7_put_32 ?_
      refine lv_iconst (v := 1) hx hb dX7_put_35 (by decide) ?_
      refine lv_iadd hx hb dX7_put_36 ?_
      obtain ⟨S19, g20, h⟩ := hq_bind h
      obtain ⟨fs_g20, hs_g20, hl_g20, e_g20⟩ := pV_at g20
      refine hq_put hx hb hts hown hE hI hs_g20 inG7 tyX7 tyX7_ok nmX7 rfl 6 (by decide) kw_101 rfl (v := .int (v17 + 1)) rfl rfl rfl hl_g20 e_g20 dX7_put_37 (fun H locs hI => ?_)
      refine lv_aload_n hx hb dX7_put_40 rfl (lv_at hl 0 rfl) ?_
      obtain ⟨v21, g22, h⟩ := hq_bind h
      obtain ⟨fs_g22, hs_g22, hv_g22⟩ := gI_at g22
      refine hq_get hx hb hts hown hE hI hs_g22 inG7 rfl 7 (by decide) kw_102 hv_g22 dX7_put_41 ?_
      refine lv_if_le (tgt := 74) hx hb dX7_put_44 (by decide) (fun c23 => ?_) (fun c23 => ?_)
      · have h := hq_t h c23
        exact hq_vret hx hb hr hlocks h0 hI h dX7_put_74
      · have h := hq_f h c23
        refine lv_aload_n hx hb dX7_put_47 rfl (lv_at hl 0 rfl) ?_
        obtain ⟨v24, g25, h⟩ := hq_bind h
        obtain ⟨fs_g25, hs_g25, hv_g25⟩ := gI_at g25
        refine hq_get hx hb hts hown hE hI hs_g25 inG7 rfl 7 (by decide) kw_102 hv_g25 dX7_put_48 ?_
        refine lv_aload_n hx hb dX7_put_51 rfl (lv_at hl 0 rfl) ?_
        obtain ⟨b26, g27, h⟩ := hq_bind h
        obtain ⟨fs_g27, hs_g27, hv_g27⟩ := gR_at g27
        refine hq_get hx hb hts hown hE hI hs_g27 inG7 rfl 5 (by decide) kw_100 hv_g27 dX7_put_52 ?_
        obtain ⟨v28, g29, h⟩ := hq_bind h
        refine hq_alen hx hb hE hI g29 dX7_put_55 ?_
        refine lv_icmp_gt (tgt := 74) hx hb dX7_put_56 (by decide) (fun c30 => ?_) (fun c30 => ?_)
        · have h := hq_t h c30
          exact hq_vret hx hb hr hlocks h0 hI h dX7_put_74
        · have h := hq_f h c30
          refine lv_aload_n hx hb dX7_put_59 rfl (lv_at hl 0 rfl) ?_
          obtain ⟨b31, g32, h⟩ := hq_bind h
          obtain ⟨fs_g32, hs_g32, hv_g32⟩ := gR_at g32
          refine hq_get hx hb hts hown hE hI hs_g32 inG7 rfl 5 (by decide) kw_100 hv_g32 dX7_put_60 ?_
          refine lv_aload_n hx hb dX7_put_63 rfl (lv_at hl 0 rfl) ?_
          obtain ⟨v33, g34, h⟩ := hq_bind h
          obtain ⟨fs_g34, hs_g34, hv_g34⟩ := gI_at g34
          refine hq_get hx hb hts hown hE hI hs_g34 inG7 rfl 7 (by decide) kw_102 hv_g34 dX7_put_64 ?_
          refine lv_iconst (v := 1) hx hb dX7_put_67 (by decide) ?_
          refine lv_isub hx hb dX7_put_68 ?_
          refine lv_aload_n hx hb dX7_put_69 rfl (lv_at hl 0 rfl) ?_
          obtain ⟨v35, g36, h⟩ := hq_bind h
          obtain ⟨fs_g36, hs_g36, hv_g36⟩ := gI_at g36
          refine hq_get hx hb hts hown hE hI hs_g36 inG7 rfl 6 (by decide) kw_101 hv_g36 dX7_put_70 ?_
          obtain ⟨S38, g37, h⟩ := hq_bind h
          refine hq_iast hx hb hE hI g37 dX7_put_73 (fun H locs hI => ?_)
          exact hq_vret hx hb hr hlocks h0 hI h dX7_put_74
    · have h := hq_f h c10
      exact hq_vret hx hb hr hlocks h0 hI h dX7_put_19
-- RodDips$Text.testHolds(ILRodDips$Try;I)Z
theorem dX7_testHolds_0 : decode cX7_testHolds 0 = .ok (.aload_n 1, 1) := by decide +kernel
theorem dX7_testHolds_1 : decode cX7_testHolds 1 = .ok (.iload_n 0, 1) := by decide +kernel
theorem dX7_testHolds_2 : decode cX7_testHolds 2 = .ok (.bipush 9, 2) := by decide +kernel
theorem dX7_testHolds_4 : decode cX7_testHolds 4 = .ok (.ishr, 1) := by decide +kernel
theorem dX7_testHolds_5 : decode cX7_testHolds 5 = .ok (.iload_n 2, 1) := by decide +kernel
theorem dX7_testHolds_6 : decode cX7_testHolds 6 = .ok (.invokevirtual 91, 3) := by decide +kernel
theorem dX7_testHolds_9 : decode cX7_testHolds 9 = .ok (.istore_n 3, 1) := by decide +kernel
theorem dX7_testHolds_10 : decode cX7_testHolds 10 = .ok (.iload_n 0, 1) := by decide +kernel
theorem dX7_testHolds_11 : decode cX7_testHolds 11 = .ok (.bipush 127, 2) := by decide +kernel
theorem dX7_testHolds_13 : decode cX7_testHolds 13 = .ok (.iand, 1) := by decide +kernel
theorem dX7_testHolds_14 : decode cX7_testHolds 14 = .ok (.istore 4, 2) := by decide +kernel
theorem dX7_testHolds_16 : decode cX7_testHolds 16 = .ok (.iload_n 0, 1) := by decide +kernel
theorem dX7_testHolds_17 : decode cX7_testHolds 17 = .ok (.bipush 7, 2) := by decide +kernel
theorem dX7_testHolds_19 : decode cX7_testHolds 19 = .ok (.ishr, 1) := by decide +kernel
theorem dX7_testHolds_20 : decode cX7_testHolds 20 = .ok (.iconst 3, 1) := by decide +kernel
theorem dX7_testHolds_21 : decode cX7_testHolds 21 = .ok (.iand, 1) := by decide +kernel
theorem dX7_testHolds_22 : decode cX7_testHolds 22 = .ok (.lookupswitch 50 #[(0, 26), (1, 38)], 26) := by decide +kernel
theorem dX7_testHolds_48 : decode cX7_testHolds 48 = .ok (.iload_n 3, 1) := by decide +kernel
theorem dX7_testHolds_49 : decode cX7_testHolds 49 = .ok (.iload 4, 2) := by decide +kernel
theorem dX7_testHolds_51 : decode cX7_testHolds 51 = .ok (.if_icmp .ge 7, 3) := by decide +kernel
theorem dX7_testHolds_54 : decode cX7_testHolds 54 = .ok (.iconst 1, 1) := by decide +kernel
theorem dX7_testHolds_55 : decode cX7_testHolds 55 = .ok (.goto 4, 3) := by decide +kernel
theorem dX7_testHolds_58 : decode cX7_testHolds 58 = .ok (.iconst 0, 1) := by decide +kernel
theorem dX7_testHolds_59 : decode cX7_testHolds 59 = .ok (.ireturn, 1) := by decide +kernel
theorem dX7_testHolds_60 : decode cX7_testHolds 60 = .ok (.iload_n 3, 1) := by decide +kernel
theorem dX7_testHolds_61 : decode cX7_testHolds 61 = .ok (.iload 4, 2) := by decide +kernel
theorem dX7_testHolds_63 : decode cX7_testHolds 63 = .ok (.if_icmp .ne 7, 3) := by decide +kernel
theorem dX7_testHolds_66 : decode cX7_testHolds 66 = .ok (.iconst 1, 1) := by decide +kernel
theorem dX7_testHolds_67 : decode cX7_testHolds 67 = .ok (.goto 4, 3) := by decide +kernel
theorem dX7_testHolds_70 : decode cX7_testHolds 70 = .ok (.iconst 0, 1) := by decide +kernel
theorem dX7_testHolds_71 : decode cX7_testHolds 71 = .ok (.ireturn, 1) := by decide +kernel
theorem dX7_testHolds_72 : decode cX7_testHolds 72 = .ok (.iload_n 3, 1) := by decide +kernel
theorem dX7_testHolds_73 : decode cX7_testHolds 73 = .ok (.iload 4, 2) := by decide +kernel
theorem dX7_testHolds_75 : decode cX7_testHolds 75 = .ok (.if_icmp .le 7, 3) := by decide +kernel
theorem dX7_testHolds_78 : decode cX7_testHolds 78 = .ok (.iconst 1, 1) := by decide +kernel
theorem dX7_testHolds_79 : decode cX7_testHolds 79 = .ok (.goto 4, 3) := by decide +kernel
theorem dX7_testHolds_82 : decode cX7_testHolds 82 = .ok (.iconst 0, 1) := by decide +kernel
theorem dX7_testHolds_83 : decode cX7_testHolds 83 = .ok (.ireturn, 1) := by decide +kernel
def fv_X9_valueOf (S : HSt) (a0 : Nat) (a1 : Int32) (a2 : Int32) : Option (Int32 × HSt) := oC (gC S a0) none fun k => if k = 0 then f_X9_valueOf S a0 a1 a2 else if k = 1 then f_X9_valueOf S a0 a1 a2 else if k = 2 then f_X9_valueOf S a0 a1 a2 else if k = 3 then f_X9_valueOf S a0 a1 a2 else if k = 5 then f_X9_valueOf S a0 a1 a2 else if k = 9 then f_X9_valueOf S a0 a1 a2 else if k = 10 then f_X9_valueOf S a0 a1 a2 else none
def f_X7_testHolds (S : HSt) (a0 : Int32) (a1 : Nat) (a2 : Int32) : Option (Int32 × HSt) := bd2 (fv_X9_valueOf S a1 (a0 >>> (9 &&& 31)) a2) fun v3 S2 => if ((a0 >>> (7 &&& 31)) &&& 3) = 0 then (if (a0 &&& 127) ≤ v3 then (some (0, S2)) else (some (1, S2))) else (if ((a0 >>> (7 &&& 31)) &&& 3) = 1 then (if v3 = (a0 &&& 127) then (some (1, S2)) else (some (0, S2))) else (if v3 ≤ (a0 &&& 127) then (some (0, S2)) else (some (1, S2))))
abbrev rm_X7_testHolds : Room := { frames := 1, cells := 0, slots := 0, locals := 22 }
abbrev w_X7_testHolds : List Cond := Cond.code yX7_testHolds cX7_testHolds 5 (Option.some FieldType.boolean) :: lwG
theorem yd_X7_testHolds : yX7_testHolds.cls ≠ "java/lang/invoke/MethodHandle" ∧ yX7_testHolds.cls ≠ "java/lang/invoke/VarHandle" ∧ (parseMethodDescriptor yX7_testHolds.desc).map (fun d => d.parameters.length) = some 3 := by decide +kernel
set_option maxHeartbeats 4000000 in
set_option maxRecDepth 100000 in
theorem c_X7_testHolds (l : Launch) (D : va_G) (kA ρ : Nat → Nat) (HB : Heap) (S : HSt) (a0 : Int32) (a1 : Nat) (a2 : Int32) (res : Int32 × HSt) (h : f_X7_testHolds S a0 a1 a2 = some res) : Met l yX7_testHolds w_X7_testHolds rm_X7_testHolds (hPc D kA ρ HB S [.int a0, .ref a1, .int a2]) (hQi D kA HB S res) 0 0 (hFree HB) := by
  refine Met.ofW (cc := cX7_testHolds) (maxL := 5) (ret := (Option.some FieldType.boolean)) (by decide) rfl ?_
  intro p e s m args below meth c s₁ B hml hv
  obtain ⟨rfl, hE, h0⟩ := hv
  have hx := B.exec
  have hb := B.bytes
  have hr := B.returns
  have hts0 := atoms_spec (ws := w_X7_testHolds) B.pre
  have hts : ∀ w ∈ lwG, w.before _ s = true := fun w hw => hts0 w (List.mem_cons_of_mem _ hw)
  have hown : s.vm.findClass RX7 = some m.cls := findClass_of_methodNamed B.named
  have hlocks := B.notSynchronized
  have hI : hqX D kA HB S.2 S s.heap [] := ⟨h0, Nat.le_refl _, fun _ q => absurd q List.not_mem_nil⟩
  generalize s.heap = H at hI ⊢
  generalize ([] : List Loc) = locs at hI ⊢
  have hl := lv_entry ([.int a0, .ref a1, .int a2]) (n := 5) (Nat.le_of_ble_eq_true rfl)
  rw [lg_entry_eq]
  generalize (lg_sl ([.int a0, .ref a1, .int a2]) ++ List.replicate (5 - (lg_sl ([.int a0, .ref a1, .int a2])).length) Slot.unset).toArray = ls at hl ⊢
  have hl : lv_has ls 5 [(0, .int a0), (1, .ref a1), (2, .int a2)] := hl
  unfold f_X7_testHolds at h
  refine lv_aload_n hx hb dX7_testHolds_0 rfl (lv_at hl 1 rfl) ?_
  refine lv_iload_n hx hb dX7_testHolds_1 rfl (lv_at hl 0 rfl) ?_
  refine lv_bipush (v := 9) hx hb dX7_testHolds_2 (by decide) ?_
  refine lv_ishr hx hb dX7_testHolds_4 ?_
  refine lv_iload_n hx hb dX7_testHolds_5 rfl (lv_at hl 2 rfl) ?_
  obtain ⟨v3, S2, g1, h⟩ := hq_bd2 h
  have hrun_g1 : va_Run p l e rm_X7_testHolds s m ([.int a0, .ref a1, .int a2] : List Value).toArray below meth c H locs 0 0 0 0 (F0 m 6 ls [.int a2, .int (a0 >>> (9 &&& 31)), .ref a1]) [] (hQi D kA HB S (v3, S2) ([.ref a1, .int (a0 >>> (9 &&& 31)), .int a2] : List Value).toArray) (hFree HB) := by
    unfold fv_X9_valueOf at g1
    rcases hk_g1 : gC S a1 with _ | k_g1
    · rw [hk_g1] at g1
      cases g1
    · rw [hk_g1] at g1
      have g1 := oC_s g1
      by_cases k0_g1 : k_g1 = 0
      · subst k0_g1
        have g1 := hq_t g1 rfl
        exact va_runU (As := [.int (a0 >>> (9 &&& 31)), .int a2]) (rest := []) ⟨hx, hb, hml, hown, hts⟩ (c_X9_valueOf l D kA ρ HB S a1 (a0 >>> (9 &&& 31)) a2 _ g1) (va_cwU 2 hts (gdIn (List.forall_mem_cons.mpr ⟨kw_576, (List.forall_mem_cons.mpr ⟨kw_579, (List.forall_mem_cons.mpr ⟨kw_580, (List.forall_mem_cons.mpr ⟨kw_577, (List.forall_mem_cons.mpr ⟨kw_7, (fun _ h => absurd h List.not_mem_nil)⟩)⟩)⟩)⟩)⟩) kw_586) rfl rfl rfl rfl (by decide +kernel) ⟨Nat.le_of_ble_eq_true rfl, Nat.le_of_ble_eq_true rfl⟩) (hq_preC hE hI hk_g1 rfl _) rfl rfl hl.1 rfl (lv_room (Nat.le_of_ble_eq_true rfl)) dX7_testHolds_6 ⟨Nat.le_of_ble_eq_true rfl, Nat.le_of_ble_eq_true rfl⟩
      have g1 := hq_f g1 k0_g1
      by_cases k1_g1 : k_g1 = 1
      · subst k1_g1
        have g1 := hq_t g1 rfl
        exact va_runU (As := [.int (a0 >>> (9 &&& 31)), .int a2]) (rest := []) ⟨hx, hb, hml, hown, hts⟩ (c_X9_valueOf l D kA ρ HB S a1 (a0 >>> (9 &&& 31)) a2 _ g1) (va_cwU 2 hts (gdIn (List.forall_mem_cons.mpr ⟨kw_576, (List.forall_mem_cons.mpr ⟨kw_579, (List.forall_mem_cons.mpr ⟨kw_581, (List.forall_mem_cons.mpr ⟨kw_577, (List.forall_mem_cons.mpr ⟨kw_7, (fun _ h => absurd h List.not_mem_nil)⟩)⟩)⟩)⟩)⟩) kw_586) rfl rfl rfl rfl (by decide +kernel) ⟨Nat.le_of_ble_eq_true rfl, Nat.le_of_ble_eq_true rfl⟩) (hq_preC hE hI hk_g1 rfl _) rfl rfl hl.1 rfl (lv_room (Nat.le_of_ble_eq_true rfl)) dX7_testHolds_6 ⟨Nat.le_of_ble_eq_true rfl, Nat.le_of_ble_eq_true rfl⟩
      have g1 := hq_f g1 k1_g1
      by_cases k2_g1 : k_g1 = 2
      · subst k2_g1
        have g1 := hq_t g1 rfl
        exact va_runU (As := [.int (a0 >>> (9 &&& 31)), .int a2]) (rest := []) ⟨hx, hb, hml, hown, hts⟩ (c_X9_valueOf l D kA ρ HB S a1 (a0 >>> (9 &&& 31)) a2 _ g1) (va_cwU 2 hts (gdIn (List.forall_mem_cons.mpr ⟨kw_576, (List.forall_mem_cons.mpr ⟨kw_579, (List.forall_mem_cons.mpr ⟨kw_582, (List.forall_mem_cons.mpr ⟨kw_577, (List.forall_mem_cons.mpr ⟨kw_7, (fun _ h => absurd h List.not_mem_nil)⟩)⟩)⟩)⟩)⟩) kw_586) rfl rfl rfl rfl (by decide +kernel) ⟨Nat.le_of_ble_eq_true rfl, Nat.le_of_ble_eq_true rfl⟩) (hq_preC hE hI hk_g1 rfl _) rfl rfl hl.1 rfl (lv_room (Nat.le_of_ble_eq_true rfl)) dX7_testHolds_6 ⟨Nat.le_of_ble_eq_true rfl, Nat.le_of_ble_eq_true rfl⟩
      have g1 := hq_f g1 k2_g1
      by_cases k3_g1 : k_g1 = 3
      · subst k3_g1
        have g1 := hq_t g1 rfl
        exact va_runU (As := [.int (a0 >>> (9 &&& 31)), .int a2]) (rest := []) ⟨hx, hb, hml, hown, hts⟩ (c_X9_valueOf l D kA ρ HB S a1 (a0 >>> (9 &&& 31)) a2 _ g1) (va_cwU 2 hts (gdIn (List.forall_mem_cons.mpr ⟨kw_576, (List.forall_mem_cons.mpr ⟨kw_579, (List.forall_mem_cons.mpr ⟨kw_583, (List.forall_mem_cons.mpr ⟨kw_577, (List.forall_mem_cons.mpr ⟨kw_7, (fun _ h => absurd h List.not_mem_nil)⟩)⟩)⟩)⟩)⟩) kw_586) rfl rfl rfl rfl (by decide +kernel) ⟨Nat.le_of_ble_eq_true rfl, Nat.le_of_ble_eq_true rfl⟩) (hq_preC hE hI hk_g1 rfl _) rfl rfl hl.1 rfl (lv_room (Nat.le_of_ble_eq_true rfl)) dX7_testHolds_6 ⟨Nat.le_of_ble_eq_true rfl, Nat.le_of_ble_eq_true rfl⟩
      have g1 := hq_f g1 k3_g1
      by_cases k5_g1 : k_g1 = 5
      · subst k5_g1
        have g1 := hq_t g1 rfl
        exact va_runU (As := [.int (a0 >>> (9 &&& 31)), .int a2]) (rest := []) ⟨hx, hb, hml, hown, hts⟩ (c_X9_valueOf l D kA ρ HB S a1 (a0 >>> (9 &&& 31)) a2 _ g1) (va_cwU 2 hts (gdIn (List.forall_mem_cons.mpr ⟨kw_576, (List.forall_mem_cons.mpr ⟨kw_579, (List.forall_mem_cons.mpr ⟨kw_584, (List.forall_mem_cons.mpr ⟨kw_577, (List.forall_mem_cons.mpr ⟨kw_7, (fun _ h => absurd h List.not_mem_nil)⟩)⟩)⟩)⟩)⟩) kw_586) rfl rfl rfl rfl (by decide +kernel) ⟨Nat.le_of_ble_eq_true rfl, Nat.le_of_ble_eq_true rfl⟩) (hq_preC hE hI hk_g1 rfl _) rfl rfl hl.1 rfl (lv_room (Nat.le_of_ble_eq_true rfl)) dX7_testHolds_6 ⟨Nat.le_of_ble_eq_true rfl, Nat.le_of_ble_eq_true rfl⟩
      have g1 := hq_f g1 k5_g1
      by_cases k9_g1 : k_g1 = 9
      · subst k9_g1
        have g1 := hq_t g1 rfl
        exact va_runV (As := [.int (a0 >>> (9 &&& 31)), .int a2]) (rest := []) ⟨hx, hb, hml, hown, hts⟩ (c_X9_valueOf l D kA ρ HB S a1 (a0 >>> (9 &&& 31)) a2 _ g1) (cwV 2 hts (gdIn (List.forall_mem_cons.mpr ⟨kw_576, (List.forall_mem_cons.mpr ⟨kw_577, (List.forall_mem_cons.mpr ⟨kw_578, (List.forall_mem_cons.mpr ⟨kw_7, (fun _ h => absurd h List.not_mem_nil)⟩)⟩)⟩)⟩) kw_586) rfl rfl rfl ye_X9_valueOf ⟨Nat.le_of_ble_eq_true rfl, Nat.le_of_ble_eq_true rfl⟩) (hq_preC hE hI hk_g1 rfl _) rfl rfl hl.1 rfl (lv_room (Nat.le_of_ble_eq_true rfl)) dX7_testHolds_6 ⟨Nat.le_of_ble_eq_true rfl, Nat.le_of_ble_eq_true rfl⟩
      have g1 := hq_f g1 k9_g1
      by_cases k10_g1 : k_g1 = 10
      · subst k10_g1
        have g1 := hq_t g1 rfl
        exact va_runU (As := [.int (a0 >>> (9 &&& 31)), .int a2]) (rest := []) ⟨hx, hb, hml, hown, hts⟩ (c_X9_valueOf l D kA ρ HB S a1 (a0 >>> (9 &&& 31)) a2 _ g1) (va_cwU 2 hts (gdIn (List.forall_mem_cons.mpr ⟨kw_576, (List.forall_mem_cons.mpr ⟨kw_579, (List.forall_mem_cons.mpr ⟨kw_585, (List.forall_mem_cons.mpr ⟨kw_577, (List.forall_mem_cons.mpr ⟨kw_7, (fun _ h => absurd h List.not_mem_nil)⟩)⟩)⟩)⟩)⟩) kw_586) rfl rfl rfl rfl (by decide +kernel) ⟨Nat.le_of_ble_eq_true rfl, Nat.le_of_ble_eq_true rfl⟩) (hq_preC hE hI hk_g1 rfl _) rfl rfl hl.1 rfl (lv_room (Nat.le_of_ble_eq_true rfl)) dX7_testHolds_6 ⟨Nat.le_of_ble_eq_true rfl, Nat.le_of_ble_eq_true rfl⟩
      have g1 := hq_f g1 k10_g1
      cases g1
  refine hq_calli hI hrun_g1 (fun H locs hI => ?_)
  refine lv_istore_n (lv' := [(3, .int v3), (0, .int a0), (1, .ref a1), (2, .int a2)]) hx hb dX7_testHolds_9 rfl hl (by decide) rfl (fun ls hl => ?_)
  refine lv_iload_n hx hb dX7_testHolds_10 rfl (lv_at hl 1 rfl) ?_
  refine lv_bipush (v := 127) hx hb dX7_testHolds_11 (by decide) ?_
  refine lv_iand hx hb dX7_testHolds_13 ?_
  refine lv_istore (lv' := [(4, .int (a0 &&& 127)), (3, .int v3), (0, .int a0), (1, .ref a1), (2, .int a2)]) hx hb dX7_testHolds_14 hl (by decide) rfl (fun ls hl => ?_)
  refine lv_iload_n hx hb dX7_testHolds_16 rfl (lv_at hl 2 rfl) ?_
  refine lv_bipush (v := 7) hx hb dX7_testHolds_17 (by decide) ?_
  refine lv_ishr hx hb dX7_testHolds_19 ?_
  refine lv_iconst (v := 3) hx hb dX7_testHolds_20 (by decide) ?_
  refine lv_iand hx hb dX7_testHolds_21 ?_
  by_cases c4 : ((a0 >>> (7 &&& 31)) &&& 3) = 0
  · have h := hq_t h c4
    refine lv_lookup (off := 26) (tgt := 48) hx hb dX7_testHolds_22 (by decide) (by rw [c4]; first | done | rfl) (by decide) ?_
    refine lv_iload_n hx hb dX7_testHolds_48 rfl (lv_at hl 1 rfl) ?_
    refine lv_iload hx hb dX7_testHolds_49 (lv_at hl 0 rfl) ?_
    refine lv_icmp_ge (tgt := 58) hx hb dX7_testHolds_51 (by decide) (fun c6 => ?_) (fun c6 => ?_)
    · have h := hq_t h c6
      refine lv_iconst (v := 0) hx hb dX7_testHolds_58 (by decide) ?_
      exact hq_zret hx hb hr hlocks h0 hI (by decide) h dX7_testHolds_59
    · have h := hq_f h c6
      refine lv_iconst (v := 1) hx hb dX7_testHolds_54 (by decide) ?_
      refine lv_goto (tgt := 59) hx hb dX7_testHolds_55 (by decide) ?_
      exact hq_zret hx hb hr hlocks h0 hI (by decide) h dX7_testHolds_59
  have h := hq_f h c4
  by_cases c5 : ((a0 >>> (7 &&& 31)) &&& 3) = 1
  · have h := hq_t h c5
    refine lv_lookup (off := 38) (tgt := 60) hx hb dX7_testHolds_22 (by decide) (by rw [c5]; first | done | rfl) (by decide) ?_
    refine lv_iload_n hx hb dX7_testHolds_60 rfl (lv_at hl 1 rfl) ?_
    refine lv_iload hx hb dX7_testHolds_61 (lv_at hl 0 rfl) ?_
    refine lv_icmp_ne (tgt := 70) hx hb dX7_testHolds_63 (by decide) (fun c7 => ?_) (fun c7 => ?_)
    · have h := hq_f h c7
      refine lv_iconst (v := 0) hx hb dX7_testHolds_70 (by decide) ?_
      exact hq_zret hx hb hr hlocks h0 hI (by decide) h dX7_testHolds_71
    · have h := hq_t h c7
      refine lv_iconst (v := 1) hx hb dX7_testHolds_66 (by decide) ?_
      refine lv_goto (tgt := 71) hx hb dX7_testHolds_67 (by decide) ?_
      exact hq_zret hx hb hr hlocks h0 hI (by decide) h dX7_testHolds_71
  have h := hq_f h c5
  refine lv_lookup (off := 50) (tgt := 72) hx hb dX7_testHolds_22 (by decide) (by rw [lv_osw c4 (by decide), lv_osw c5 (by decide)]; first | done | rfl) (by decide) ?_
  refine lv_iload_n hx hb dX7_testHolds_72 rfl (lv_at hl 1 rfl) ?_
  refine lv_iload hx hb dX7_testHolds_73 (lv_at hl 0 rfl) ?_
  refine lv_icmp_le (tgt := 82) hx hb dX7_testHolds_75 (by decide) (fun c8 => ?_) (fun c8 => ?_)
  · have h := hq_t h c8
    refine lv_iconst (v := 0) hx hb dX7_testHolds_82 (by decide) ?_
    exact hq_zret hx hb hr hlocks h0 hI (by decide) h dX7_testHolds_83
  · have h := hq_f h c8
    refine lv_iconst (v := 1) hx hb dX7_testHolds_78 (by decide) ?_
    refine lv_goto (tgt := 83) hx hb dX7_testHolds_79 (by decide) ?_
    exact hq_zret hx hb hr hlocks h0 hI (by decide) h dX7_testHolds_83
-- RodDips$Text.holds(ILRodDips$Try;I)Z
theorem dX7_holds_0 : decode cX7_holds 0 = .ok (.iload_n 1, 1) := by decide +kernel
theorem dX7_holds_1 : decode cX7_holds 1 = .ok (.ifCond .lt 12, 3) := by decide +kernel
theorem dX7_holds_4 : decode cX7_holds 4 = .ok (.iload_n 1, 1) := by decide +kernel
theorem dX7_holds_5 : decode cX7_holds 5 = .ok (.aload_n 0, 1) := by decide +kernel
theorem dX7_holds_6 : decode cX7_holds 6 = .ok (.getfield 21, 3) := by decide +kernel
theorem dX7_holds_9 : decode cX7_holds 9 = .ok (.arraylength, 1) := by decide +kernel
theorem dX7_holds_10 : decode cX7_holds 10 = .ok (.if_icmp .lt 5, 3) := by decide +kernel
theorem dX7_holds_13 : decode cX7_holds 13 = .ok (.iconst 0, 1) := by decide +kernel
theorem dX7_holds_14 : decode cX7_holds 14 = .ok (.ireturn, 1) := by decide +kernel
theorem dX7_holds_15 : decode cX7_holds 15 = .ok (.iconst 0, 1) := by decide +kernel
theorem dX7_holds_16 : decode cX7_holds 16 = .ok (.istore 4, 2) := by decide +kernel
theorem dX7_holds_18 : decode cX7_holds 18 = .ok (.iload_n 1, 1) := by decide +kernel
theorem dX7_holds_19 : decode cX7_holds 19 = .ok (.ifCond .ne 7, 3) := by decide +kernel
theorem dX7_holds_22 : decode cX7_holds 22 = .ok (.iconst 0, 1) := by decide +kernel
theorem dX7_holds_23 : decode cX7_holds 23 = .ok (.goto 11, 3) := by decide +kernel
theorem dX7_holds_26 : decode cX7_holds 26 = .ok (.aload_n 0, 1) := by decide +kernel
theorem dX7_holds_27 : decode cX7_holds 27 = .ok (.getfield 21, 3) := by decide +kernel
theorem dX7_holds_30 : decode cX7_holds 30 = .ok (.iload_n 1, 1) := by decide +kernel
theorem dX7_holds_31 : decode cX7_holds 31 = .ok (.iconst 1, 1) := by decide +kernel
theorem dX7_holds_32 : decode cX7_holds 32 = .ok (.isub, 1) := by decide +kernel
theorem dX7_holds_33 : decode cX7_holds 33 = .ok (.iaload, 1) := by decide +kernel
theorem dX7_holds_34 : decode cX7_holds 34 = .ok (.istore 5, 2) := by decide +kernel
theorem dX7_holds_36 : decode cX7_holds 36 = .ok (.iload 5, 2) := by decide +kernel
theorem dX7_holds_38 : decode cX7_holds 38 = .ok (.ifCond .lt 123, 3) := by decide +kernel
theorem dX7_holds_41 : decode cX7_holds 41 = .ok (.iload 5, 2) := by decide +kernel
theorem dX7_holds_43 : decode cX7_holds 43 = .ok (.aload_n 0, 1) := by decide +kernel
theorem dX7_holds_44 : decode cX7_holds 44 = .ok (.getfield 21, 3) := by decide +kernel
theorem dX7_holds_47 : decode cX7_holds 47 = .ok (.iload_n 1, 1) := by decide +kernel
theorem dX7_holds_48 : decode cX7_holds 48 = .ok (.iaload, 1) := by decide +kernel
theorem dX7_holds_49 : decode cX7_holds 49 = .ok (.if_icmp .ge 112, 3) := by decide +kernel
theorem dX7_holds_52 : decode cX7_holds 52 = .ok (.iload 5, 2) := by decide +kernel
theorem dX7_holds_54 : decode cX7_holds 54 = .ok (.aload_n 0, 1) := by decide +kernel
theorem dX7_holds_55 : decode cX7_holds 55 = .ok (.getfield 9, 3) := by decide +kernel
theorem dX7_holds_58 : decode cX7_holds 58 = .ok (.arraylength, 1) := by decide +kernel
theorem dX7_holds_59 : decode cX7_holds 59 = .ok (.if_icmp .ge 102, 3) := by decide +kernel
theorem dX7_holds_62 : decode cX7_holds 62 = .ok (.aload_n 0, 1) := by decide +kernel
theorem dX7_holds_63 : decode cX7_holds 63 = .ok (.getfield 9, 3) := by decide +kernel
theorem dX7_holds_66 : decode cX7_holds 66 = .ok (.iload 5, 2) := by decide +kernel
theorem dX7_holds_68 : decode cX7_holds 68 = .ok (.iaload, 1) := by decide +kernel
theorem dX7_holds_69 : decode cX7_holds 69 = .ok (.istore 6, 2) := by decide +kernel
theorem dX7_holds_71 : decode cX7_holds 71 = .ok (.iload 4, 2) := by decide +kernel
theorem dX7_holds_73 : decode cX7_holds 73 = .ok (.iconst 1, 1) := by decide +kernel
theorem dX7_holds_74 : decode cX7_holds 74 = .ok (.iand, 1) := by decide +kernel
theorem dX7_holds_75 : decode cX7_holds 75 = .ok (.istore 7, 2) := by decide +kernel
theorem dX7_holds_77 : decode cX7_holds 77 = .ok (.iload 6, 2) := by decide +kernel
theorem dX7_holds_79 : decode cX7_holds 79 = .ok (.bipush (-3), 2) := by decide +kernel
theorem dX7_holds_81 : decode cX7_holds 81 = .ok (.if_icmp .ne 12, 3) := by decide +kernel
theorem dX7_holds_84 : decode cX7_holds 84 = .ok (.iload 4, 2) := by decide +kernel
theorem dX7_holds_86 : decode cX7_holds 86 = .ok (.iconst 1, 1) := by decide +kernel
theorem dX7_holds_87 : decode cX7_holds 87 = .ok (.ixor, 1) := by decide +kernel
theorem dX7_holds_88 : decode cX7_holds 88 = .ok (.istore 4, 2) := by decide +kernel
theorem dX7_holds_90 : decode cX7_holds 90 = .ok (.goto 65, 3) := by decide +kernel
theorem dX7_holds_93 : decode cX7_holds 93 = .ok (.iload 6, 2) := by decide +kernel
theorem dX7_holds_95 : decode cX7_holds 95 = .ok (.iconst (-1), 1) := by decide +kernel
theorem dX7_holds_96 : decode cX7_holds 96 = .ok (.if_icmp .ne 18, 3) := by decide +kernel
theorem dX7_holds_99 : decode cX7_holds 99 = .ok (.iload 4, 2) := by decide +kernel
theorem dX7_holds_101 : decode cX7_holds 101 = .ok (.iconst 1, 1) := by decide +kernel
theorem dX7_holds_102 : decode cX7_holds 102 = .ok (.ishr, 1) := by decide +kernel
theorem dX7_holds_103 : decode cX7_holds 103 = .ok (.iload 7, 2) := by decide +kernel
theorem dX7_holds_105 : decode cX7_holds 105 = .ok (.bipush (-2), 2) := by decide +kernel
theorem dX7_holds_107 : decode cX7_holds 107 = .ok (.ior, 1) := by decide +kernel
theorem dX7_holds_108 : decode cX7_holds 108 = .ok (.iand, 1) := by decide +kernel
theorem dX7_holds_109 : decode cX7_holds 109 = .ok (.istore 4, 2) := by decide +kernel
theorem dX7_holds_111 : decode cX7_holds 111 = .ok (.goto 44, 3) := by decide +kernel
theorem dX7_holds_114 : decode cX7_holds 114 = .ok (.iload 6, 2) := by decide +kernel
theorem dX7_holds_116 : decode cX7_holds 116 = .ok (.bipush (-2), 2) := by decide +kernel
theorem dX7_holds_118 : decode cX7_holds 118 = .ok (.if_icmp .ne 15, 3) := by decide +kernel
theorem dX7_holds_121 : decode cX7_holds 121 = .ok (.iload 4, 2) := by decide +kernel
theorem dX7_holds_123 : decode cX7_holds 123 = .ok (.iconst 1, 1) := by decide +kernel
theorem dX7_holds_124 : decode cX7_holds 124 = .ok (.ishr, 1) := by decide +kernel
theorem dX7_holds_125 : decode cX7_holds 125 = .ok (.iload 7, 2) := by decide +kernel
theorem dX7_holds_127 : decode cX7_holds 127 = .ok (.ior, 1) := by decide +kernel
theorem dX7_holds_128 : decode cX7_holds 128 = .ok (.istore 4, 2) := by decide +kernel
theorem dX7_holds_130 : decode cX7_holds 130 = .ok (.goto 25, 3) := by decide +kernel
theorem dX7_holds_133 : decode cX7_holds 133 = .ok (.iload 4, 2) := by decide +kernel
theorem dX7_holds_135 : decode cX7_holds 135 = .ok (.iconst 1, 1) := by decide +kernel
theorem dX7_holds_136 : decode cX7_holds 136 = .ok (.ishl, 1) := by decide +kernel
theorem dX7_holds_137 : decode cX7_holds 137 = .ok (.iload 6, 2) := by decide +kernel
theorem dX7_holds_139 : decode cX7_holds 139 = .ok (.aload_n 2, 1) := by decide +kernel
theorem dX7_holds_140 : decode cX7_holds 140 = .ok (.iload_n 3, 1) := by decide +kernel
theorem dX7_holds_141 : decode cX7_holds 141 = .ok (.invokestatic 88, 3) := by decide +kernel
theorem dX7_holds_144 : decode cX7_holds 144 = .ok (.ifCond .eq 7, 3) := by decide +kernel
theorem dX7_holds_147 : decode cX7_holds 147 = .ok (.iconst 1, 1) := by decide +kernel
theorem dX7_holds_148 : decode cX7_holds 148 = .ok (.goto 4, 3) := by decide +kernel
theorem dX7_holds_151 : decode cX7_holds 151 = .ok (.iconst 0, 1) := by decide +kernel
theorem dX7_holds_152 : decode cX7_holds 152 = .ok (.ior, 1) := by decide +kernel
theorem dX7_holds_153 : decode cX7_holds 153 = .ok (.istore 4, 2) := by decide +kernel
theorem dX7_holds_155 : decode cX7_holds 155 = .ok (.iinc 5 1, 3) := by decide +kernel
theorem dX7_holds_158 : decode cX7_holds 158 = .ok (.goto (-122), 3) := by decide +kernel
theorem dX7_holds_161 : decode cX7_holds 161 = .ok (.iload 4, 2) := by decide +kernel
theorem dX7_holds_163 : decode cX7_holds 163 = .ok (.iconst 1, 1) := by decide +kernel
theorem dX7_holds_164 : decode cX7_holds 164 = .ok (.iand, 1) := by decide +kernel
theorem dX7_holds_165 : decode cX7_holds 165 = .ok (.iconst 1, 1) := by decide +kernel
theorem dX7_holds_166 : decode cX7_holds 166 = .ok (.if_icmp .ne 7, 3) := by decide +kernel
theorem dX7_holds_169 : decode cX7_holds 169 = .ok (.iconst 1, 1) := by decide +kernel
theorem dX7_holds_170 : decode cX7_holds 170 = .ok (.goto 4, 3) := by decide +kernel
theorem dX7_holds_173 : decode cX7_holds 173 = .ok (.iconst 0, 1) := by decide +kernel
theorem dX7_holds_174 : decode cX7_holds 174 = .ok (.ireturn, 1) := by decide +kernel
def f_X7_holds_K161 (x9 : Int32) (S10 : HSt) : Option (Int32 × HSt) := if (x9 &&& 1) = 1 then (some (1, S10)) else (some (0, S10))
def f_X7_holds_B36 (a0 : Nat) (a1 : Int32) (a2 : Nat) (a3 : Int32) (kx161 : (Int32 → HSt → Option (Int32 × HSt))) (kb36 : (Int32 → Int32 → HSt → Option (Int32 × HSt))) (x12 : Int32) (x13 : Int32) (S14 : HSt) : Option (Int32 × HSt) := if x13 < 0 then (kx161 x12 S14) else ((gR S14 a0 7 5).bind fun b16 => (aI S14 b16 0 a1).bind fun v19 => if v19 ≤ x13 then (kx161 x12 S14) else ((gR S14 a0 7 2).bind fun b21 => (aN S14 b21).bind fun v23 => if v23 ≤ x13 then (kx161 x12 S14) else ((gR S14 a0 7 2).bind fun b26 => (aI S14 b26 0 x13).bind fun v29 => if v29 = (-3) then (kb36 (x12 ^^^ 1) (x13 + 1) S14) else (if v29 = (-1) then (hqn ((x12 >>> (1 &&& 31)) &&& ((x12 &&& 1) ||| (-2))) fun (v37 : Int32) => kb36 v37 (x13 + 1) S14) else (if v29 = (-2) then (kb36 ((x12 >>> (1 &&& 31)) ||| (x12 &&& 1)) (x13 + 1) S14) else (bd2 (f_X7_testHolds S14 v29 a2 a3) fun v35 S34 => if v35 = 0 then (kb36 ((x12 <<< (1 &&& 31)) ||| 0) (x13 + 1) S34) else (kb36 ((x12 <<< (1 &&& 31)) ||| 1) (x13 + 1) S34)))))))
def f_X7_holds_L36 (a0 : Nat) (a1 : Int32) (a2 : Nat) (a3 : Int32) (kx161 : (Int32 → HSt → Option (Int32 × HSt))) : Nat → Int32 → Int32 → HSt → Option (Int32 × HSt)
  | 0, _, _, _ => none
  | n + 1, x12, x13, S => f_X7_holds_B36 a0 a1 a2 a3 kx161 (f_X7_holds_L36 a0 a1 a2 a3 kx161 n) x12 x13 S
def f_X7_holds_J34 (a0 : Nat) (a1 : Int32) (a2 : Nat) (a3 : Int32) (y7 : Int32) (S8 : HSt) : Option (Int32 × HSt) := (f_X7_holds_L36 a0 a1 a2 a3 f_X7_holds_K161 FU) 0 y7 S8
def f_X7_holds (S : HSt) (a0 : Nat) (a1 : Int32) (a2 : Nat) (a3 : Int32) : Option (Int32 × HSt) := if a1 < 0 then (some (0, S)) else ((gR S a0 7 5).bind fun b2 => (aN S b2).bind fun v4 => if a1 < v4 then (if a1 = 0 then ((f_X7_holds_J34 a0 a1 a2 a3) 0 S) else ((gR S a0 7 5).bind fun b39 => (aI S b39 0 (a1 - 1)).bind fun v42 => (f_X7_holds_J34 a0 a1 a2 a3) v42 S)) else (some (0, S)))
abbrev rm_X7_holds : Room := { frames := 2, cells := 0, slots := 0, locals := 46 }
abbrev w_X7_holds : List Cond := Cond.code yX7_holds cX7_holds 8 (Option.some FieldType.boolean) :: lwG
theorem yd_X7_holds : yX7_holds.cls ≠ "java/lang/invoke/MethodHandle" ∧ yX7_holds.cls ≠ "java/lang/invoke/VarHandle" ∧ (parseMethodDescriptor yX7_holds.desc).map (fun d => d.parameters.length) = some 3 := by decide +kernel
theorem ye_X7_holds : yX7_holds.cls = RX7 ∧ yX7_holds.cls ≠ "java/lang/invoke/MethodHandle" ∧ yX7_holds.cls ≠ "java/lang/invoke/VarHandle" ∧ (parseMethodDescriptor yX7_holds.desc).map (fun d => d.parameters.length) = some 3 := by decide +kernel
set_option maxHeartbeats 4000000 in
set_option maxRecDepth 100000 in
theorem c_X7_holds (l : Launch) (D : va_G) (kA ρ : Nat → Nat) (HB : Heap) (S : HSt) (a0 : Nat) (a1 : Int32) (a2 : Nat) (a3 : Int32) (res : Int32 × HSt) (h : f_X7_holds S a0 a1 a2 a3 = some res) : Met l yX7_holds w_X7_holds rm_X7_holds (hPc D kA ρ HB S [.ref a0, .int a1, .ref a2, .int a3]) (hQi D kA HB S res) 0 0 (hFree HB) := by
  refine Met.ofW (cc := cX7_holds) (maxL := 8) (ret := (Option.some FieldType.boolean)) (by decide) rfl ?_
  intro p e s m args below meth c s₁ B hml hv
  obtain ⟨rfl, hE, h0⟩ := hv
  have hx := B.exec
  have hb := B.bytes
  have hr := B.returns
  have hts0 := atoms_spec (ws := w_X7_holds) B.pre
  have hts : ∀ w ∈ lwG, w.before _ s = true := fun w hw => hts0 w (List.mem_cons_of_mem _ hw)
  have hown : s.vm.findClass RX7 = some m.cls := findClass_of_methodNamed B.named
  have hlocks := B.notSynchronized
  have hI : hqX D kA HB S.2 S s.heap [] := ⟨h0, Nat.le_refl _, fun _ q => absurd q List.not_mem_nil⟩
  have hl := lv_entry ([.ref a0, .int a1, .ref a2, .int a3]) (n := 8) (Nat.le_of_ble_eq_true rfl)
  rw [lg_entry_eq]
  generalize (lg_sl ([.ref a0, .int a1, .ref a2, .int a3]) ++ List.replicate (8 - (lg_sl ([.ref a0, .int a1, .ref a2, .int a3])).length) Slot.unset).toArray = ls at hl ⊢
  have hl : lv_has ls 8 [(0, .ref a0), (1, .int a1), (2, .ref a2), (3, .int a3)] := hl
  unfold f_X7_holds at h
  refine lv_iload_n hx hb dX7_holds_0 rfl (lv_at hl 1 rfl) ?_
  refine lv_if_lt (tgt := 13) hx hb dX7_holds_1 (by decide) (fun c1 => ?_) (fun c1 => ?_)
  · have h := hq_t h c1
    refine lv_iconst (v := 0) hx hb dX7_holds_13 (by decide) ?_
    exact hq_zret hx hb hr hlocks h0 hI (by decide) h dX7_holds_14
  · have h := hq_f h c1
    refine lv_iload_n hx hb dX7_holds_4 rfl (lv_at hl 1 rfl) ?_
    refine lv_aload_n hx hb dX7_holds_5 rfl (lv_at hl 0 rfl) ?_
    obtain ⟨b2, g3, h⟩ := hq_bind h
    obtain ⟨fs_g3, hs_g3, hv_g3⟩ := gR_at g3
    refine hq_get hx hb hts hown hE hI hs_g3 inG7 rfl 5 (by decide) kw_100 hv_g3 dX7_holds_6 ?_
    obtain ⟨v4, g5, h⟩ := hq_bind h
    refine hq_alen hx hb hE hI g5 dX7_holds_9 ?_
    refine lv_icmp_lt (tgt := 15) hx hb dX7_holds_10 (by decide) (fun c6 => ?_) (fun c6 => ?_)
    · have h := hq_t h c6
      refine lv_iconst (v := 0) hx hb dX7_holds_15 (by decide) ?_
      refine lv_istore (lv' := [(4, .int 0), (0, .ref a0), (1, .int a1), (2, .ref a2), (3, .int a3)]) hx hb dX7_holds_16 hl (by decide) rfl (fun ls hl => ?_)
      refine lv_iload_n hx hb dX7_holds_18 rfl (lv_at hl 2 rfl) ?_
      have hJ34 : ∀ (y7 : Int32) (S8 : HSt) (H : Heap) (locs : List Loc) (ls : Array Slot), (f_X7_holds_J34 a0 a1 a2 a3) y7 S8 = some res → hqX D kA HB S.2 S8 H locs → lv_has ls 8 [(0, .ref a0), (1, .int a1), (2, .ref a2), (3, .int a3), (4, .int 0)] → W p l e rm_X7_holds s m ([.ref a0, .int a1, .ref a2, .int a3] : List Value).toArray below meth c H locs 0 0 (MQ below (hQi D kA HB S res) ([.ref a0, .int a1, .ref a2, .int a3] : List Value).toArray s 0 0 (hFree HB)) (F0 m 34 ls [.int y7]) := by
        intro y7 S8 H locs ls h hI hl
        unfold f_X7_holds_J34 at h
        refine lv_istore (lv' := [(5, .int y7), (0, .ref a0), (1, .int a1), (2, .ref a2), (3, .int a3), (4, .int 0)]) hx hb dX7_holds_34 hl (by decide) rfl (fun ls hl => ?_)
        have hK161 : ∀ (x9 : Int32) (S10 : HSt) (H : Heap) (locs : List Loc) (ls : Array Slot), f_X7_holds_K161 x9 S10 = some res → hqX D kA HB S.2 S10 H locs → lv_has ls 8 [(4, .int x9)] → W p l e rm_X7_holds s m ([.ref a0, .int a1, .ref a2, .int a3] : List Value).toArray below meth c H locs 0 0 (MQ below (hQi D kA HB S res) ([.ref a0, .int a1, .ref a2, .int a3] : List Value).toArray s 0 0 (hFree HB)) (F0 m 161 ls []) := by
          intro x9 S10 H locs ls h hI hl
          unfold f_X7_holds_K161 at h
          refine lv_iload hx hb dX7_holds_161 (lv_at hl 0 rfl) ?_
          refine lv_iconst (v := 1) hx hb dX7_holds_163 (by decide) ?_
          refine lv_iand hx hb dX7_holds_164 ?_
          refine lv_iconst (v := 1) hx hb dX7_holds_165 (by decide) ?_
          refine lv_icmp_ne (tgt := 173) hx hb dX7_holds_166 (by decide) (fun c11 => ?_) (fun c11 => ?_)
          · have h := hq_f h c11
            refine lv_iconst (v := 0) hx hb dX7_holds_173 (by decide) ?_
            exact hq_zret hx hb hr hlocks h0 hI (by decide) h dX7_holds_174
          · have h := hq_t h c11
            refine lv_iconst (v := 1) hx hb dX7_holds_169 (by decide) ?_
            refine lv_goto (tgt := 174) hx hb dX7_holds_170 (by decide) ?_
            exact hq_zret hx hb hr hlocks h0 hI (by decide) h dX7_holds_174
        have hL36 : ∀ (n36 : Nat) (x12 : Int32) (x13 : Int32) (S14 : HSt) (H : Heap) (locs : List Loc) (ls : Array Slot), (f_X7_holds_L36 a0 a1 a2 a3 f_X7_holds_K161 n36) x12 x13 S14 = some res → hqX D kA HB S.2 S14 H locs → lv_has ls 8 [(0, .ref a0), (1, .int a1), (2, .ref a2), (3, .int a3), (4, .int x12), (5, .int x13)] → W p l e rm_X7_holds s m ([.ref a0, .int a1, .ref a2, .int a3] : List Value).toArray below meth c H locs 0 0 (MQ below (hQi D kA HB S res) ([.ref a0, .int a1, .ref a2, .int a3] : List Value).toArray s 0 0 (hFree HB)) (F0 m 36 ls []) := by
          intro n36
          induction n36 with
          | zero =>
            intro x12 x13 S14 H locs ls h
            have h : (none : Option (Int32 × HSt)) = some res := h
            cases h
          | succ n36 ih36 =>
            intro x12 x13 S14 H locs ls h hI hl
            have h : f_X7_holds_B36 a0 a1 a2 a3 f_X7_holds_K161 (f_X7_holds_L36 a0 a1 a2 a3 f_X7_holds_K161 n36) x12 x13 S14 = some res := h
            unfold f_X7_holds_B36 at h
            refine lv_iload hx hb dX7_holds_36 (lv_at hl 5 rfl) ?_
            refine lv_if_lt (tgt := 161) hx hb dX7_holds_38 (by decide) (fun c15 => ?_) (fun c15 => ?_)
            · have h := hq_t h c15
              exact hK161 x12 S14 _ _ _ h hI (lv_sub hl [4] rfl)
            · have h := hq_f h c15
              refine lv_iload hx hb dX7_holds_41 (lv_at hl 5 rfl) ?_
              refine lv_aload_n hx hb dX7_holds_43 rfl (lv_at hl 0 rfl) ?_
              obtain ⟨b16, g17, h⟩ := hq_bind h
              obtain ⟨fs_g17, hs_g17, hv_g17⟩ := gR_at g17
              refine hq_get hx hb hts hown hE hI hs_g17 inG7 rfl 5 (by decide) kw_100 hv_g17 dX7_holds_44 ?_
              refine lv_iload_n hx hb dX7_holds_47 rfl (lv_at hl 1 rfl) ?_
              obtain ⟨v19, g18, h⟩ := hq_bind h
              refine hq_iald hx hb hE hI g18 dX7_holds_48 ?_
              refine lv_icmp_ge (tgt := 161) hx hb dX7_holds_49 (by decide) (fun c20 => ?_) (fun c20 => ?_)
              · have h := hq_t h c20
                exact hK161 x12 S14 _ _ _ h hI (lv_sub hl [4] rfl)
              · have h := hq_f h c20
                refine lv_iload hx hb dX7_holds_52 (lv_at hl 5 rfl) ?_
                refine lv_aload_n hx hb dX7_holds_54 rfl (lv_at hl 0 rfl) ?_
                obtain ⟨b21, g22, h⟩ := hq_bind h
                obtain ⟨fs_g22, hs_g22, hv_g22⟩ := gR_at g22
                refine hq_get hx hb hts hown hE hI hs_g22 inG7 rfl 2 (by decide) kw_97 hv_g22 dX7_holds_55 ?_
                obtain ⟨v23, g24, h⟩ := hq_bind h
                refine hq_alen hx hb hE hI g24 dX7_holds_58 ?_
                refine lv_icmp_ge (tgt := 161) hx hb dX7_holds_59 (by decide) (fun c25 => ?_) (fun c25 => ?_)
                · have h := hq_t h c25
                  exact hK161 x12 S14 _ _ _ h hI (lv_sub hl [4] rfl)
                · have h := hq_f h c25
                  refine lv_aload_n hx hb dX7_holds_62 rfl (lv_at hl 0 rfl) ?_
                  obtain ⟨b26, g27, h⟩ := hq_bind h
                  obtain ⟨fs_g27, hs_g27, hv_g27⟩ := gR_at g27
                  refine hq_get hx hb hts hown hE hI hs_g27 inG7 rfl 2 (by decide) kw_97 hv_g27 dX7_holds_63 ?_
                  refine lv_iload hx hb dX7_holds_66 (lv_at hl 5 rfl) ?_
                  obtain ⟨v29, g28, h⟩ := hq_bind h
                  refine hq_iald hx hb hE hI g28 dX7_holds_68 ?_
                  refine lv_istore (lv' := [(6, .int v29), (0, .ref a0), (1, .int a1), (2, .ref a2), (3, .int a3), (4, .int x12), (5, .int x13)]) hx hb dX7_holds_69 hl (by decide) rfl (fun ls hl => ?_)
                  refine lv_iload hx hb dX7_holds_71 (lv_at hl 5 rfl) ?_
                  refine lv_iconst (v := 1) hx hb dX7_holds_73 (by decide) ?_
                  refine lv_iand hx hb dX7_holds_74 ?_
                  refine lv_istore (lv' := [(7, .int (x12 &&& 1)), (6, .int v29), (0, .ref a0), (1, .int a1), (2, .ref a2), (3, .int a3), (4, .int x12), (5, .int x13)]) hx hb dX7_holds_75 hl (by decide) rfl (fun ls hl => ?_)
                  refine lv_iload hx hb dX7_holds_77 (lv_at hl 1 rfl) ?_
                  refine lv_bipush (v := (-3)) hx hb dX7_holds_79 (by decide) ?_
                  refine lv_icmp_ne (tgt := 93) hx hb dX7_holds_81 (by decide) (fun c30 => ?_) (fun c30 => ?_)
                  · have h := hq_f h c30
                    refine lv_iload hx hb dX7_holds_93 (lv_at hl 1 rfl) ?_
                    refine lv_iconst (v := (-1)) hx hb dX7_holds_95 (by decide) ?_
                    refine lv_icmp_ne (tgt := 114) hx hb dX7_holds_96 (by decide) (fun c31 => ?_) (fun c31 => ?_)
                    · have h := hq_f h c31
                      refine lv_iload hx hb dX7_holds_114 (lv_at hl 1 rfl) ?_
                      refine lv_bipush (v := (-2)) hx hb dX7_holds_116 (by decide) ?_
                      refine lv_icmp_ne (tgt := 133) hx hb dX7_holds_118 (by decide) (fun c32 => ?_) (fun c32 => ?_)
                      · have h := hq_f h c32
                        refine lv_iload hx hb dX7_holds_133 (lv_at hl 6 rfl) ?_
                        refine lv_iconst (v := 1) hx hb dX7_holds_135 (by decide) ?_
                        refine lv_ishl hx hb dX7_holds_136 ?_
                        refine lv_iload hx hb dX7_holds_137 (lv_at hl 1 rfl) ?_
                        refine lv_aload_n hx hb dX7_holds_139 rfl (lv_at hl 4 rfl) ?_
                        refine lv_iload_n hx hb dX7_holds_140 rfl (lv_at hl 5 rfl) ?_
                        obtain ⟨v35, S34, g33, h⟩ := hq_bd2 h
                        refine hq_calli hI (va_runS (As := [.int v29, .ref a2, .int a3]) (rest := [.int (x12 <<< (1 &&& 31))]) ⟨hx, hb, hml, hown, hts⟩ (c_X7_testHolds l D kA ρ HB S14 v29 a2 a3 _ g33) (va_cwS 3 hts (gdIn (List.forall_mem_cons.mpr ⟨kw_573, (List.forall_mem_cons.mpr ⟨kw_574, (List.forall_mem_cons.mpr ⟨kw_5, (fun _ h => absurd h List.not_mem_nil)⟩)⟩)⟩) kw_575) rfl rfl rfl yd_X7_testHolds ⟨Nat.le_of_ble_eq_true rfl, Nat.le_of_ble_eq_true rfl⟩) (hq_preS hE hI _) rfl rfl hl.1 rfl (lv_room (Nat.le_of_ble_eq_true rfl)) dX7_holds_141 ⟨Nat.le_of_ble_eq_true rfl, Nat.le_of_ble_eq_true rfl⟩) (fun H locs hI => ?_)
                        refine lv_if_eq (tgt := 151) hx hb dX7_holds_144 (by decide) (fun c36 => ?_) (fun c36 => ?_)
                        · have h := hq_t h c36
                          refine lv_iconst (v := 0) hx hb dX7_holds_151 (by decide) ?_
                          refine lv_ior hx hb dX7_holds_152 ?_
                          refine lv_istore (lv' := [(4, .int ((x12 <<< (1 &&& 31)) ||| 0)), (7, .int (x12 &&& 1)), (6, .int v29), (0, .ref a0), (1, .int a1), (2, .ref a2), (3, .int a3), (5, .int x13)]) hx hb dX7_holds_153 hl (by decide) rfl (fun ls hl => ?_)
                          refine lv_iinc (v := (x13 + 1)) (lv' := [(5, .int (x13 + 1)), (4, .int ((x12 <<< (1 &&& 31)) ||| 0)), (7, .int (x12 &&& 1)), (6, .int v29), (0, .ref a0), (1, .int a1), (2, .ref a2), (3, .int a3)]) hx hb dX7_holds_155 hl (k := 7) rfl rfl (by decide) rfl (fun ls hl => ?_)
                          refine lv_goto (tgt := 36) hx hb dX7_holds_158 (by decide) ?_
                          exact ih36 ((x12 <<< (1 &&& 31)) ||| 0) (x13 + 1) S34 _ _ _ h hI (lv_sub hl [4, 5, 6, 7, 1, 0] rfl)
                        · have h := hq_f h c36
                          refine lv_iconst (v := 1) hx hb dX7_holds_147 (by decide) ?_
                          refine lv_goto (tgt := 152) hx hb dX7_holds_148 (by decide) ?_
                          refine lv_ior hx hb dX7_holds_152 ?_
                          refine lv_istore (lv' := [(4, .int ((x12 <<< (1 &&& 31)) ||| 1)), (7, .int (x12 &&& 1)), (6, .int v29), (0, .ref a0), (1, .int a1), (2, .ref a2), (3, .int a3), (5, .int x13)]) hx hb dX7_holds_153 hl (by decide) rfl (fun ls hl => ?_)
                          refine lv_iinc (v := (x13 + 1)) (lv' := [(5, .int (x13 + 1)), (4, .int ((x12 <<< (1 &&& 31)) ||| 1)), (7, .int (x12 &&& 1)), (6, .int v29), (0, .ref a0), (1, .int a1), (2, .ref a2), (3, .int a3)]) hx hb dX7_holds_155 hl (k := 7) rfl rfl (by decide) rfl (fun ls hl => ?_)
                          refine lv_goto (tgt := 36) hx hb dX7_holds_158 (by decide) ?_
                          exact ih36 ((x12 <<< (1 &&& 31)) ||| 1) (x13 + 1) S34 _ _ _ h hI (lv_sub hl [4, 5, 6, 7, 1, 0] rfl)
                      · have h := hq_t h c32
                        refine lv_iload hx hb dX7_holds_121 (lv_at hl 6 rfl) ?_
                        refine lv_iconst (v := 1) hx hb dX7_holds_123 (by decide) ?_
                        refine lv_ishr hx hb dX7_holds_124 ?_
                        refine lv_iload hx hb dX7_holds_125 (lv_at hl 0 rfl) ?_
                        refine lv_ior hx hb dX7_holds_127 ?_
                        refine lv_istore (lv' := [(4, .int ((x12 >>> (1 &&& 31)) ||| (x12 &&& 1))), (7, .int (x12 &&& 1)), (6, .int v29), (0, .ref a0), (1, .int a1), (2, .ref a2), (3, .int a3), (5, .int x13)]) hx hb dX7_holds_128 hl (by decide) rfl (fun ls hl => ?_)
                        refine lv_goto (tgt := 155) hx hb dX7_holds_130 (by decide) ?_
                        refine lv_iinc (v := (x13 + 1)) (lv' := [(5, .int (x13 + 1)), (4, .int ((x12 >>> (1 &&& 31)) ||| (x12 &&& 1))), (7, .int (x12 &&& 1)), (6, .int v29), (0, .ref a0), (1, .int a1), (2, .ref a2), (3, .int a3)]) hx hb dX7_holds_155 hl (k := 7) rfl rfl (by decide) rfl (fun ls hl => ?_)
                        refine lv_goto (tgt := 36) hx hb dX7_holds_158 (by decide) ?_
                        exact ih36 ((x12 >>> (1 &&& 31)) ||| (x12 &&& 1)) (x13 + 1) S14 _ _ _ h hI (lv_sub hl [4, 5, 6, 7, 1, 0] rfl)
                    · have h := hq_t h c31
                      refine lv_iload hx hb dX7_holds_99 (lv_at hl 6 rfl) ?_
                      refine lv_iconst (v := 1) hx hb dX7_holds_101 (by decide) ?_
                      refine lv_ishr hx hb dX7_holds_102 ?_
                      refine lv_iload hx hb dX7_holds_103 (lv_at hl 0 rfl) ?_
                      refine lv_bipush (v := (-2)) hx hb dX7_holds_105 (by decide) ?_
                      refine lv_ior hx hb dX7_holds_107 ?_
                      refine lv_iand hx hb dX7_holds_108 ?_
                      refine lv_topi (fun v37 e_v37 => ?_)
                      have h := hq_nm h e_v37
                      refine lv_istore (lv' := [(4, .int v37), (7, .int (x12 &&& 1)), (6, .int v29), (0, .ref a0), (1, .int a1), (2, .ref a2), (3, .int a3), (5, .int x13)]) hx hb dX7_holds_109 hl (by decide) rfl (fun ls hl => ?_)
                      refine lv_goto (tgt := 155) hx hb dX7_holds_111 (by decide) ?_
                      refine lv_iinc (v := (x13 + 1)) (lv' := [(5, .int (x13 + 1)), (4, .int v37), (7, .int (x12 &&& 1)), (6, .int v29), (0, .ref a0), (1, .int a1), (2, .ref a2), (3, .int a3)]) hx hb dX7_holds_155 hl (k := 7) rfl rfl (by decide) rfl (fun ls hl => ?_)
                      refine lv_goto (tgt := 36) hx hb dX7_holds_158 (by decide) ?_
                      exact ih36 v37 (x13 + 1) S14 _ _ _ h hI (lv_sub hl [4, 5, 6, 7, 1, 0] rfl)
                  · have h := hq_t h c30
                    refine lv_iload hx hb dX7_holds_84 (lv_at hl 6 rfl) ?_
                    refine lv_iconst (v := 1) hx hb dX7_holds_86 (by decide) ?_
                    refine lv_ixor hx hb dX7_holds_87 ?_
                    refine lv_istore (lv' := [(4, .int (x12 ^^^ 1)), (7, .int (x12 &&& 1)), (6, .int v29), (0, .ref a0), (1, .int a1), (2, .ref a2), (3, .int a3), (5, .int x13)]) hx hb dX7_holds_88 hl (by decide) rfl (fun ls hl => ?_)
                    refine lv_goto (tgt := 155) hx hb dX7_holds_90 (by decide) ?_
                    refine lv_iinc (v := (x13 + 1)) (lv' := [(5, .int (x13 + 1)), (4, .int (x12 ^^^ 1)), (7, .int (x12 &&& 1)), (6, .int v29), (0, .ref a0), (1, .int a1), (2, .ref a2), (3, .int a3)]) hx hb dX7_holds_155 hl (k := 7) rfl rfl (by decide) rfl (fun ls hl => ?_)
                    refine lv_goto (tgt := 36) hx hb dX7_holds_158 (by decide) ?_
                    exact ih36 (x12 ^^^ 1) (x13 + 1) S14 _ _ _ h hI (lv_sub hl [4, 5, 6, 7, 1, 0] rfl)
        exact hL36 FU 0 y7 S8 _ _ _ h hI (lv_sub hl [1, 2, 3, 4, 5, 0] rfl)
      refine lv_if_ne (tgt := 26) hx hb dX7_holds_19 (by decide) (fun c38 => ?_) (fun c38 => ?_)
      · have h := hq_f h c38
        refine lv_aload_n hx hb dX7_holds_26 rfl (lv_at hl 1 rfl) ?_
        obtain ⟨b39, g40, h⟩ := hq_bind h
        obtain ⟨fs_g40, hs_g40, hv_g40⟩ := gR_at g40
        refine hq_get hx hb hts hown hE hI hs_g40 inG7 rfl 5 (by decide) kw_100 hv_g40 dX7_holds_27 ?_
        refine lv_iload_n hx hb dX7_holds_30 rfl (lv_at hl 2 rfl) ?_
        refine lv_iconst (v := 1) hx hb dX7_holds_31 (by decide) ?_
        refine lv_isub hx hb dX7_holds_32 ?_
        obtain ⟨v42, g41, h⟩ := hq_bind h
        refine hq_iald hx hb hE hI g41 dX7_holds_33 ?_
        exact hJ34 v42 S _ _ _ h hI (lv_sub hl [1, 2, 3, 4, 0] rfl)
      · have h := hq_t h c38
        refine lv_iconst (v := 0) hx hb dX7_holds_22 (by decide) ?_
        refine lv_goto (tgt := 34) hx hb dX7_holds_23 (by decide) ?_
        exact hJ34 0 S _ _ _ h hI (lv_sub hl [1, 2, 3, 4, 0] rfl)
    · have h := hq_f h c6
      refine lv_iconst (v := 0) hx hb dX7_holds_13 (by decide) ?_
      exact hq_zret hx hb hr hlocks h0 hI (by decide) h dX7_holds_14
-- RodDips$Text.counts(LRodDips$Try;)Z
theorem dX7_counts_0 : decode cX7_counts 0 = .ok (.iconst 0, 1) := by decide +kernel
theorem dX7_counts_1 : decode cX7_counts 1 = .ok (.istore_n 2, 1) := by decide +kernel
theorem dX7_counts_2 : decode cX7_counts 2 = .ok (.iconst 0, 1) := by decide +kernel
theorem dX7_counts_3 : decode cX7_counts 3 = .ok (.istore_n 3, 1) := by decide +kernel
theorem dX7_counts_4 : decode cX7_counts 4 = .ok (.iconst 0, 1) := by decide +kernel
theorem dX7_counts_5 : decode cX7_counts 5 = .ok (.istore 4, 2) := by decide +kernel
theorem dX7_counts_7 : decode cX7_counts 7 = .ok (.iload 4, 2) := by decide +kernel
theorem dX7_counts_9 : decode cX7_counts 9 = .ok (.aload_n 0, 1) := by decide +kernel
theorem dX7_counts_10 : decode cX7_counts 10 = .ok (.getfield 40, 3) := by decide +kernel
theorem dX7_counts_13 : decode cX7_counts 13 = .ok (.if_icmp .ge 78, 3) := by decide +kernel
theorem dX7_counts_16 : decode cX7_counts 16 = .ok (.iload 4, 2) := by decide +kernel
theorem dX7_counts_18 : decode cX7_counts 18 = .ok (.aload_n 0, 1) := by decide +kernel
theorem dX7_counts_19 : decode cX7_counts 19 = .ok (.getfield 15, 3) := by decide +kernel
theorem dX7_counts_22 : decode cX7_counts 22 = .ok (.arraylength, 1) := by decide +kernel
theorem dX7_counts_23 : decode cX7_counts 23 = .ok (.if_icmp .ge 68, 3) := by decide +kernel
theorem dX7_counts_26 : decode cX7_counts 26 = .ok (.aload_n 0, 1) := by decide +kernel
theorem dX7_counts_27 : decode cX7_counts 27 = .ok (.iload 4, 2) := by decide +kernel
theorem dX7_counts_29 : decode cX7_counts 29 = .ok (.aload_n 1, 1) := by decide +kernel
theorem dX7_counts_30 : decode cX7_counts 30 = .ok (.bipush 100, 2) := by decide +kernel
theorem dX7_counts_32 : decode cX7_counts 32 = .ok (.invokevirtual 70, 3) := by decide +kernel
theorem dX7_counts_35 : decode cX7_counts 35 = .ok (.istore 5, 2) := by decide +kernel
theorem dX7_counts_37 : decode cX7_counts 37 = .ok (.aload_n 0, 1) := by decide +kernel
theorem dX7_counts_38 : decode cX7_counts 38 = .ok (.getfield 15, 3) := by decide +kernel
theorem dX7_counts_41 : decode cX7_counts 41 = .ok (.iload 4, 2) := by decide +kernel
theorem dX7_counts_43 : decode cX7_counts 43 = .ok (.iaload, 1) := by decide +kernel
theorem dX7_counts_44 : decode cX7_counts 44 = .ok (.bipush 116, 2) := by decide +kernel
theorem dX7_counts_46 : decode cX7_counts 46 = .ok (.if_icmp .eq 10, 3) := by decide +kernel
theorem dX7_counts_49 : decode cX7_counts 49 = .ok (.iload 5, 2) := by decide +kernel
theorem dX7_counts_51 : decode cX7_counts 51 = .ok (.ifCond .eq 5, 3) := by decide +kernel
theorem dX7_counts_54 : decode cX7_counts 54 = .ok (.iconst 0, 1) := by decide +kernel
theorem dX7_counts_55 : decode cX7_counts 55 = .ok (.ireturn, 1) := by decide +kernel
theorem dX7_counts_56 : decode cX7_counts 56 = .ok (.aload_n 0, 1) := by decide +kernel
theorem dX7_counts_57 : decode cX7_counts 57 = .ok (.getfield 15, 3) := by decide +kernel
theorem dX7_counts_60 : decode cX7_counts 60 = .ok (.iload 4, 2) := by decide +kernel
theorem dX7_counts_62 : decode cX7_counts 62 = .ok (.iaload, 1) := by decide +kernel
theorem dX7_counts_63 : decode cX7_counts 63 = .ok (.bipush 116, 2) := by decide +kernel
theorem dX7_counts_65 : decode cX7_counts 65 = .ok (.if_icmp .ne 20, 3) := by decide +kernel
theorem dX7_counts_68 : decode cX7_counts 68 = .ok (.iconst 1, 1) := by decide +kernel
theorem dX7_counts_69 : decode cX7_counts 69 = .ok (.istore_n 2, 1) := by decide +kernel
theorem dX7_counts_70 : decode cX7_counts 70 = .ok (.iload_n 3, 1) := by decide +kernel
theorem dX7_counts_71 : decode cX7_counts 71 = .ok (.ifCond .ne 8, 3) := by decide +kernel
theorem dX7_counts_74 : decode cX7_counts 74 = .ok (.iload 5, 2) := by decide +kernel
theorem dX7_counts_76 : decode cX7_counts 76 = .ok (.ifCond .eq 7, 3) := by decide +kernel
theorem dX7_counts_79 : decode cX7_counts 79 = .ok (.iconst 1, 1) := by decide +kernel
theorem dX7_counts_80 : decode cX7_counts 80 = .ok (.goto 4, 3) := by decide +kernel
theorem dX7_counts_83 : decode cX7_counts 83 = .ok (.iconst 0, 1) := by decide +kernel
theorem dX7_counts_84 : decode cX7_counts 84 = .ok (.istore_n 3, 1) := by decide +kernel
theorem dX7_counts_85 : decode cX7_counts 85 = .ok (.iinc 4 1, 3) := by decide +kernel
theorem dX7_counts_88 : decode cX7_counts 88 = .ok (.goto (-81), 3) := by decide +kernel
theorem dX7_counts_91 : decode cX7_counts 91 = .ok (.iload_n 3, 1) := by decide +kernel
theorem dX7_counts_92 : decode cX7_counts 92 = .ok (.ifCond .ne 7, 3) := by decide +kernel
theorem dX7_counts_95 : decode cX7_counts 95 = .ok (.iload_n 2, 1) := by decide +kernel
theorem dX7_counts_96 : decode cX7_counts 96 = .ok (.ifCond .ne 7, 3) := by decide +kernel
theorem dX7_counts_99 : decode cX7_counts 99 = .ok (.iconst 1, 1) := by decide +kernel
theorem dX7_counts_100 : decode cX7_counts 100 = .ok (.goto 4, 3) := by decide +kernel
theorem dX7_counts_103 : decode cX7_counts 103 = .ok (.iconst 0, 1) := by decide +kernel
theorem dX7_counts_104 : decode cX7_counts 104 = .ok (.ireturn, 1) := by decide +kernel
def f_X7_counts_K91 (x1 : Int32) (x2 : Int32) (S3 : HSt) : Option (Int32 × HSt) := if x2 = 0 then (if x1 = 0 then (some (1, S3)) else (some (0, S3))) else (some (1, S3))
def f_X7_counts_J56 (a0 : Nat) (kb7 : (Int32 → Int32 → Int32 → HSt → Option (Int32 × HSt))) (v21 : Int32) (x6 : Int32) (x7 : Int32) (x8 : Int32) (S26 : HSt) : Option (Int32 × HSt) := (gR S26 a0 7 3).bind fun b27 => (aI S26 b27 0 x8).bind fun v30 => if v30 = 116 then (if x7 = 0 then (if v21 = 0 then (kb7 1 0 (x8 + 1) S26) else (kb7 1 1 (x8 + 1) S26)) else (kb7 1 1 (x8 + 1) S26)) else (kb7 x6 x7 (x8 + 1) S26)
def f_X7_counts_B7 (a0 : Nat) (a1 : Nat) (kx91 : (Int32 → Int32 → HSt → Option (Int32 × HSt))) (kb7 : (Int32 → Int32 → Int32 → HSt → Option (Int32 × HSt))) (x6 : Int32) (x7 : Int32) (x8 : Int32) (S9 : HSt) : Option (Int32 × HSt) := (gI S9 a0 7 7).bind fun v10 => if v10 ≤ x8 then (kx91 x6 x7 S9) else ((gR S9 a0 7 3).bind fun b13 => (aN S9 b13).bind fun v15 => if v15 ≤ x8 then (kx91 x6 x7 S9) else (if gC S9 a0 = some 7 then (bd2 (f_X7_holds S9 a0 x8 a1 100) fun v21 S20 => (gR S20 a0 7 3).bind fun b22 => (aI S20 b22 0 x8).bind fun v25 => if v25 = 116 then ((f_X7_counts_J56 a0 kb7 v21 x6 x7 x8) S20) else (if v21 = 0 then ((f_X7_counts_J56 a0 kb7 v21 x6 x7 x8) S20) else (some (0, S20)))) else none))
def f_X7_counts_L7 (a0 : Nat) (a1 : Nat) (kx91 : (Int32 → Int32 → HSt → Option (Int32 × HSt))) : Nat → Int32 → Int32 → Int32 → HSt → Option (Int32 × HSt)
  | 0, _, _, _, _ => none
  | n + 1, x6, x7, x8, S => f_X7_counts_B7 a0 a1 kx91 (f_X7_counts_L7 a0 a1 kx91 n) x6 x7 x8 S
def f_X7_counts (S : HSt) (a0 : Nat) (a1 : Nat) : Option (Int32 × HSt) := (f_X7_counts_L7 a0 a1 f_X7_counts_K91 FU) 0 0 0 S
abbrev rm_X7_counts : Room := { frames := 3, cells := 0, slots := 0, locals := 73 }
abbrev w_X7_counts : List Cond := Cond.code yX7_counts cX7_counts 6 (Option.some FieldType.boolean) :: lwG
theorem yd_X7_counts : yX7_counts.cls ≠ "java/lang/invoke/MethodHandle" ∧ yX7_counts.cls ≠ "java/lang/invoke/VarHandle" ∧ (parseMethodDescriptor yX7_counts.desc).map (fun d => d.parameters.length) = some 1 := by decide +kernel
theorem ye_X7_counts : yX7_counts.cls = RX7 ∧ yX7_counts.cls ≠ "java/lang/invoke/MethodHandle" ∧ yX7_counts.cls ≠ "java/lang/invoke/VarHandle" ∧ (parseMethodDescriptor yX7_counts.desc).map (fun d => d.parameters.length) = some 1 := by decide +kernel
set_option maxHeartbeats 4000000 in
set_option maxRecDepth 100000 in
theorem c_X7_counts (l : Launch) (D : va_G) (kA ρ : Nat → Nat) (HB : Heap) (S : HSt) (a0 : Nat) (a1 : Nat) (res : Int32 × HSt) (h : f_X7_counts S a0 a1 = some res) : Met l yX7_counts w_X7_counts rm_X7_counts (hPc D kA ρ HB S [.ref a0, .ref a1]) (hQi D kA HB S res) 0 0 (hFree HB) := by
  refine Met.ofW (cc := cX7_counts) (maxL := 6) (ret := (Option.some FieldType.boolean)) (by decide) rfl ?_
  intro p e s m args below meth c s₁ B hml hv
  obtain ⟨rfl, hE, h0⟩ := hv
  have hx := B.exec
  have hb := B.bytes
  have hr := B.returns
  have hts0 := atoms_spec (ws := w_X7_counts) B.pre
  have hts : ∀ w ∈ lwG, w.before _ s = true := fun w hw => hts0 w (List.mem_cons_of_mem _ hw)
  have hown : s.vm.findClass RX7 = some m.cls := findClass_of_methodNamed B.named
  have hlocks := B.notSynchronized
  have hI : hqX D kA HB S.2 S s.heap [] := ⟨h0, Nat.le_refl _, fun _ q => absurd q List.not_mem_nil⟩
  have hl := lv_entry ([.ref a0, .ref a1]) (n := 6) (Nat.le_of_ble_eq_true rfl)
  rw [lg_entry_eq]
  generalize (lg_sl ([.ref a0, .ref a1]) ++ List.replicate (6 - (lg_sl ([.ref a0, .ref a1])).length) Slot.unset).toArray = ls at hl ⊢
  have hl : lv_has ls 6 [(0, .ref a0), (1, .ref a1)] := hl
  unfold f_X7_counts at h
  refine lv_iconst (v := 0) hx hb dX7_counts_0 (by decide) ?_
  refine lv_istore_n (lv' := [(2, .int 0), (0, .ref a0), (1, .ref a1)]) hx hb dX7_counts_1 rfl hl (by decide) rfl (fun ls hl => ?_)
  refine lv_iconst (v := 0) hx hb dX7_counts_2 (by decide) ?_
  refine lv_istore_n (lv' := [(3, .int 0), (2, .int 0), (0, .ref a0), (1, .ref a1)]) hx hb dX7_counts_3 rfl hl (by decide) rfl (fun ls hl => ?_)
  refine lv_iconst (v := 0) hx hb dX7_counts_4 (by decide) ?_
  refine lv_istore (lv' := [(4, .int 0), (3, .int 0), (2, .int 0), (0, .ref a0), (1, .ref a1)]) hx hb dX7_counts_5 hl (by decide) rfl (fun ls hl => ?_)
  have hK91 : ∀ (x1 : Int32) (x2 : Int32) (S3 : HSt) (H : Heap) (locs : List Loc) (ls : Array Slot), f_X7_counts_K91 x1 x2 S3 = some res → hqX D kA HB S.2 S3 H locs → lv_has ls 6 [(2, .int x1), (3, .int x2)] → W p l e rm_X7_counts s m ([.ref a0, .ref a1] : List Value).toArray below meth c H locs 0 0 (MQ below (hQi D kA HB S res) ([.ref a0, .ref a1] : List Value).toArray s 0 0 (hFree HB)) (F0 m 91 ls []) := by
    intro x1 x2 S3 H locs ls h hI hl
    unfold f_X7_counts_K91 at h
    refine lv_iload_n hx hb dX7_counts_91 rfl (lv_at hl 1 rfl) ?_
    refine lv_if_ne (tgt := 99) hx hb dX7_counts_92 (by decide) (fun c4 => ?_) (fun c4 => ?_)
    · have h := hq_f h c4
      refine lv_iconst (v := 1) hx hb dX7_counts_99 (by decide) ?_
      refine lv_goto (tgt := 104) hx hb dX7_counts_100 (by decide) ?_
      exact hq_zret hx hb hr hlocks h0 hI (by decide) h dX7_counts_104
    · have h := hq_t h c4
      refine lv_iload_n hx hb dX7_counts_95 rfl (lv_at hl 0 rfl) ?_
      refine lv_if_ne (tgt := 103) hx hb dX7_counts_96 (by decide) (fun c5 => ?_) (fun c5 => ?_)
      · have h := hq_f h c5
        refine lv_iconst (v := 0) hx hb dX7_counts_103 (by decide) ?_
        exact hq_zret hx hb hr hlocks h0 hI (by decide) h dX7_counts_104
      · have h := hq_t h c5
        refine lv_iconst (v := 1) hx hb dX7_counts_99 (by decide) ?_
        refine lv_goto (tgt := 104) hx hb dX7_counts_100 (by decide) ?_
        exact hq_zret hx hb hr hlocks h0 hI (by decide) h dX7_counts_104
  have hL7 : ∀ (n7 : Nat) (x6 : Int32) (x7 : Int32) (x8 : Int32) (S9 : HSt) (H : Heap) (locs : List Loc) (ls : Array Slot), (f_X7_counts_L7 a0 a1 f_X7_counts_K91 n7) x6 x7 x8 S9 = some res → hqX D kA HB S.2 S9 H locs → lv_has ls 6 [(0, .ref a0), (1, .ref a1), (2, .int x6), (3, .int x7), (4, .int x8)] → W p l e rm_X7_counts s m ([.ref a0, .ref a1] : List Value).toArray below meth c H locs 0 0 (MQ below (hQi D kA HB S res) ([.ref a0, .ref a1] : List Value).toArray s 0 0 (hFree HB)) (F0 m 7 ls []) := by
    intro n7
    induction n7 with
    | zero =>
      intro x6 x7 x8 S9 H locs ls h
      have h : (none : Option (Int32 × HSt)) = some res := h
      cases h
    | succ n7 ih7 =>
      intro x6 x7 x8 S9 H locs ls h hI hl
      have h : f_X7_counts_B7 a0 a1 f_X7_counts_K91 (f_X7_counts_L7 a0 a1 f_X7_counts_K91 n7) x6 x7 x8 S9 = some res := h
      unfold f_X7_counts_B7 at h
      refine lv_iload hx hb dX7_counts_7 (lv_at hl 4 rfl) ?_
      refine lv_aload_n hx hb dX7_counts_9 rfl (lv_at hl 0 rfl) ?_
      obtain ⟨v10, g11, h⟩ := hq_bind h
      obtain ⟨fs_g11, hs_g11, hv_g11⟩ := gI_at g11
      refine hq_get hx hb hts hown hE hI hs_g11 inG7 rfl 7 (by decide) kw_102 hv_g11 dX7_counts_10 ?_
      refine lv_icmp_ge (tgt := 91) hx hb dX7_counts_13 (by decide) (fun c12 => ?_) (fun c12 => ?_)
      · have h := hq_t h c12
        exact hK91 x6 x7 S9 _ _ _ h hI (lv_sub hl [2, 3] rfl)
      · have h := hq_f h c12
        refine lv_iload hx hb dX7_counts_16 (lv_at hl 4 rfl) ?_
        refine lv_aload_n hx hb dX7_counts_18 rfl (lv_at hl 0 rfl) ?_
        obtain ⟨b13, g14, h⟩ := hq_bind h
        obtain ⟨fs_g14, hs_g14, hv_g14⟩ := gR_at g14
        refine hq_get hx hb hts hown hE hI hs_g14 inG7 rfl 3 (by decide) kw_98 hv_g14 dX7_counts_19 ?_
        obtain ⟨v15, g16, h⟩ := hq_bind h
        refine hq_alen hx hb hE hI g16 dX7_counts_22 ?_
        refine lv_icmp_ge (tgt := 91) hx hb dX7_counts_23 (by decide) (fun c17 => ?_) (fun c17 => ?_)
        · have h := hq_t h c17
          exact hK91 x6 x7 S9 _ _ _ h hI (lv_sub hl [2, 3] rfl)
        · have h := hq_f h c17
          refine lv_aload_n hx hb dX7_counts_26 rfl (lv_at hl 0 rfl) ?_
          refine lv_iload hx hb dX7_counts_27 (lv_at hl 4 rfl) ?_
          refine lv_aload_n hx hb dX7_counts_29 rfl (lv_at hl 1 rfl) ?_
          refine lv_bipush (v := 100) hx hb dX7_counts_30 (by decide) ?_
          obtain ⟨g19, h⟩ := hq_g h
          obtain ⟨v21, S20, g18, h⟩ := hq_bd2 h
          refine hq_calli hI (va_runV (As := [.int x8, .ref a1, .int 100]) (rest := []) ⟨hx, hb, hml, hown, hts⟩ (c_X7_holds l D kA ρ HB S9 a0 x8 a1 100 _ g18) (cwV 3 hts (gdIn (List.forall_mem_cons.mpr ⟨kw_569, (List.forall_mem_cons.mpr ⟨kw_571, (List.forall_mem_cons.mpr ⟨ks_12, (List.forall_mem_cons.mpr ⟨kw_5, (fun _ h => absurd h List.not_mem_nil)⟩)⟩)⟩)⟩) kw_572) rfl rfl rfl ye_X7_holds ⟨Nat.le_of_ble_eq_true rfl, Nat.le_of_ble_eq_true rfl⟩) (hq_preC hE hI g19 rfl _) rfl rfl hl.1 rfl (lv_room (Nat.le_of_ble_eq_true rfl)) dX7_counts_32 ⟨Nat.le_of_ble_eq_true rfl, Nat.le_of_ble_eq_true rfl⟩) (fun H locs hI => ?_)
          refine lv_istore (lv' := [(5, .int v21), (0, .ref a0), (1, .ref a1), (2, .int x6), (3, .int x7), (4, .int x8)]) hx hb dX7_counts_35 hl (by decide) rfl (fun ls hl => ?_)
          refine lv_aload_n hx hb dX7_counts_37 rfl (lv_at hl 1 rfl) ?_
          obtain ⟨b22, g23, h⟩ := hq_bind h
          obtain ⟨fs_g23, hs_g23, hv_g23⟩ := gR_at g23
          refine hq_get hx hb hts hown hE hI hs_g23 inG7 rfl 3 (by decide) kw_98 hv_g23 dX7_counts_38 ?_
          refine lv_iload hx hb dX7_counts_41 (lv_at hl 5 rfl) ?_
          obtain ⟨v25, g24, h⟩ := hq_bind h
          refine hq_iald hx hb hE hI g24 dX7_counts_43 ?_
          refine lv_bipush (v := 116) hx hb dX7_counts_44 (by decide) ?_
          have hJ56 : ∀ (S26 : HSt) (H : Heap) (locs : List Loc) (ls : Array Slot), (f_X7_counts_J56 a0 (f_X7_counts_L7 a0 a1 f_X7_counts_K91 n7) v21 x6 x7 x8) S26 = some res → hqX D kA HB S.2 S26 H locs → lv_has ls 6 [(0, .ref a0), (1, .ref a1), (2, .int x6), (3, .int x7), (4, .int x8), (5, .int v21)] → W p l e rm_X7_counts s m ([.ref a0, .ref a1] : List Value).toArray below meth c H locs 0 0 (MQ below (hQi D kA HB S res) ([.ref a0, .ref a1] : List Value).toArray s 0 0 (hFree HB)) (F0 m 56 ls []) := by
            intro S26 H locs ls h hI hl
            unfold f_X7_counts_J56 at h
            refine lv_aload_n hx hb dX7_counts_56 rfl (lv_at hl 0 rfl) ?_
            obtain ⟨b27, g28, h⟩ := hq_bind h
            obtain ⟨fs_g28, hs_g28, hv_g28⟩ := gR_at g28
            refine hq_get hx hb hts hown hE hI hs_g28 inG7 rfl 3 (by decide) kw_98 hv_g28 dX7_counts_57 ?_
            refine lv_iload hx hb dX7_counts_60 (lv_at hl 4 rfl) ?_
            obtain ⟨v30, g29, h⟩ := hq_bind h
            refine hq_iald hx hb hE hI g29 dX7_counts_62 ?_
            refine lv_bipush (v := 116) hx hb dX7_counts_63 (by decide) ?_
            refine lv_icmp_ne (tgt := 85) hx hb dX7_counts_65 (by decide) (fun c31 => ?_) (fun c31 => ?_)
            · have h := hq_f h c31
              refine lv_iinc (v := (x8 + 1)) (lv' := [(4, .int (x8 + 1)), (0, .ref a0), (1, .ref a1), (2, .int x6), (3, .int x7), (5, .int v21)]) hx hb dX7_counts_85 hl (k := 4) rfl rfl (by decide) rfl (fun ls hl => ?_)
              refine lv_goto (tgt := 7) hx hb dX7_counts_88 (by decide) ?_
              exact ih7 x6 x7 (x8 + 1) S26 _ _ _ h hI (lv_sub hl [1, 2, 3, 4, 0] rfl)
            · have h := hq_t h c31
              refine lv_iconst (v := 1) hx hb dX7_counts_68 (by decide) ?_
              refine lv_istore_n (lv' := [(2, .int 1), (0, .ref a0), (1, .ref a1), (3, .int x7), (4, .int x8), (5, .int v21)]) hx hb dX7_counts_69 rfl hl (by decide) rfl (fun ls hl => ?_)
              refine lv_iload_n hx hb dX7_counts_70 rfl (lv_at hl 3 rfl) ?_
              refine lv_if_ne (tgt := 79) hx hb dX7_counts_71 (by decide) (fun c32 => ?_) (fun c32 => ?_)
              · have h := hq_f h c32
                refine lv_iconst (v := 1) hx hb dX7_counts_79 (by decide) ?_
                refine lv_goto (tgt := 84) hx hb dX7_counts_80 (by decide) ?_
                refine lv_istore_n (lv' := [(3, .int 1), (2, .int 1), (0, .ref a0), (1, .ref a1), (4, .int x8), (5, .int v21)]) hx hb dX7_counts_84 rfl hl (by decide) rfl (fun ls hl => ?_)
                refine lv_iinc (v := (x8 + 1)) (lv' := [(4, .int (x8 + 1)), (3, .int 1), (2, .int 1), (0, .ref a0), (1, .ref a1), (5, .int v21)]) hx hb dX7_counts_85 hl (k := 4) rfl rfl (by decide) rfl (fun ls hl => ?_)
                refine lv_goto (tgt := 7) hx hb dX7_counts_88 (by decide) ?_
                exact ih7 1 1 (x8 + 1) S26 _ _ _ h hI (lv_sub hl [3, 4, 2, 1, 0] rfl)
              · have h := hq_t h c32
                refine lv_iload hx hb dX7_counts_74 (lv_at hl 5 rfl) ?_
                refine lv_if_eq (tgt := 83) hx hb dX7_counts_76 (by decide) (fun c33 => ?_) (fun c33 => ?_)
                · have h := hq_t h c33
                  refine lv_iconst (v := 0) hx hb dX7_counts_83 (by decide) ?_
                  refine lv_istore_n (lv' := [(3, .int 0), (2, .int 1), (0, .ref a0), (1, .ref a1), (4, .int x8), (5, .int v21)]) hx hb dX7_counts_84 rfl hl (by decide) rfl (fun ls hl => ?_)
                  refine lv_iinc (v := (x8 + 1)) (lv' := [(4, .int (x8 + 1)), (3, .int 0), (2, .int 1), (0, .ref a0), (1, .ref a1), (5, .int v21)]) hx hb dX7_counts_85 hl (k := 4) rfl rfl (by decide) rfl (fun ls hl => ?_)
                  refine lv_goto (tgt := 7) hx hb dX7_counts_88 (by decide) ?_
                  exact ih7 1 0 (x8 + 1) S26 _ _ _ h hI (lv_sub hl [3, 4, 2, 1, 0] rfl)
                · have h := hq_f h c33
                  refine lv_iconst (v := 1) hx hb dX7_counts_79 (by decide) ?_
                  refine lv_goto (tgt := 84) hx hb dX7_counts_80 (by decide) ?_
                  refine lv_istore_n (lv' := [(3, .int 1), (2, .int 1), (0, .ref a0), (1, .ref a1), (4, .int x8), (5, .int v21)]) hx hb dX7_counts_84 rfl hl (by decide) rfl (fun ls hl => ?_)
                  refine lv_iinc (v := (x8 + 1)) (lv' := [(4, .int (x8 + 1)), (3, .int 1), (2, .int 1), (0, .ref a0), (1, .ref a1), (5, .int v21)]) hx hb dX7_counts_85 hl (k := 4) rfl rfl (by decide) rfl (fun ls hl => ?_)
                  refine lv_goto (tgt := 7) hx hb dX7_counts_88 (by decide) ?_
                  exact ih7 1 1 (x8 + 1) S26 _ _ _ h hI (lv_sub hl [3, 4, 2, 1, 0] rfl)
          refine lv_icmp_eq (tgt := 56) hx hb dX7_counts_46 (by decide) (fun c34 => ?_) (fun c34 => ?_)
          · have h := hq_t h c34
            exact hJ56 S20 _ _ _ h hI (lv_sub hl [1, 2, 3, 4, 5, 0] rfl)
          · have h := hq_f h c34
            refine lv_iload hx hb dX7_counts_49 (lv_at hl 0 rfl) ?_
            refine lv_if_eq (tgt := 56) hx hb dX7_counts_51 (by decide) (fun c35 => ?_) (fun c35 => ?_)
            · have h := hq_t h c35
              exact hJ56 S20 _ _ _ h hI (lv_sub hl [1, 2, 3, 4, 5, 0] rfl)
            · have h := hq_f h c35
              refine lv_iconst (v := 0) hx hb dX7_counts_54 (by decide) ?_
              exact hq_zret hx hb hr hlocks h0 hI (by decide) h dX7_counts_55
  exact hL7 FU 0 0 0 S _ _ _ h hI (lv_sub hl [3, 4, 2, 1, 0] rfl)
-- RodDips$Text.lawful(LRodDips$Try;II)I
theorem dX7_lawful_0 : decode cX7_lawful 0 = .ok (.iconst 0, 1) := by decide +kernel
theorem dX7_lawful_1 : decode cX7_lawful 1 = .ok (.istore 4, 2) := by decide +kernel
theorem dX7_lawful_3 : decode cX7_lawful 3 = .ok (.iload 4, 2) := by decide +kernel
theorem dX7_lawful_5 : decode cX7_lawful 5 = .ok (.aload_n 0, 1) := by decide +kernel
theorem dX7_lawful_6 : decode cX7_lawful 6 = .ok (.getfield 40, 3) := by decide +kernel
theorem dX7_lawful_9 : decode cX7_lawful 9 = .ok (.if_icmp .ge 117, 3) := by decide +kernel
theorem dX7_lawful_12 : decode cX7_lawful 12 = .ok (.iload 4, 2) := by decide +kernel
theorem dX7_lawful_14 : decode cX7_lawful 14 = .ok (.aload_n 0, 1) := by decide +kernel
theorem dX7_lawful_15 : decode cX7_lawful 15 = .ok (.getfield 15, 3) := by decide +kernel
theorem dX7_lawful_18 : decode cX7_lawful 18 = .ok (.arraylength, 1) := by decide +kernel
theorem dX7_lawful_19 : decode cX7_lawful 19 = .ok (.if_icmp .ge 107, 3) := by decide +kernel
theorem dX7_lawful_22 : decode cX7_lawful 22 = .ok (.iload 4, 2) := by decide +kernel
theorem dX7_lawful_24 : decode cX7_lawful 24 = .ok (.aload_n 0, 1) := by decide +kernel
theorem dX7_lawful_25 : decode cX7_lawful 25 = .ok (.getfield 18, 3) := by decide +kernel
theorem dX7_lawful_28 : decode cX7_lawful 28 = .ok (.arraylength, 1) := by decide +kernel
theorem dX7_lawful_29 : decode cX7_lawful 29 = .ok (.if_icmp .ge 97, 3) := by decide +kernel
theorem dX7_lawful_32 : decode cX7_lawful 32 = .ok (.aload_n 0, 1) := by decide +kernel
theorem dX7_lawful_33 : decode cX7_lawful 33 = .ok (.iload 4, 2) := by decide +kernel
theorem dX7_lawful_35 : decode cX7_lawful 35 = .ok (.aload_n 1, 1) := by decide +kernel
theorem dX7_lawful_36 : decode cX7_lawful 36 = .ok (.iload_n 2, 1) := by decide +kernel
theorem dX7_lawful_37 : decode cX7_lawful 37 = .ok (.invokevirtual 70, 3) := by decide +kernel
theorem dX7_lawful_40 : decode cX7_lawful 40 = .ok (.ifCond .ne 6, 3) := by decide +kernel
theorem dX7_lawful_43 : decode cX7_lawful 43 = .ok (.goto 77, 3) := by decide +kernel
theorem dX7_lawful_46 : decode cX7_lawful 46 = .ok (.aload_n 0, 1) := by decide +kernel
theorem dX7_lawful_47 : decode cX7_lawful 47 = .ok (.getfield 18, 3) := by decide +kernel
theorem dX7_lawful_50 : decode cX7_lawful 50 = .ok (.iload 4, 2) := by decide +kernel
theorem dX7_lawful_52 : decode cX7_lawful 52 = .ok (.iaload, 1) := by decide +kernel
theorem dX7_lawful_53 : decode cX7_lawful 53 = .ok (.istore 5, 2) := by decide +kernel
theorem dX7_lawful_55 : decode cX7_lawful 55 = .ok (.aload_n 0, 1) := by decide +kernel
theorem dX7_lawful_56 : decode cX7_lawful 56 = .ok (.getfield 15, 3) := by decide +kernel
theorem dX7_lawful_59 : decode cX7_lawful 59 = .ok (.iload 4, 2) := by decide +kernel
theorem dX7_lawful_61 : decode cX7_lawful 61 = .ok (.iaload, 1) := by decide +kernel
theorem dX7_lawful_62 : decode cX7_lawful 62 = .ok (.bipush 98, 2) := by decide +kernel
theorem dX7_lawful_64 : decode cX7_lawful 64 = .ok (.if_icmp .ne 17, 3) := by decide +kernel
theorem dX7_lawful_67 : decode cX7_lawful 67 = .ok (.aload_n 1, 1) := by decide +kernel
theorem dX7_lawful_68 : decode cX7_lawful 68 = .ok (.getfield 74, 3) := by decide +kernel
theorem dX7_lawful_71 : decode cX7_lawful 71 = .ok (.aload_n 0, 1) := by decide +kernel
theorem dX7_lawful_72 : decode cX7_lawful 72 = .ok (.getfield 18, 3) := by decide +kernel
theorem dX7_lawful_75 : decode cX7_lawful 75 = .ok (.iload 4, 2) := by decide +kernel
theorem dX7_lawful_77 : decode cX7_lawful 77 = .ok (.iaload, 1) := by decide +kernel
theorem dX7_lawful_78 : decode cX7_lawful 78 = .ok (.iadd, 1) := by decide +kernel
theorem dX7_lawful_79 : decode cX7_lawful 79 = .ok (.istore 5, 2) := by decide +kernel
theorem dX7_lawful_81 : decode cX7_lawful 81 = .ok (.aload_n 0, 1) := by decide +kernel
theorem dX7_lawful_82 : decode cX7_lawful 82 = .ok (.getfield 15, 3) := by decide +kernel
theorem dX7_lawful_85 : decode cX7_lawful 85 = .ok (.iload 4, 2) := by decide +kernel
theorem dX7_lawful_87 : decode cX7_lawful 87 = .ok (.iaload, 1) := by decide +kernel
theorem dX7_lawful_88 : decode cX7_lawful 88 = .ok (.bipush 111, 2) := by decide +kernel
theorem dX7_lawful_90 : decode cX7_lawful 90 = .ok (.if_icmp .ne 17, 3) := by decide +kernel
theorem dX7_lawful_93 : decode cX7_lawful 93 = .ok (.aload_n 1, 1) := by decide +kernel
theorem dX7_lawful_94 : decode cX7_lawful 94 = .ok (.getfield 74, 3) := by decide +kernel
theorem dX7_lawful_97 : decode cX7_lawful 97 = .ok (.aload_n 0, 1) := by decide +kernel
theorem dX7_lawful_98 : decode cX7_lawful 98 = .ok (.getfield 18, 3) := by decide +kernel
theorem dX7_lawful_101 : decode cX7_lawful 101 = .ok (.iload 4, 2) := by decide +kernel
theorem dX7_lawful_103 : decode cX7_lawful 103 = .ok (.iaload, 1) := by decide +kernel
theorem dX7_lawful_104 : decode cX7_lawful 104 = .ok (.isub, 1) := by decide +kernel
theorem dX7_lawful_105 : decode cX7_lawful 105 = .ok (.istore 5, 2) := by decide +kernel
theorem dX7_lawful_107 : decode cX7_lawful 107 = .ok (.iconst 0, 1) := by decide +kernel
theorem dX7_lawful_108 : decode cX7_lawful 108 = .ok (.iload_n 3, 1) := by decide +kernel
theorem dX7_lawful_109 : decode cX7_lawful 109 = .ok (.iconst 1, 1) := by decide +kernel
theorem dX7_lawful_110 : decode cX7_lawful 110 = .ok (.isub, 1) := by decide +kernel
theorem dX7_lawful_111 : decode cX7_lawful 111 = .ok (.iload 5, 2) := by decide +kernel
theorem dX7_lawful_113 : decode cX7_lawful 113 = .ok (.invokestatic 79, 3) := by decide +kernel
theorem dX7_lawful_116 : decode cX7_lawful 116 = .ok (.invokestatic 85, 3) := by decide +kernel
theorem dX7_lawful_119 : decode cX7_lawful 119 = .ok (.ireturn, 1) := by decide +kernel
theorem dX7_lawful_120 : decode cX7_lawful 120 = .ok (.iinc 4 1, 3) := by decide +kernel
theorem dX7_lawful_123 : decode cX7_lawful 123 = .ok (.goto (-120), 3) := by decide +kernel
theorem dX7_lawful_126 : decode cX7_lawful 126 = .ok (.bipush (-5), 2) := by decide +kernel
theorem dX7_lawful_128 : decode cX7_lawful 128 = .ok (.ireturn, 1) := by decide +kernel
def f_X7_lawful_K126 (S1 : HSt) : Option (Int32 × HSt) := some ((-5), S1)
def f_X7_lawful_J81 (a0 : Nat) (a1 : Nat) (a3 : Int32) (x2 : Int32) (x30 : Int32) (S31 : HSt) : Option (Int32 × HSt) := (gR S31 a0 7 3).bind fun b32 => (aI S31 b32 0 x2).bind fun v35 => if v35 = 111 then ((gIT S31 a1 5).bind fun v39 => (gR S31 a0 7 4).bind fun b41 => (aI S31 b41 0 x2).bind fun v44 => hqn ((if (v39 - v44) < (a3 - 1) then (v39 - v44) else (a3 - 1) : Int32)) fun (v45 : Int32) => hqn ((if 0 < v45 then v45 else 0 : Int32)) fun (v46 : Int32) => some (v46, S31)) else (hqn ((if x30 < (a3 - 1) then x30 else (a3 - 1) : Int32)) fun (v37 : Int32) => hqn ((if 0 < v37 then v37 else 0 : Int32)) fun (v38 : Int32) => some (v38, S31))
def f_X7_lawful_B3 (a0 : Nat) (a1 : Nat) (a2 : Int32) (a3 : Int32) (kx126 : (HSt → Option (Int32 × HSt))) (kb3 : (Int32 → HSt → Option (Int32 × HSt))) (x2 : Int32) (S3 : HSt) : Option (Int32 × HSt) := (gI S3 a0 7 7).bind fun v4 => if v4 ≤ x2 then (kx126 S3) else ((gR S3 a0 7 3).bind fun b7 => (aN S3 b7).bind fun v9 => if v9 ≤ x2 then (kx126 S3) else ((gR S3 a0 7 4).bind fun b12 => (aN S3 b12).bind fun v14 => if v14 ≤ x2 then (kx126 S3) else (if gC S3 a0 = some 7 then (bd2 (f_X7_holds S3 a0 x2 a1 a2) fun v20 S19 => if v20 = 0 then (kb3 (x2 + 1) S19) else ((gR S19 a0 7 4).bind fun b22 => (aI S19 b22 0 x2).bind fun v25 => (gR S19 a0 7 3).bind fun b26 => (aI S19 b26 0 x2).bind fun v29 => if v29 = 98 then ((gIT S19 a1 5).bind fun v48 => (gR S19 a0 7 4).bind fun b50 => (aI S19 b50 0 x2).bind fun v53 => (f_X7_lawful_J81 a0 a1 a3 x2) (v48 + v53) S19) else ((f_X7_lawful_J81 a0 a1 a3 x2) v25 S19))) else none)))
def f_X7_lawful_L3 (a0 : Nat) (a1 : Nat) (a2 : Int32) (a3 : Int32) (kx126 : (HSt → Option (Int32 × HSt))) : Nat → Int32 → HSt → Option (Int32 × HSt)
  | 0, _, _ => none
  | n + 1, x2, S => f_X7_lawful_B3 a0 a1 a2 a3 kx126 (f_X7_lawful_L3 a0 a1 a2 a3 kx126 n) x2 S
def f_X7_lawful (S : HSt) (a0 : Nat) (a1 : Nat) (a2 : Int32) (a3 : Int32) : Option (Int32 × HSt) := (f_X7_lawful_L3 a0 a1 a2 a3 f_X7_lawful_K126 FU) 0 S
abbrev rm_X7_lawful : Room := { frames := 3, cells := 0, slots := 0, locals := 73 }
abbrev w_X7_lawful : List Cond := Cond.code yX7_lawful cX7_lawful 6 (Option.some FieldType.int) :: lwG
theorem yd_X7_lawful : yX7_lawful.cls ≠ "java/lang/invoke/MethodHandle" ∧ yX7_lawful.cls ≠ "java/lang/invoke/VarHandle" ∧ (parseMethodDescriptor yX7_lawful.desc).map (fun d => d.parameters.length) = some 3 := by decide +kernel
theorem ye_X7_lawful : yX7_lawful.cls = RX7 ∧ yX7_lawful.cls ≠ "java/lang/invoke/MethodHandle" ∧ yX7_lawful.cls ≠ "java/lang/invoke/VarHandle" ∧ (parseMethodDescriptor yX7_lawful.desc).map (fun d => d.parameters.length) = some 3 := by decide +kernel
set_option maxHeartbeats 4000000 in
set_option maxRecDepth 100000 in
theorem c_X7_lawful (l : Launch) (D : va_G) (kA ρ : Nat → Nat) (HB : Heap) (S : HSt) (a0 : Nat) (a1 : Nat) (a2 : Int32) (a3 : Int32) (res : Int32 × HSt) (h : f_X7_lawful S a0 a1 a2 a3 = some res) : Met l yX7_lawful w_X7_lawful rm_X7_lawful (hPc D kA ρ HB S [.ref a0, .ref a1, .int a2, .int a3]) (hQi D kA HB S res) 0 0 (hFree HB) := by
  refine Met.ofW (cc := cX7_lawful) (maxL := 6) (ret := (Option.some FieldType.int)) (by decide) rfl ?_
  intro p e s m args below meth c s₁ B hml hv
  obtain ⟨rfl, hE, h0⟩ := hv
  have hx := B.exec
  have hb := B.bytes
  have hr := B.returns
  have hts0 := atoms_spec (ws := w_X7_lawful) B.pre
  have hts : ∀ w ∈ lwG, w.before _ s = true := fun w hw => hts0 w (List.mem_cons_of_mem _ hw)
  have hown : s.vm.findClass RX7 = some m.cls := findClass_of_methodNamed B.named
  have hlocks := B.notSynchronized
  have hI : hqX D kA HB S.2 S s.heap [] := ⟨h0, Nat.le_refl _, fun _ q => absurd q List.not_mem_nil⟩
  have hl := lv_entry ([.ref a0, .ref a1, .int a2, .int a3]) (n := 6) (Nat.le_of_ble_eq_true rfl)
  rw [lg_entry_eq]
  generalize (lg_sl ([.ref a0, .ref a1, .int a2, .int a3]) ++ List.replicate (6 - (lg_sl ([.ref a0, .ref a1, .int a2, .int a3])).length) Slot.unset).toArray = ls at hl ⊢
  have hl : lv_has ls 6 [(0, .ref a0), (1, .ref a1), (2, .int a2), (3, .int a3)] := hl
  unfold f_X7_lawful at h
  refine lv_iconst (v := 0) hx hb dX7_lawful_0 (by decide) ?_
  refine lv_istore (lv' := [(4, .int 0), (0, .ref a0), (1, .ref a1), (2, .int a2), (3, .int a3)]) hx hb dX7_lawful_1 hl (by decide) rfl (fun ls hl => ?_)
  have hK126 : ∀ (S1 : HSt) (H : Heap) (locs : List Loc) (ls : Array Slot), f_X7_lawful_K126 S1 = some res → hqX D kA HB S.2 S1 H locs → lv_has ls 6 [] → W p l e rm_X7_lawful s m ([.ref a0, .ref a1, .int a2, .int a3] : List Value).toArray below meth c H locs 0 0 (MQ below (hQi D kA HB S res) ([.ref a0, .ref a1, .int a2, .int a3] : List Value).toArray s 0 0 (hFree HB)) (F0 m 126 ls []) := by
    intro S1 H locs ls h hI hl
    unfold f_X7_lawful_K126 at h
    refine lv_bipush (v := (-5)) hx hb dX7_lawful_126 (by decide) ?_
    exact hq_iret hx hb hr hlocks h0 hI h dX7_lawful_128
  have hL3 : ∀ (n3 : Nat) (x2 : Int32) (S3 : HSt) (H : Heap) (locs : List Loc) (ls : Array Slot), (f_X7_lawful_L3 a0 a1 a2 a3 f_X7_lawful_K126 n3) x2 S3 = some res → hqX D kA HB S.2 S3 H locs → lv_has ls 6 [(0, .ref a0), (1, .ref a1), (2, .int a2), (3, .int a3), (4, .int x2)] → W p l e rm_X7_lawful s m ([.ref a0, .ref a1, .int a2, .int a3] : List Value).toArray below meth c H locs 0 0 (MQ below (hQi D kA HB S res) ([.ref a0, .ref a1, .int a2, .int a3] : List Value).toArray s 0 0 (hFree HB)) (F0 m 3 ls []) := by
    intro n3
    induction n3 with
    | zero =>
      intro x2 S3 H locs ls h
      have h : (none : Option (Int32 × HSt)) = some res := h
      cases h
    | succ n3 ih3 =>
      intro x2 S3 H locs ls h hI hl
      have h : f_X7_lawful_B3 a0 a1 a2 a3 f_X7_lawful_K126 (f_X7_lawful_L3 a0 a1 a2 a3 f_X7_lawful_K126 n3) x2 S3 = some res := h
      unfold f_X7_lawful_B3 at h
      refine lv_iload hx hb dX7_lawful_3 (lv_at hl 4 rfl) ?_
      refine lv_aload_n hx hb dX7_lawful_5 rfl (lv_at hl 0 rfl) ?_
      obtain ⟨v4, g5, h⟩ := hq_bind h
      obtain ⟨fs_g5, hs_g5, hv_g5⟩ := gI_at g5
      refine hq_get hx hb hts hown hE hI hs_g5 inG7 rfl 7 (by decide) kw_102 hv_g5 dX7_lawful_6 ?_
      refine lv_icmp_ge (tgt := 126) hx hb dX7_lawful_9 (by decide) (fun c6 => ?_) (fun c6 => ?_)
      · have h := hq_t h c6
        exact hK126 S3 _ _ _ h hI (lv_sub hl [] rfl)
      · have h := hq_f h c6
        refine lv_iload hx hb dX7_lawful_12 (lv_at hl 4 rfl) ?_
        refine lv_aload_n hx hb dX7_lawful_14 rfl (lv_at hl 0 rfl) ?_
        obtain ⟨b7, g8, h⟩ := hq_bind h
        obtain ⟨fs_g8, hs_g8, hv_g8⟩ := gR_at g8
        refine hq_get hx hb hts hown hE hI hs_g8 inG7 rfl 3 (by decide) kw_98 hv_g8 dX7_lawful_15 ?_
        obtain ⟨v9, g10, h⟩ := hq_bind h
        refine hq_alen hx hb hE hI g10 dX7_lawful_18 ?_
        refine lv_icmp_ge (tgt := 126) hx hb dX7_lawful_19 (by decide) (fun c11 => ?_) (fun c11 => ?_)
        · have h := hq_t h c11
          exact hK126 S3 _ _ _ h hI (lv_sub hl [] rfl)
        · have h := hq_f h c11
          refine lv_iload hx hb dX7_lawful_22 (lv_at hl 4 rfl) ?_
          refine lv_aload_n hx hb dX7_lawful_24 rfl (lv_at hl 0 rfl) ?_
          obtain ⟨b12, g13, h⟩ := hq_bind h
          obtain ⟨fs_g13, hs_g13, hv_g13⟩ := gR_at g13
          refine hq_get hx hb hts hown hE hI hs_g13 inG7 rfl 4 (by decide) kw_99 hv_g13 dX7_lawful_25 ?_
          obtain ⟨v14, g15, h⟩ := hq_bind h
          refine hq_alen hx hb hE hI g15 dX7_lawful_28 ?_
          refine lv_icmp_ge (tgt := 126) hx hb dX7_lawful_29 (by decide) (fun c16 => ?_) (fun c16 => ?_)
          · have h := hq_t h c16
            exact hK126 S3 _ _ _ h hI (lv_sub hl [] rfl)
          · have h := hq_f h c16
            refine lv_aload_n hx hb dX7_lawful_32 rfl (lv_at hl 0 rfl) ?_
            refine lv_iload hx hb dX7_lawful_33 (lv_at hl 4 rfl) ?_
            refine lv_aload_n hx hb dX7_lawful_35 rfl (lv_at hl 1 rfl) ?_
            refine lv_iload_n hx hb dX7_lawful_36 rfl (lv_at hl 2 rfl) ?_
            obtain ⟨g18, h⟩ := hq_g h
            obtain ⟨v20, S19, g17, h⟩ := hq_bd2 h
            refine hq_calli hI (va_runV (As := [.int x2, .ref a1, .int a2]) (rest := []) ⟨hx, hb, hml, hown, hts⟩ (c_X7_holds l D kA ρ HB S3 a0 x2 a1 a2 _ g17) (cwV 3 hts (gdIn (List.forall_mem_cons.mpr ⟨kw_569, (List.forall_mem_cons.mpr ⟨kw_571, (List.forall_mem_cons.mpr ⟨ks_12, (List.forall_mem_cons.mpr ⟨kw_5, (fun _ h => absurd h List.not_mem_nil)⟩)⟩)⟩)⟩) kw_572) rfl rfl rfl ye_X7_holds ⟨Nat.le_of_ble_eq_true rfl, Nat.le_of_ble_eq_true rfl⟩) (hq_preC hE hI g18 rfl _) rfl rfl hl.1 rfl (lv_room (Nat.le_of_ble_eq_true rfl)) dX7_lawful_37 ⟨Nat.le_of_ble_eq_true rfl, Nat.le_of_ble_eq_true rfl⟩) (fun H locs hI => ?_)
            refine lv_if_ne (tgt := 46) hx hb dX7_lawful_40 (by decide) (fun c21 => ?_) (fun c21 => ?_)
            · have h := hq_f h c21
              refine lv_aload_n hx hb dX7_lawful_46 rfl (lv_at hl 0 rfl) ?_
              obtain ⟨b22, g23, h⟩ := hq_bind h
              obtain ⟨fs_g23, hs_g23, hv_g23⟩ := gR_at g23
              refine hq_get hx hb hts hown hE hI hs_g23 inG7 rfl 4 (by decide) kw_99 hv_g23 dX7_lawful_47 ?_
              refine lv_iload hx hb dX7_lawful_50 (lv_at hl 4 rfl) ?_
              obtain ⟨v25, g24, h⟩ := hq_bind h
              refine hq_iald hx hb hE hI g24 dX7_lawful_52 ?_
              refine lv_istore (lv' := [(5, .int v25), (0, .ref a0), (1, .ref a1), (2, .int a2), (3, .int a3), (4, .int x2)]) hx hb dX7_lawful_53 hl (by decide) rfl (fun ls hl => ?_)
              refine lv_aload_n hx hb dX7_lawful_55 rfl (lv_at hl 1 rfl) ?_
              obtain ⟨b26, g27, h⟩ := hq_bind h
              obtain ⟨fs_g27, hs_g27, hv_g27⟩ := gR_at g27
              refine hq_get hx hb hts hown hE hI hs_g27 inG7 rfl 3 (by decide) kw_98 hv_g27 dX7_lawful_56 ?_
              refine lv_iload hx hb dX7_lawful_59 (lv_at hl 5 rfl) ?_
              obtain ⟨v29, g28, h⟩ := hq_bind h
              refine hq_iald hx hb hE hI g28 dX7_lawful_61 ?_
              refine lv_bipush (v := 98) hx hb dX7_lawful_62 (by decide) ?_
              have hJ81 : ∀ (x30 : Int32) (S31 : HSt) (H : Heap) (locs : List Loc) (ls : Array Slot), (f_X7_lawful_J81 a0 a1 a3 x2) x30 S31 = some res → hqX D kA HB S.2 S31 H locs → lv_has ls 6 [(0, .ref a0), (1, .ref a1), (3, .int a3), (4, .int x2), (5, .int x30)] → W p l e rm_X7_lawful s m ([.ref a0, .ref a1, .int a2, .int a3] : List Value).toArray below meth c H locs 0 0 (MQ below (hQi D kA HB S res) ([.ref a0, .ref a1, .int a2, .int a3] : List Value).toArray s 0 0 (hFree HB)) (F0 m 81 ls []) := by
                intro x30 S31 H locs ls h hI hl
                unfold f_X7_lawful_J81 at h
                refine lv_aload_n hx hb dX7_lawful_81 rfl (lv_at hl 0 rfl) ?_
                obtain ⟨b32, g33, h⟩ := hq_bind h
                obtain ⟨fs_g33, hs_g33, hv_g33⟩ := gR_at g33
                refine hq_get hx hb hts hown hE hI hs_g33 inG7 rfl 3 (by decide) kw_98 hv_g33 dX7_lawful_82 ?_
                refine lv_iload hx hb dX7_lawful_85 (lv_at hl 3 rfl) ?_
                obtain ⟨v35, g34, h⟩ := hq_bind h
                refine hq_iald hx hb hE hI g34 dX7_lawful_87 ?_
                refine lv_bipush (v := 111) hx hb dX7_lawful_88 (by decide) ?_
                refine lv_icmp_ne (tgt := 107) hx hb dX7_lawful_90 (by decide) (fun c36 => ?_) (fun c36 => ?_)
                · have h := hq_f h c36
                  refine lv_iconst (v := 0) hx hb dX7_lawful_107 (by decide) ?_
                  refine lv_iload_n hx hb dX7_lawful_108 rfl (lv_at hl 2 rfl) ?_
                  refine lv_iconst (v := 1) hx hb dX7_lawful_109 (by decide) ?_
                  refine lv_isub hx hb dX7_lawful_110 ?_
                  refine lv_iload hx hb dX7_lawful_111 (lv_at hl 4 rfl) ?_
                  refine va_mmin hx hb (hml.trans hl.1.symm) hown (hts _ kw_737) (hts _ kw_507) (hts _ kw_14) (hts _ kw_508) (Nat.le_of_ble_eq_true rfl) (Nat.le_of_ble_eq_true rfl) (Nat.le_of_ble_eq_true rfl) (Nat.le_of_ble_eq_true rfl) dX7_lawful_113 ?_
                  refine lv_topi (fun v37 e_v37 => ?_)
                  have h := hq_nm h e_v37
                  refine va_mmax hx hb (hml.trans hl.1.symm) hown (hts _ kw_738) (hts _ kw_504) (hts _ kw_14) (hts _ kw_505) (Nat.le_of_ble_eq_true rfl) (Nat.le_of_ble_eq_true rfl) (Nat.le_of_ble_eq_true rfl) (Nat.le_of_ble_eq_true rfl) dX7_lawful_116 ?_
                  refine lv_topi (fun v38 e_v38 => ?_)
                  have h := hq_nm h e_v38
                  exact hq_iret hx hb hr hlocks h0 hI h dX7_lawful_119
                · have h := hq_t h c36
                  refine lv_aload_n hx hb dX7_lawful_93 rfl (lv_at hl 1 rfl) ?_
                  obtain ⟨v39, g40, h⟩ := hq_bind h
                  obtain ⟨c_g40, fs_g40, hk_g40, hs_g40, hv_g40⟩ := gIT_at g40
                  obtain ⟨C_g40, hc_g40, hi_g40⟩ := hKin_at hk_g40
                  refine hq_getN hx hb hts hown hE hI hs_g40 hi_g40 hc_g40 5 (by decide) kn_229 hv_g40 dX7_lawful_94 ?_
                  refine lv_aload_n hx hb dX7_lawful_97 rfl (lv_at hl 0 rfl) ?_
                  obtain ⟨b41, g42, h⟩ := hq_bind h
                  obtain ⟨fs_g42, hs_g42, hv_g42⟩ := gR_at g42
                  refine hq_get hx hb hts hown hE hI hs_g42 inG7 rfl 4 (by decide) kw_99 hv_g42 dX7_lawful_98 ?_
                  refine lv_iload hx hb dX7_lawful_101 (lv_at hl 3 rfl) ?_
                  obtain ⟨v44, g43, h⟩ := hq_bind h
                  refine hq_iald hx hb hE hI g43 dX7_lawful_103 ?_
                  refine lv_isub hx hb dX7_lawful_104 ?_
                  refine lv_istore (lv' := [(5, .int (v39 - v44)), (0, .ref a0), (1, .ref a1), (3, .int a3), (4, .int x2)]) hx hb dX7_lawful_105 hl (by decide) rfl (fun ls hl => ?_)
                  refine lv_iconst (v := 0) hx hb dX7_lawful_107 (by decide) ?_
                  refine lv_iload_n hx hb dX7_lawful_108 rfl (lv_at hl 3 rfl) ?_
                  refine lv_iconst (v := 1) hx hb dX7_lawful_109 (by decide) ?_
                  refine lv_isub hx hb dX7_lawful_110 ?_
                  refine lv_iload hx hb dX7_lawful_111 (lv_at hl 0 rfl) ?_
                  refine va_mmin hx hb (hml.trans hl.1.symm) hown (hts _ kw_737) (hts _ kw_507) (hts _ kw_14) (hts _ kw_508) (Nat.le_of_ble_eq_true rfl) (Nat.le_of_ble_eq_true rfl) (Nat.le_of_ble_eq_true rfl) (Nat.le_of_ble_eq_true rfl) dX7_lawful_113 ?_
                  refine lv_topi (fun v45 e_v45 => ?_)
                  have h := hq_nm h e_v45
                  refine va_mmax hx hb (hml.trans hl.1.symm) hown (hts _ kw_738) (hts _ kw_504) (hts _ kw_14) (hts _ kw_505) (Nat.le_of_ble_eq_true rfl) (Nat.le_of_ble_eq_true rfl) (Nat.le_of_ble_eq_true rfl) (Nat.le_of_ble_eq_true rfl) dX7_lawful_116 ?_
                  refine lv_topi (fun v46 e_v46 => ?_)
                  have h := hq_nm h e_v46
                  exact hq_iret hx hb hr hlocks h0 hI h dX7_lawful_119
              refine lv_icmp_ne (tgt := 81) hx hb dX7_lawful_64 (by decide) (fun c47 => ?_) (fun c47 => ?_)
              · have h := hq_f h c47
                exact hJ81 v25 S19 _ _ _ h hI (lv_sub hl [1, 2, 4, 5, 0] rfl)
              · have h := hq_t h c47
                refine lv_aload_n hx hb dX7_lawful_67 rfl (lv_at hl 2 rfl) ?_
                obtain ⟨v48, g49, h⟩ := hq_bind h
                obtain ⟨c_g49, fs_g49, hk_g49, hs_g49, hv_g49⟩ := gIT_at g49
                obtain ⟨C_g49, hc_g49, hi_g49⟩ := hKin_at hk_g49
                refine hq_getN hx hb hts hown hE hI hs_g49 hi_g49 hc_g49 5 (by decide) kn_229 hv_g49 dX7_lawful_68 ?_
                refine lv_aload_n hx hb dX7_lawful_71 rfl (lv_at hl 1 rfl) ?_
                obtain ⟨b50, g51, h⟩ := hq_bind h
                obtain ⟨fs_g51, hs_g51, hv_g51⟩ := gR_at g51
                refine hq_get hx hb hts hown hE hI hs_g51 inG7 rfl 4 (by decide) kw_99 hv_g51 dX7_lawful_72 ?_
                refine lv_iload hx hb dX7_lawful_75 (lv_at hl 5 rfl) ?_
                obtain ⟨v53, g52, h⟩ := hq_bind h
                refine hq_iald hx hb hE hI g52 dX7_lawful_77 ?_
                refine lv_iadd hx hb dX7_lawful_78 ?_
                refine lv_istore (lv' := [(5, .int (v48 + v53)), (0, .ref a0), (1, .ref a1), (2, .int a2), (3, .int a3), (4, .int x2)]) hx hb dX7_lawful_79 hl (by decide) rfl (fun ls hl => ?_)
                exact hJ81 (v48 + v53) S19 _ _ _ h hI (lv_sub hl [1, 2, 4, 5, 0] rfl)
            · have h := hq_t h c21
              refine lv_goto (tgt := 120) hx hb dX7_lawful_43 (by decide) ?_
              refine lv_iinc (v := (x2 + 1)) (lv' := [(4, .int (x2 + 1)), (0, .ref a0), (1, .ref a1), (2, .int a2), (3, .int a3)]) hx hb dX7_lawful_120 hl (k := 4) rfl rfl (by decide) rfl (fun ls hl => ?_)
              refine lv_goto (tgt := 3) hx hb dX7_lawful_123 (by decide) ?_
              exact ih3 (x2 + 1) S19 _ _ _ h hI (lv_sub hl [1, 2, 3, 4, 0] rfl)
  exact hL3 FU 0 S _ _ _ h hI (lv_sub hl [1, 2, 3, 4, 0] rfl)
-- RodDips$Tape.add(JI)Z
theorem dX6_add_0 : decode cX6_add 0 = .ok (.iload_n 3, 1) := by decide +kernel
theorem dX6_add_1 : decode cX6_add 1 = .ok (.aload_n 0, 1) := by decide +kernel
theorem dX6_add_2 : decode cX6_add 2 = .ok (.getfield 9, 3) := by decide +kernel
theorem dX6_add_5 : decode cX6_add 5 = .ok (.arraylength, 1) := by decide +kernel
theorem dX6_add_6 : decode cX6_add 6 = .ok (.aload_n 0, 1) := by decide +kernel
theorem dX6_add_7 : decode cX6_add 7 = .ok (.getfield 15, 3) := by decide +kernel
theorem dX6_add_10 : decode cX6_add 10 = .ok (.isub, 1) := by decide +kernel
theorem dX6_add_11 : decode cX6_add 11 = .ok (.if_icmp .le 5, 3) := by decide +kernel
theorem dX6_add_14 : decode cX6_add 14 = .ok (.iconst 0, 1) := by decide +kernel
theorem dX6_add_15 : decode cX6_add 15 = .ok (.ireturn, 1) := by decide +kernel
theorem dX6_add_16 : decode cX6_add 16 = .ok (.iload_n 3, 1) := by decide +kernel
theorem dX6_add_17 : decode cX6_add 17 = .ok (.iconst 1, 1) := by decide +kernel
theorem dX6_add_18 : decode cX6_add 18 = .ok (.isub, 1) := by decide +kernel
theorem dX6_add_19 : decode cX6_add 19 = .ok (.istore 4, 2) := by decide +kernel
theorem dX6_add_21 : decode cX6_add 21 = .ok (.iload 4, 2) := by decide +kernel
theorem dX6_add_23 : decode cX6_add 23 = .ok (.ifCond .lt 49, 3) := by decide +kernel
theorem dX6_add_26 : decode cX6_add 26 = .ok (.aload_n 0, 1) := by decide +kernel
theorem dX6_add_27 : decode cX6_add 27 = .ok (.getfield 15, 3) := by decide +kernel
theorem dX6_add_30 : decode cX6_add 30 = .ok (.aload_n 0, 1) := by decide +kernel
theorem dX6_add_31 : decode cX6_add 31 = .ok (.getfield 9, 3) := by decide +kernel
theorem dX6_add_34 : decode cX6_add 34 = .ok (.arraylength, 1) := by decide +kernel
theorem dX6_add_35 : decode cX6_add 35 = .ok (.if_icmp .ge 37, 3) := by decide +kernel
theorem dX6_add_38 : decode cX6_add 38 = .ok (.aload_n 0, 1) := by decide +kernel
theorem dX6_add_39 : decode cX6_add 39 = .ok (.getfield 9, 3) := by decide +kernel
theorem dX6_add_42 : decode cX6_add 42 = .ok (.aload_n 0, 1) := by decide +kernel
theorem dX6_add_43 : decode cX6_add 43 = .ok (.getfield 15, 3) := by decide +kernel
theorem dX6_add_46 : decode cX6_add 46 = .ok (.lload_n 1, 1) := by decide +kernel
theorem dX6_add_47 : decode cX6_add 47 = .ok (.bipush 8, 2) := by decide +kernel
theorem dX6_add_49 : decode cX6_add 49 = .ok (.iload 4, 2) := by decide +kernel
theorem dX6_add_51 : decode cX6_add 51 = .ok (.imul, 1) := by decide +kernel
theorem dX6_add_52 : decode cX6_add 52 = .ok (.lushr, 1) := by decide +kernel
theorem dX6_add_53 : decode cX6_add 53 = .ok (.l2i, 1) := by decide +kernel
theorem dX6_add_54 : decode cX6_add 54 = .ok (.i2b, 1) := by decide +kernel
theorem dX6_add_55 : decode cX6_add 55 = .ok (.bastore, 1) := by decide +kernel
theorem dX6_add_56 : decode cX6_add 56 = .ok (.aload_n 0, 1) := by decide +kernel
theorem dX6_add_57 : decode cX6_add 57 = .ok (.dup, 1) := by decide +kernel
theorem dX6_add_58 : decode cX6_add 58 = .ok (.getfield 15, 3) := by decide +kernel
theorem dX6_add_61 : decode cX6_add 61 = .ok (.iconst 1, 1) := by decide +kernel
theorem dX6_add_62 : decode cX6_add 62 = .ok (.iadd, 1) := by decide +kernel
theorem dX6_add_63 : decode cX6_add 63 = .ok (.putfield 15, 3) := by decide +kernel
theorem dX6_add_66 : decode cX6_add 66 = .ok (.iinc 4 (-1), 3) := by decide +kernel
theorem dX6_add_69 : decode cX6_add 69 = .ok (.goto (-48), 3) := by decide +kernel
theorem dX6_add_72 : decode cX6_add 72 = .ok (.iconst 1, 1) := by decide +kernel
theorem dX6_add_73 : decode cX6_add 73 = .ok (.ireturn, 1) := by decide +kernel
def f_X6_add_K72 (S8 : HSt) : Option (Int32 × HSt) := some (1, S8)
def f_X6_add_B21 (a0 : Nat) (a1 : Int64) (kx72 : (HSt → Option (Int32 × HSt))) (kb21 : (Int32 → HSt → Option (Int32 × HSt))) (x9 : Int32) (S10 : HSt) : Option (Int32 × HSt) := if x9 < 0 then (kx72 S10) else ((gI S10 a0 6 1).bind fun v12 => (gR S10 a0 6 0).bind fun b14 => (aN S10 b14).bind fun v16 => if v16 ≤ v12 then (kx72 S10) else ((gR S10 a0 6 0).bind fun b19 => (gI S10 a0 6 1).bind fun v21 => (sI S10 b19 1 v21 (Int32.toInt8 ((Int32.toInt8 (Int64.toInt32 ((Int64.toUInt64 a1 >>> ((Int32.toInt64 (8 * x9)).toUInt64 &&& Int64.toUInt64 63)).toInt64))).toInt32)).toInt32).bind fun S24 => (gI S24 a0 6 1).bind fun v25 => (pV S24 a0 6 1 (.int (v25 + 1))).bind fun S27 => kb21 (x9 + (-1)) S27))
def f_X6_add_L21 (a0 : Nat) (a1 : Int64) (kx72 : (HSt → Option (Int32 × HSt))) : Nat → Int32 → HSt → Option (Int32 × HSt)
  | 0, _, _ => none
  | n + 1, x9, S => f_X6_add_B21 a0 a1 kx72 (f_X6_add_L21 a0 a1 kx72 n) x9 S
def f_X6_add (S : HSt) (a0 : Nat) (a1 : Int64) (a2 : Int32) : Option (Int32 × HSt) := (gR S a0 6 0).bind fun b1 => (aN S b1).bind fun v3 => (gI S a0 6 1).bind fun v5 => if a2 ≤ (v3 - v5) then ((f_X6_add_L21 a0 a1 f_X6_add_K72 FU) (a2 - 1) S) else (some (0, S))
abbrev rm_X6_add : Room := { frames := 0, cells := 0, slots := 0, locals := 0 }
abbrev w_X6_add : List Cond := Cond.code yX6_add cX6_add 5 (Option.some FieldType.boolean) :: lwG
theorem yd_X6_add : yX6_add.cls ≠ "java/lang/invoke/MethodHandle" ∧ yX6_add.cls ≠ "java/lang/invoke/VarHandle" ∧ (parseMethodDescriptor yX6_add.desc).map (fun d => d.parameters.length) = some 2 := by decide +kernel
theorem ye_X6_add : yX6_add.cls = RX6 ∧ yX6_add.cls ≠ "java/lang/invoke/MethodHandle" ∧ yX6_add.cls ≠ "java/lang/invoke/VarHandle" ∧ (parseMethodDescriptor yX6_add.desc).map (fun d => d.parameters.length) = some 2 := by decide +kernel
set_option maxHeartbeats 4000000 in
set_option maxRecDepth 100000 in
theorem c_X6_add (l : Launch) (D : va_G) (kA ρ : Nat → Nat) (HB : Heap) (S : HSt) (a0 : Nat) (a1 : Int64) (a2 : Int32) (res : Int32 × HSt) (h : f_X6_add S a0 a1 a2 = some res) : Met l yX6_add w_X6_add rm_X6_add (hPc D kA ρ HB S [.ref a0, .long a1, .int a2]) (hQi D kA HB S res) 0 0 (hFree HB) := by
  refine Met.ofW (cc := cX6_add) (maxL := 5) (ret := (Option.some FieldType.boolean)) (by decide) rfl ?_
  intro p e s m args below meth c s₁ B hml hv
  obtain ⟨rfl, hE, h0⟩ := hv
  have hx := B.exec
  have hb := B.bytes
  have hr := B.returns
  have hts0 := atoms_spec (ws := w_X6_add) B.pre
  have hts : ∀ w ∈ lwG, w.before _ s = true := fun w hw => hts0 w (List.mem_cons_of_mem _ hw)
  have hown : s.vm.findClass RX6 = some m.cls := findClass_of_methodNamed B.named
  have hlocks := B.notSynchronized
  have hI : hqX D kA HB S.2 S s.heap [] := ⟨h0, Nat.le_refl _, fun _ q => absurd q List.not_mem_nil⟩
  have hl := lv_entry ([.ref a0, .long a1, .int a2]) (n := 5) (Nat.le_of_ble_eq_true rfl)
  rw [lg_entry_eq]
  generalize (lg_sl ([.ref a0, .long a1, .int a2]) ++ List.replicate (5 - (lg_sl ([.ref a0, .long a1, .int a2])).length) Slot.unset).toArray = ls at hl ⊢
  have hl : lv_has ls 5 [(0, .ref a0), (1, .long a1), (3, .int a2)] := hl
  unfold f_X6_add at h
  refine lv_iload_n hx hb dX6_add_0 rfl (lv_at hl 2 rfl) ?_
  refine lv_aload_n hx hb dX6_add_1 rfl (lv_at hl 0 rfl) ?_
  obtain ⟨b1, g2, h⟩ := hq_bind h
  obtain ⟨fs_g2, hs_g2, hv_g2⟩ := gR_at g2
  refine hq_get hx hb hts hown hE hI hs_g2 inG6 rfl 0 (by decide) kw_39 hv_g2 dX6_add_2 ?_
  obtain ⟨v3, g4, h⟩ := hq_bind h
  refine hq_alen hx hb hE hI g4 dX6_add_5 ?_
  refine lv_aload_n hx hb dX6_add_6 rfl (lv_at hl 0 rfl) ?_
  obtain ⟨v5, g6, h⟩ := hq_bind h
  obtain ⟨fs_g6, hs_g6, hv_g6⟩ := gI_at g6
  refine hq_get hx hb hts hown hE hI hs_g6 inG6 rfl 1 (by decide) kw_40 hv_g6 dX6_add_7 ?_
  refine lv_isub hx hb dX6_add_10 ?_
  refine lv_icmp_le (tgt := 16) hx hb dX6_add_11 (by decide) (fun c7 => ?_) (fun c7 => ?_)
  · have h := hq_t h c7
    refine lv_iload_n hx hb dX6_add_16 rfl (lv_at hl 2 rfl) ?_
    refine lv_iconst (v := 1) hx hb dX6_add_17 (by decide) ?_
    refine lv_isub hx hb dX6_add_18 ?_
    refine lv_istore (lv' := [(4, .int (a2 - 1)), (0, .ref a0), (1, .long a1), (3, .int a2)]) hx hb dX6_add_19 hl (by decide) rfl (fun ls hl => ?_)
    have hK72 : ∀ (S8 : HSt) (H : Heap) (locs : List Loc) (ls : Array Slot), f_X6_add_K72 S8 = some res → hqX D kA HB S.2 S8 H locs → lv_has ls 5 [] → W p l e rm_X6_add s m ([.ref a0, .long a1, .int a2] : List Value).toArray below meth c H locs 0 0 (MQ below (hQi D kA HB S res) ([.ref a0, .long a1, .int a2] : List Value).toArray s 0 0 (hFree HB)) (F0 m 72 ls []) := by
      intro S8 H locs ls h hI hl
      unfold f_X6_add_K72 at h
      refine lv_iconst (v := 1) hx hb dX6_add_72 (by decide) ?_
      exact hq_zret hx hb hr hlocks h0 hI (by decide) h dX6_add_73
    have hL21 : ∀ (n21 : Nat) (x9 : Int32) (S10 : HSt) (H : Heap) (locs : List Loc) (ls : Array Slot), (f_X6_add_L21 a0 a1 f_X6_add_K72 n21) x9 S10 = some res → hqX D kA HB S.2 S10 H locs → lv_has ls 5 [(0, .ref a0), (1, .long a1), (4, .int x9)] → W p l e rm_X6_add s m ([.ref a0, .long a1, .int a2] : List Value).toArray below meth c H locs 0 0 (MQ below (hQi D kA HB S res) ([.ref a0, .long a1, .int a2] : List Value).toArray s 0 0 (hFree HB)) (F0 m 21 ls []) := by
      intro n21
      induction n21 with
      | zero =>
        intro x9 S10 H locs ls h
        have h : (none : Option (Int32 × HSt)) = some res := h
        cases h
      | succ n21 ih21 =>
        intro x9 S10 H locs ls h hI hl
        have h : f_X6_add_B21 a0 a1 f_X6_add_K72 (f_X6_add_L21 a0 a1 f_X6_add_K72 n21) x9 S10 = some res := h
        unfold f_X6_add_B21 at h
        refine lv_iload hx hb dX6_add_21 (lv_at hl 2 rfl) ?_
        refine lv_if_lt (tgt := 72) hx hb dX6_add_23 (by decide) (fun c11 => ?_) (fun c11 => ?_)
        · have h := hq_t h c11
          exact hK72 S10 _ _ _ h hI (lv_sub hl [] rfl)
        · have h := hq_f h c11
          refine lv_aload_n hx hb dX6_add_26 rfl (lv_at hl 0 rfl) ?_
          obtain ⟨v12, g13, h⟩ := hq_bind h
          obtain ⟨fs_g13, hs_g13, hv_g13⟩ := gI_at g13
          refine hq_get hx hb hts hown hE hI hs_g13 inG6 rfl 1 (by decide) kw_40 hv_g13 dX6_add_27 ?_
          refine lv_aload_n hx hb dX6_add_30 rfl (lv_at hl 0 rfl) ?_
          obtain ⟨b14, g15, h⟩ := hq_bind h
          obtain ⟨fs_g15, hs_g15, hv_g15⟩ := gR_at g15
          refine hq_get hx hb hts hown hE hI hs_g15 inG6 rfl 0 (by decide) kw_39 hv_g15 dX6_add_31 ?_
          obtain ⟨v16, g17, h⟩ := hq_bind h
          refine hq_alen hx hb hE hI g17 dX6_add_34 ?_
          refine lv_icmp_ge (tgt := 72) hx hb dX6_add_35 (by decide) (fun c18 => ?_) (fun c18 => ?_)
          · have h := hq_t h c18
            exact hK72 S10 _ _ _ h hI (lv_sub hl [] rfl)
          · have h := hq_f h c18
            refine lv_aload_n hx hb dX6_add_38 rfl (lv_at hl 0 rfl) ?_
            obtain ⟨b19, g20, h⟩ := hq_bind h
            obtain ⟨fs_g20, hs_g20, hv_g20⟩ := gR_at g20
            refine hq_get hx hb hts hown hE hI hs_g20 inG6 rfl 0 (by decide) kw_39 hv_g20 dX6_add_39 ?_
            refine lv_aload_n hx hb dX6_add_42 rfl (lv_at hl 0 rfl) ?_
            obtain ⟨v21, g22, h⟩ := hq_bind h
            obtain ⟨fs_g22, hs_g22, hv_g22⟩ := gI_at g22
            refine hq_get hx hb hts hown hE hI hs_g22 inG6 rfl 1 (by decide) kw_40 hv_g22 dX6_add_43 ?_
            refine lv_lload_n hx hb dX6_add_46 rfl (lv_at hl 1 rfl) ?_
            refine lv_bipush (v := 8) hx hb dX6_add_47 (by decide) ?_
            refine lv_iload hx hb dX6_add_49 (lv_at hl 2 rfl) ?_
            refine lv_imul hx hb dX6_add_51 ?_
            refine lv_lushr (v := (Int64.toUInt64 a1 >>> ((Int32.toInt64 (8 * x9)).toUInt64 &&& Int64.toUInt64 63)).toInt64) hx hb dX6_add_52 rfl ?_
            refine lv_l2i (v := Int64.toInt32 ((Int64.toUInt64 a1 >>> ((Int32.toInt64 (8 * x9)).toUInt64 &&& Int64.toUInt64 63)).toInt64)) hx hb dX6_add_53 rfl ?_
            refine lv_i2b (v := (Int32.toInt8 (Int64.toInt32 ((Int64.toUInt64 a1 >>> ((Int32.toInt64 (8 * x9)).toUInt64 &&& Int64.toUInt64 63)).toInt64))).toInt32) hx hb dX6_add_54 rfl ?_
            obtain ⟨S24, g23, h⟩ := hq_bind h
            refine hq_bast hx hb hE hI g23 dX6_add_55 (fun H locs hI => ?_)
            refine lv_aload_n hx hb dX6_add_56 rfl (lv_at hl 0 rfl) ?_
            refine lv_dup hx hb dX6_add_57 rfl ?_
            obtain ⟨v25, g26, h⟩ := hq_bind h
            obtain ⟨fs_g26, hs_g26, hv_g26⟩ := gI_at g26
            refine hq_get hx hb hts hown hE hI hs_g26 inG6 rfl 1 (by decide) kw_40 hv_g26 dX6_add_58 ?_
            refine lv_iconst (v := 1) hx hb dX6_add_61 (by decide) ?_
            refine lv_iadd hx hb dX6_add_62 ?_
            obtain ⟨S27, g28, h⟩ := hq_bind h
            obtain ⟨fs_g28, hs_g28, hl_g28, e_g28⟩ := pV_at g28
            refine hq_put hx hb hts hown hE hI hs_g28 inG6 tyX6 tyX6_ok nmX6 rfl 1 (by decide) kw_40 rfl (v := .int (v25 + 1)) rfl rfl rfl hl_g28 e_g28 dX6_add_63 (fun H locs hI => ?_)
            refine lv_iinc (v := (x9 + (-1))) (lv' := [(4, .int (x9 + (-1))), (0, .ref a0), (1, .long a1)]) hx hb dX6_add_66 hl (k := 2) rfl rfl (by decide) rfl (fun ls hl => ?_)
            refine lv_goto (tgt := 21) hx hb dX6_add_69 (by decide) ?_
            exact ih21 (x9 + (-1)) S27 _ _ _ h hI (lv_sub hl [1, 2, 0] rfl)
    exact hL21 FU (a2 - 1) S _ _ _ h hI (lv_sub hl [1, 2, 0] rfl)
  · have h := hq_f h c7
    refine lv_iconst (v := 0) hx hb dX6_add_14 (by decide) ?_
    exact hq_zret hx hb hr hlocks h0 hI (by decide) h dX6_add_15
-- RodDips$Tape.look()I
theorem dX6_look_0 : decode cX6_look 0 = .ok (.aload_n 0, 1) := by decide +kernel
theorem dX6_look_1 : decode cX6_look 1 = .ok (.getfield 19, 3) := by decide +kernel
theorem dX6_look_4 : decode cX6_look 4 = .ok (.ifCond .lt 42, 3) := by decide +kernel
theorem dX6_look_7 : decode cX6_look 7 = .ok (.aload_n 0, 1) := by decide +kernel
theorem dX6_look_8 : decode cX6_look 8 = .ok (.getfield 19, 3) := by decide +kernel
theorem dX6_look_11 : decode cX6_look 11 = .ok (.aload_n 0, 1) := by decide +kernel
theorem dX6_look_12 : decode cX6_look 12 = .ok (.getfield 15, 3) := by decide +kernel
theorem dX6_look_15 : decode cX6_look 15 = .ok (.if_icmp .ge 31, 3) := by decide +kernel
theorem dX6_look_18 : decode cX6_look 18 = .ok (.aload_n 0, 1) := by decide +kernel
theorem dX6_look_19 : decode cX6_look 19 = .ok (.getfield 19, 3) := by decide +kernel
theorem dX6_look_22 : decode cX6_look 22 = .ok (.aload_n 0, 1) := by decide +kernel
theorem dX6_look_23 : decode cX6_look 23 = .ok (.getfield 9, 3) := by decide +kernel
theorem dX6_look_26 : decode cX6_look 26 = .ok (.arraylength, 1) := by decide +kernel
theorem dX6_look_27 : decode cX6_look 27 = .ok (.if_icmp .ge 19, 3) := by decide +kernel
theorem dX6_look_30 : decode cX6_look 30 = .ok (.aload_n 0, 1) := by decide +kernel
theorem dX6_look_31 : decode cX6_look 31 = .ok (.getfield 9, 3) := by decide +kernel
theorem dX6_look_34 : decode cX6_look 34 = .ok (.aload_n 0, 1) := by decide +kernel
theorem dX6_look_35 : decode cX6_look 35 = .ok (.getfield 19, 3) := by decide +kernel
theorem dX6_look_38 : decode cX6_look 38 = .ok (.baload, 1) := by decide +kernel
theorem dX6_look_39 : decode cX6_look 39 = .ok (.sipush 255, 3) := by decide +kernel
theorem dX6_look_42 : decode cX6_look 42 = .ok (.iand, 1) := by decide +kernel
theorem dX6_look_43 : decode cX6_look 43 = .ok (.goto 4, 3) := by decide +kernel
theorem dX6_look_46 : decode cX6_look 46 = .ok (.iconst (-1), 1) := by decide +kernel
theorem dX6_look_47 : decode cX6_look 47 = .ok (.ireturn, 1) := by decide +kernel
def f_X6_look (S : HSt) (a0 : Nat) : Option (Int32 × HSt) := (gI S a0 6 2).bind fun v1 => if v1 < 0 then (some ((-1), S)) else ((gI S a0 6 2).bind fun v4 => (gI S a0 6 1).bind fun v6 => if v6 ≤ v4 then (some ((-1), S)) else ((gI S a0 6 2).bind fun v9 => (gR S a0 6 0).bind fun b11 => (aN S b11).bind fun v13 => if v13 ≤ v9 then (some ((-1), S)) else ((gR S a0 6 0).bind fun b16 => (gI S a0 6 2).bind fun v18 => (aI S b16 1 v18).bind fun v21 => some (v21 &&& 255, S))))
abbrev rm_X6_look : Room := { frames := 0, cells := 0, slots := 0, locals := 0 }
abbrev w_X6_look : List Cond := Cond.code yX6_look cX6_look 1 (Option.some FieldType.int) :: lwG
theorem yd_X6_look : yX6_look.cls ≠ "java/lang/invoke/MethodHandle" ∧ yX6_look.cls ≠ "java/lang/invoke/VarHandle" ∧ (parseMethodDescriptor yX6_look.desc).map (fun d => d.parameters.length) = some 0 := by decide +kernel
theorem ye_X6_look : yX6_look.cls = RX6 ∧ yX6_look.cls ≠ "java/lang/invoke/MethodHandle" ∧ yX6_look.cls ≠ "java/lang/invoke/VarHandle" ∧ (parseMethodDescriptor yX6_look.desc).map (fun d => d.parameters.length) = some 0 := by decide +kernel
set_option maxHeartbeats 4000000 in
set_option maxRecDepth 100000 in
theorem c_X6_look (l : Launch) (D : va_G) (kA ρ : Nat → Nat) (HB : Heap) (S : HSt) (a0 : Nat) (res : Int32 × HSt) (h : f_X6_look S a0 = some res) : Met l yX6_look w_X6_look rm_X6_look (hPc D kA ρ HB S [.ref a0]) (hQi D kA HB S res) 0 0 (hFree HB) := by
  refine Met.ofW (cc := cX6_look) (maxL := 1) (ret := (Option.some FieldType.int)) (by decide) rfl ?_
  intro p e s m args below meth c s₁ B hml hv
  obtain ⟨rfl, hE, h0⟩ := hv
  have hx := B.exec
  have hb := B.bytes
  have hr := B.returns
  have hts0 := atoms_spec (ws := w_X6_look) B.pre
  have hts : ∀ w ∈ lwG, w.before _ s = true := fun w hw => hts0 w (List.mem_cons_of_mem _ hw)
  have hown : s.vm.findClass RX6 = some m.cls := findClass_of_methodNamed B.named
  have hlocks := B.notSynchronized
  have hI : hqX D kA HB S.2 S s.heap [] := ⟨h0, Nat.le_refl _, fun _ q => absurd q List.not_mem_nil⟩
  have hl := lv_entry ([.ref a0]) (n := 1) (Nat.le_of_ble_eq_true rfl)
  rw [lg_entry_eq]
  generalize (lg_sl ([.ref a0]) ++ List.replicate (1 - (lg_sl ([.ref a0])).length) Slot.unset).toArray = ls at hl ⊢
  have hl : lv_has ls 1 [(0, .ref a0)] := hl
  unfold f_X6_look at h
  refine lv_aload_n hx hb dX6_look_0 rfl (lv_at hl 0 rfl) ?_
  obtain ⟨v1, g2, h⟩ := hq_bind h
  obtain ⟨fs_g2, hs_g2, hv_g2⟩ := gI_at g2
  refine hq_get hx hb hts hown hE hI hs_g2 inG6 rfl 2 (by decide) kw_42 hv_g2 dX6_look_1 ?_
  refine lv_if_lt (tgt := 46) hx hb dX6_look_4 (by decide) (fun c3 => ?_) (fun c3 => ?_)
  · have h := hq_t h c3
    refine lv_iconst (v := (-1)) hx hb dX6_look_46 (by decide) ?_
    exact hq_iret hx hb hr hlocks h0 hI h dX6_look_47
  · have h := hq_f h c3
    refine lv_aload_n hx hb dX6_look_7 rfl (lv_at hl 0 rfl) ?_
    obtain ⟨v4, g5, h⟩ := hq_bind h
    obtain ⟨fs_g5, hs_g5, hv_g5⟩ := gI_at g5
    refine hq_get hx hb hts hown hE hI hs_g5 inG6 rfl 2 (by decide) kw_42 hv_g5 dX6_look_8 ?_
    refine lv_aload_n hx hb dX6_look_11 rfl (lv_at hl 0 rfl) ?_
    obtain ⟨v6, g7, h⟩ := hq_bind h
    obtain ⟨fs_g7, hs_g7, hv_g7⟩ := gI_at g7
    refine hq_get hx hb hts hown hE hI hs_g7 inG6 rfl 1 (by decide) kw_40 hv_g7 dX6_look_12 ?_
    refine lv_icmp_ge (tgt := 46) hx hb dX6_look_15 (by decide) (fun c8 => ?_) (fun c8 => ?_)
    · have h := hq_t h c8
      refine lv_iconst (v := (-1)) hx hb dX6_look_46 (by decide) ?_
      exact hq_iret hx hb hr hlocks h0 hI h dX6_look_47
    · have h := hq_f h c8
      refine lv_aload_n hx hb dX6_look_18 rfl (lv_at hl 0 rfl) ?_
      obtain ⟨v9, g10, h⟩ := hq_bind h
      obtain ⟨fs_g10, hs_g10, hv_g10⟩ := gI_at g10
      refine hq_get hx hb hts hown hE hI hs_g10 inG6 rfl 2 (by decide) kw_42 hv_g10 dX6_look_19 ?_
      refine lv_aload_n hx hb dX6_look_22 rfl (lv_at hl 0 rfl) ?_
      obtain ⟨b11, g12, h⟩ := hq_bind h
      obtain ⟨fs_g12, hs_g12, hv_g12⟩ := gR_at g12
      refine hq_get hx hb hts hown hE hI hs_g12 inG6 rfl 0 (by decide) kw_39 hv_g12 dX6_look_23 ?_
      obtain ⟨v13, g14, h⟩ := hq_bind h
      refine hq_alen hx hb hE hI g14 dX6_look_26 ?_
      refine lv_icmp_ge (tgt := 46) hx hb dX6_look_27 (by decide) (fun c15 => ?_) (fun c15 => ?_)
      · have h := hq_t h c15
        refine lv_iconst (v := (-1)) hx hb dX6_look_46 (by decide) ?_
        exact hq_iret hx hb hr hlocks h0 hI h dX6_look_47
      · have h := hq_f h c15
        refine lv_aload_n hx hb dX6_look_30 rfl (lv_at hl 0 rfl) ?_
        obtain ⟨b16, g17, h⟩ := hq_bind h
        obtain ⟨fs_g17, hs_g17, hv_g17⟩ := gR_at g17
        refine hq_get hx hb hts hown hE hI hs_g17 inG6 rfl 0 (by decide) kw_39 hv_g17 dX6_look_31 ?_
        refine lv_aload_n hx hb dX6_look_34 rfl (lv_at hl 0 rfl) ?_
        obtain ⟨v18, g19, h⟩ := hq_bind h
        obtain ⟨fs_g19, hs_g19, hv_g19⟩ := gI_at g19
        refine hq_get hx hb hts hown hE hI hs_g19 inG6 rfl 2 (by decide) kw_42 hv_g19 dX6_look_35 ?_
        obtain ⟨v21, g20, h⟩ := hq_bind h
        refine hq_bald hx hb hE hI g20 dX6_look_38 ?_
        refine lv_sipush (v := 255) hx hb dX6_look_39 (by decide) ?_
        refine lv_iand hx hb dX6_look_42 ?_
        refine lv_goto (tgt := 47) hx hb dX6_look_43 (by decide) ?_
        exact hq_iret hx hb hr hlocks h0 hI h dX6_look_47
-- RodDips$Tape.readNumber()I
theorem dX6_readNumber_0 : decode cX6_readNumber 0 = .ok (.aload_n 0, 1) := by decide +kernel
theorem dX6_readNumber_1 : decode cX6_readNumber 1 = .ok (.invokevirtual 43, 3) := by decide +kernel
theorem dX6_readNumber_4 : decode cX6_readNumber 4 = .ok (.bipush 48, 2) := by decide +kernel
theorem dX6_readNumber_6 : decode cX6_readNumber 6 = .ok (.isub, 1) := by decide +kernel
theorem dX6_readNumber_7 : decode cX6_readNumber 7 = .ok (.istore_n 1, 1) := by decide +kernel
theorem dX6_readNumber_8 : decode cX6_readNumber 8 = .ok (.iload_n 1, 1) := by decide +kernel
theorem dX6_readNumber_9 : decode cX6_readNumber 9 = .ok (.ifCond .lt 9, 3) := by decide +kernel
theorem dX6_readNumber_12 : decode cX6_readNumber 12 = .ok (.iload_n 1, 1) := by decide +kernel
theorem dX6_readNumber_13 : decode cX6_readNumber 13 = .ok (.bipush 9, 2) := by decide +kernel
theorem dX6_readNumber_15 : decode cX6_readNumber 15 = .ok (.if_icmp .le 5, 3) := by decide +kernel
theorem dX6_readNumber_18 : decode cX6_readNumber 18 = .ok (.iconst (-1), 1) := by decide +kernel
theorem dX6_readNumber_19 : decode cX6_readNumber 19 = .ok (.ireturn, 1) := by decide +kernel
theorem dX6_readNumber_20 : decode cX6_readNumber 20 = .ok (.aload_n 0, 1) := by decide +kernel
theorem dX6_readNumber_21 : decode cX6_readNumber 21 = .ok (.dup, 1) := by decide +kernel
theorem dX6_readNumber_22 : decode cX6_readNumber 22 = .ok (.getfield 19, 3) := by decide +kernel
theorem dX6_readNumber_25 : decode cX6_readNumber 25 = .ok (.iconst 1, 1) := by decide +kernel
theorem dX6_readNumber_26 : decode cX6_readNumber 26 = .ok (.iadd, 1) := by decide +kernel
theorem dX6_readNumber_27 : decode cX6_readNumber 27 = .ok (.putfield 19, 3) := by decide +kernel
theorem dX6_readNumber_30 : decode cX6_readNumber 30 = .ok (.aload_n 0, 1) := by decide +kernel
theorem dX6_readNumber_31 : decode cX6_readNumber 31 = .ok (.invokevirtual 43, 3) := by decide +kernel
theorem dX6_readNumber_34 : decode cX6_readNumber 34 = .ok (.bipush 48, 2) := by decide +kernel
theorem dX6_readNumber_36 : decode cX6_readNumber 36 = .ok (.isub, 1) := by decide +kernel
theorem dX6_readNumber_37 : decode cX6_readNumber 37 = .ok (.istore_n 2, 1) := by decide +kernel
theorem dX6_readNumber_38 : decode cX6_readNumber 38 = .ok (.iload_n 1, 1) := by decide +kernel
theorem dX6_readNumber_39 : decode cX6_readNumber 39 = .ok (.ifCond .eq 13, 3) := by decide +kernel
theorem dX6_readNumber_42 : decode cX6_readNumber 42 = .ok (.iload_n 2, 1) := by decide +kernel
theorem dX6_readNumber_43 : decode cX6_readNumber 43 = .ok (.ifCond .lt 9, 3) := by decide +kernel
theorem dX6_readNumber_46 : decode cX6_readNumber 46 = .ok (.iload_n 2, 1) := by decide +kernel
theorem dX6_readNumber_47 : decode cX6_readNumber 47 = .ok (.bipush 9, 2) := by decide +kernel
theorem dX6_readNumber_49 : decode cX6_readNumber 49 = .ok (.if_icmp .le 5, 3) := by decide +kernel
theorem dX6_readNumber_52 : decode cX6_readNumber 52 = .ok (.iload_n 1, 1) := by decide +kernel
theorem dX6_readNumber_53 : decode cX6_readNumber 53 = .ok (.ireturn, 1) := by decide +kernel
theorem dX6_readNumber_54 : decode cX6_readNumber 54 = .ok (.aload_n 0, 1) := by decide +kernel
theorem dX6_readNumber_55 : decode cX6_readNumber 55 = .ok (.dup, 1) := by decide +kernel
theorem dX6_readNumber_56 : decode cX6_readNumber 56 = .ok (.getfield 19, 3) := by decide +kernel
theorem dX6_readNumber_59 : decode cX6_readNumber 59 = .ok (.iconst 1, 1) := by decide +kernel
theorem dX6_readNumber_60 : decode cX6_readNumber 60 = .ok (.iadd, 1) := by decide +kernel
theorem dX6_readNumber_61 : decode cX6_readNumber 61 = .ok (.putfield 19, 3) := by decide +kernel
theorem dX6_readNumber_64 : decode cX6_readNumber 64 = .ok (.iload_n 1, 1) := by decide +kernel
theorem dX6_readNumber_65 : decode cX6_readNumber 65 = .ok (.bipush 10, 2) := by decide +kernel
theorem dX6_readNumber_67 : decode cX6_readNumber 67 = .ok (.imul, 1) := by decide +kernel
theorem dX6_readNumber_68 : decode cX6_readNumber 68 = .ok (.iload_n 2, 1) := by decide +kernel
theorem dX6_readNumber_69 : decode cX6_readNumber 69 = .ok (.iadd, 1) := by decide +kernel
theorem dX6_readNumber_70 : decode cX6_readNumber 70 = .ok (.ireturn, 1) := by decide +kernel
def f_X6_readNumber (S : HSt) (a0 : Nat) : Option (Int32 × HSt) := if gC S a0 = some 6 then (bd2 (f_X6_look S a0) fun v4 S3 => if (v4 - 48) < 0 then (some ((-1), S3)) else (if (v4 - 48) ≤ 9 then ((gI S3 a0 6 2).bind fun v7 => (pV S3 a0 6 2 (.int (v7 + 1))).bind fun S9 => if gC S9 a0 = some 6 then (bd2 (f_X6_look S9 a0) fun v14 S13 => if (v4 - 48) = 0 then (some (v4 - 48, S13)) else (if (v14 - 48) < 0 then (some (v4 - 48, S13)) else (if (v14 - 48) ≤ 9 then ((gI S13 a0 6 2).bind fun v18 => (pV S13 a0 6 2 (.int (v18 + 1))).bind fun S20 => some (((v4 - 48) * 10) + (v14 - 48), S20)) else (some (v4 - 48, S13))))) else none) else (some ((-1), S3)))) else none
abbrev rm_X6_readNumber : Room := { frames := 1, cells := 0, slots := 0, locals := 20 }
abbrev w_X6_readNumber : List Cond := Cond.code yX6_readNumber cX6_readNumber 3 (Option.some FieldType.int) :: lwG
theorem yd_X6_readNumber : yX6_readNumber.cls ≠ "java/lang/invoke/MethodHandle" ∧ yX6_readNumber.cls ≠ "java/lang/invoke/VarHandle" ∧ (parseMethodDescriptor yX6_readNumber.desc).map (fun d => d.parameters.length) = some 0 := by decide +kernel
theorem ye_X6_readNumber : yX6_readNumber.cls = RX6 ∧ yX6_readNumber.cls ≠ "java/lang/invoke/MethodHandle" ∧ yX6_readNumber.cls ≠ "java/lang/invoke/VarHandle" ∧ (parseMethodDescriptor yX6_readNumber.desc).map (fun d => d.parameters.length) = some 0 := by decide +kernel
set_option maxHeartbeats 4000000 in
set_option maxRecDepth 100000 in
theorem c_X6_readNumber (l : Launch) (D : va_G) (kA ρ : Nat → Nat) (HB : Heap) (S : HSt) (a0 : Nat) (res : Int32 × HSt) (h : f_X6_readNumber S a0 = some res) : Met l yX6_readNumber w_X6_readNumber rm_X6_readNumber (hPc D kA ρ HB S [.ref a0]) (hQi D kA HB S res) 0 0 (hFree HB) := by
  refine Met.ofW (cc := cX6_readNumber) (maxL := 3) (ret := (Option.some FieldType.int)) (by decide) rfl ?_
  intro p e s m args below meth c s₁ B hml hv
  obtain ⟨rfl, hE, h0⟩ := hv
  have hx := B.exec
  have hb := B.bytes
  have hr := B.returns
  have hts0 := atoms_spec (ws := w_X6_readNumber) B.pre
  have hts : ∀ w ∈ lwG, w.before _ s = true := fun w hw => hts0 w (List.mem_cons_of_mem _ hw)
  have hown : s.vm.findClass RX6 = some m.cls := findClass_of_methodNamed B.named
  have hlocks := B.notSynchronized
  have hI : hqX D kA HB S.2 S s.heap [] := ⟨h0, Nat.le_refl _, fun _ q => absurd q List.not_mem_nil⟩
  have hl := lv_entry ([.ref a0]) (n := 3) (Nat.le_of_ble_eq_true rfl)
  rw [lg_entry_eq]
  generalize (lg_sl ([.ref a0]) ++ List.replicate (3 - (lg_sl ([.ref a0])).length) Slot.unset).toArray = ls at hl ⊢
  have hl : lv_has ls 3 [(0, .ref a0)] := hl
  unfold f_X6_readNumber at h
  refine lv_aload_n hx hb dX6_readNumber_0 rfl (lv_at hl 0 rfl) ?_
  obtain ⟨g2, h⟩ := hq_g h
  obtain ⟨v4, S3, g1, h⟩ := hq_bd2 h
  refine hq_calli hI (va_runV (As := []) (rest := []) ⟨hx, hb, hml, hown, hts⟩ (c_X6_look l D kA ρ HB S a0 _ g1) (cwV 0 hts (gdIn (List.forall_mem_cons.mpr ⟨kw_386, (List.forall_mem_cons.mpr ⟨kw_388, (List.forall_mem_cons.mpr ⟨ks_4, (List.forall_mem_cons.mpr ⟨kw_2, (fun _ h => absurd h List.not_mem_nil)⟩)⟩)⟩)⟩) kw_389) rfl rfl rfl ye_X6_look ⟨Nat.le_of_ble_eq_true rfl, Nat.le_of_ble_eq_true rfl⟩) (hq_preC hE hI g2 rfl _) rfl rfl hl.1 rfl (lv_room (Nat.le_of_ble_eq_true rfl)) dX6_readNumber_1 ⟨Nat.le_of_ble_eq_true rfl, Nat.le_of_ble_eq_true rfl⟩) (fun H locs hI => ?_)
  refine lv_bipush (v := 48) hx hb dX6_readNumber_4 (by decide) ?_
  refine lv_isub hx hb dX6_readNumber_6 ?_
  refine lv_istore_n (lv' := [(1, .int (v4 - 48)), (0, .ref a0)]) hx hb dX6_readNumber_7 rfl hl (by decide) rfl (fun ls hl => ?_)
  refine lv_iload_n hx hb dX6_readNumber_8 rfl (lv_at hl 0 rfl) ?_
  refine lv_if_lt (tgt := 18) hx hb dX6_readNumber_9 (by decide) (fun c5 => ?_) (fun c5 => ?_)
  · have h := hq_t h c5
    refine lv_iconst (v := (-1)) hx hb dX6_readNumber_18 (by decide) ?_
    exact hq_iret hx hb hr hlocks h0 hI h dX6_readNumber_19
  · have h := hq_f h c5
    refine lv_iload_n hx hb dX6_readNumber_12 rfl (lv_at hl 0 rfl) ?_
    refine lv_bipush (v := 9) hx hb dX6_readNumber_13 (by decide) ?_
    refine lv_icmp_le (tgt := 20) hx hb dX6_readNumber_15 (by decide) (fun c6 => ?_) (fun c6 => ?_)
    · have h := hq_t h c6
      refine lv_aload_n hx hb dX6_readNumber_20 rfl (lv_at hl 1 rfl) ?_
      refine lv_dup hx hb dX6_readNumber_21 rfl ?_
      obtain ⟨v7, g8, h⟩ := hq_bind h
      obtain ⟨fs_g8, hs_g8, hv_g8⟩ := gI_at g8
      refine hq_get hx hb hts hown hE hI hs_g8 inG6 rfl 2 (by decide) kw_42 hv_g8 dX6_readNumber_22 ?_
      refine lv_iconst (v := 1) hx hb dX6_readNumber_25 (by decide) ?_
      refine lv_iadd hx hb dX6_readNumber_26 ?_
      obtain ⟨S9, g10, h⟩ := hq_bind h
      obtain ⟨fs_g10, hs_g10, hl_g10, e_g10⟩ := pV_at g10
      refine hq_put hx hb hts hown hE hI hs_g10 inG6 tyX6 tyX6_ok nmX6 rfl 2 (by decide) kw_42 rfl (v := .int (v7 + 1)) rfl rfl rfl hl_g10 e_g10 dX6_readNumber_27 (fun H locs hI => ?_)
      refine lv_aload_n hx hb dX6_readNumber_30 rfl (lv_at hl 1 rfl) ?_
      obtain ⟨g12, h⟩ := hq_g h
      obtain ⟨v14, S13, g11, h⟩ := hq_bd2 h
      refine hq_calli hI (va_runV (As := []) (rest := []) ⟨hx, hb, hml, hown, hts⟩ (c_X6_look l D kA ρ HB S9 a0 _ g11) (cwV 0 hts (gdIn (List.forall_mem_cons.mpr ⟨kw_386, (List.forall_mem_cons.mpr ⟨kw_388, (List.forall_mem_cons.mpr ⟨ks_4, (List.forall_mem_cons.mpr ⟨kw_2, (fun _ h => absurd h List.not_mem_nil)⟩)⟩)⟩)⟩) kw_389) rfl rfl rfl ye_X6_look ⟨Nat.le_of_ble_eq_true rfl, Nat.le_of_ble_eq_true rfl⟩) (hq_preC hE hI g12 rfl _) rfl rfl hl.1 rfl (lv_room (Nat.le_of_ble_eq_true rfl)) dX6_readNumber_31 ⟨Nat.le_of_ble_eq_true rfl, Nat.le_of_ble_eq_true rfl⟩) (fun H locs hI => ?_)
      refine lv_bipush (v := 48) hx hb dX6_readNumber_34 (by decide) ?_
      refine lv_isub hx hb dX6_readNumber_36 ?_
      refine lv_istore_n (lv' := [(2, .int (v14 - 48)), (1, .int (v4 - 48)), (0, .ref a0)]) hx hb dX6_readNumber_37 rfl hl (by decide) rfl (fun ls hl => ?_)
      refine lv_iload_n hx hb dX6_readNumber_38 rfl (lv_at hl 1 rfl) ?_
      refine lv_if_eq (tgt := 52) hx hb dX6_readNumber_39 (by decide) (fun c15 => ?_) (fun c15 => ?_)
      · have h := hq_t h c15
        refine lv_iload_n hx hb dX6_readNumber_52 rfl (lv_at hl 1 rfl) ?_
        exact hq_iret hx hb hr hlocks h0 hI h dX6_readNumber_53
      · have h := hq_f h c15
        refine lv_iload_n hx hb dX6_readNumber_42 rfl (lv_at hl 0 rfl) ?_
        refine lv_if_lt (tgt := 52) hx hb dX6_readNumber_43 (by decide) (fun c16 => ?_) (fun c16 => ?_)
        · have h := hq_t h c16
          refine lv_iload_n hx hb dX6_readNumber_52 rfl (lv_at hl 1 rfl) ?_
          exact hq_iret hx hb hr hlocks h0 hI h dX6_readNumber_53
        · have h := hq_f h c16
          refine lv_iload_n hx hb dX6_readNumber_46 rfl (lv_at hl 0 rfl) ?_
          refine lv_bipush (v := 9) hx hb dX6_readNumber_47 (by decide) ?_
          refine lv_icmp_le (tgt := 54) hx hb dX6_readNumber_49 (by decide) (fun c17 => ?_) (fun c17 => ?_)
          · have h := hq_t h c17
            refine lv_aload_n hx hb dX6_readNumber_54 rfl (lv_at hl 2 rfl) ?_
            refine lv_dup hx hb dX6_readNumber_55 rfl ?_
            obtain ⟨v18, g19, h⟩ := hq_bind h
            obtain ⟨fs_g19, hs_g19, hv_g19⟩ := gI_at g19
            refine hq_get hx hb hts hown hE hI hs_g19 inG6 rfl 2 (by decide) kw_42 hv_g19 dX6_readNumber_56 ?_
            refine lv_iconst (v := 1) hx hb dX6_readNumber_59 (by decide) ?_
            refine lv_iadd hx hb dX6_readNumber_60 ?_
            obtain ⟨S20, g21, h⟩ := hq_bind h
            obtain ⟨fs_g21, hs_g21, hl_g21, e_g21⟩ := pV_at g21
            refine hq_put hx hb hts hown hE hI hs_g21 inG6 tyX6 tyX6_ok nmX6 rfl 2 (by decide) kw_42 rfl (v := .int (v18 + 1)) rfl rfl rfl hl_g21 e_g21 dX6_readNumber_61 (fun H locs hI => ?_)
            refine lv_iload_n hx hb dX6_readNumber_64 rfl (lv_at hl 1 rfl) ?_
            refine lv_bipush (v := 10) hx hb dX6_readNumber_65 (by decide) ?_
            refine lv_imul hx hb dX6_readNumber_67 ?_
            refine lv_iload_n hx hb dX6_readNumber_68 rfl (lv_at hl 0 rfl) ?_
            refine lv_iadd hx hb dX6_readNumber_69 ?_
            exact hq_iret hx hb hr hlocks h0 hI h dX6_readNumber_70
          · have h := hq_f h c17
            refine lv_iload_n hx hb dX6_readNumber_52 rfl (lv_at hl 1 rfl) ?_
            exact hq_iret hx hb hr hlocks h0 hI h dX6_readNumber_53
    · have h := hq_f h c6
      refine lv_iconst (v := (-1)) hx hb dX6_readNumber_18 (by decide) ?_
      exact hq_iret hx hb hr hlocks h0 hI h dX6_readNumber_19
