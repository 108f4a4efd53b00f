/-! the reference reads Es: printed by wip/whole/gen.py -/
-- RodDipsModel.every()V
theorem dX12_every_0 : decode cX12_every 0 = .ok (.aload_n 0, 1) := by decide +kernel
theorem dX12_every_1 : decode cX12_every 1 = .ok (.invokevirtual 95, 3) := by decide +kernel
theorem dX12_every_4 : decode cX12_every 4 = .ok (.aload_n 0, 1) := by decide +kernel
theorem dX12_every_5 : decode cX12_every 5 = .ok (.getfield 68, 3) := by decide +kernel
theorem dX12_every_8 : decode cX12_every 8 = .ok (.ifCond .ne 35, 3) := by decide +kernel
theorem dX12_every_11 : decode cX12_every 11 = .ok (.aload_n 0, 1) := by decide +kernel
theorem dX12_every_12 : decode cX12_every 12 = .ok (.invokevirtual 72, 3) := by decide +kernel
theorem dX12_every_15 : decode cX12_every 15 = .ok (.bipush 38, 2) := by decide +kernel
theorem dX12_every_17 : decode cX12_every 17 = .ok (.if_icmp .ne 26, 3) := by decide +kernel
theorem dX12_every_20 : decode cX12_every 20 = .ok (.aload_n 0, 1) := by decide +kernel
theorem dX12_every_21 : decode cX12_every 21 = .ok (.dup, 1) := by decide +kernel
theorem dX12_every_22 : decode cX12_every 22 = .ok (.getfield 62, 3) := by decide +kernel
theorem dX12_every_25 : decode cX12_every 25 = .ok (.iconst 1, 1) := by decide +kernel
theorem dX12_every_26 : decode cX12_every 26 = .ok (.iadd, 1) := by decide +kernel
theorem dX12_every_27 : decode cX12_every 27 = .ok (.putfield 62, 3) := by decide +kernel
theorem dX12_every_30 : decode cX12_every 30 = .ok (.aload_n 0, 1) := by decide +kernel
theorem dX12_every_31 : decode cX12_every 31 = .ok (.invokevirtual 95, 3) := by decide +kernel
theorem dX12_every_34 : decode cX12_every 34 = .ok (.aload_n 0, 1) := by decide +kernel
theorem dX12_every_35 : decode cX12_every 35 = .ok (.bipush (-2), 2) := by decide +kernel
theorem dX12_every_37 : decode cX12_every 37 = .ok (.invokevirtual 98, 3) := by decide +kernel
theorem dX12_every_40 : decode cX12_every 40 = .ok (.goto (-36), 3) := by decide +kernel
theorem dX12_every_43 : decode cX12_every 43 = .ok (.return_, 1) := by decide +kernel
def f_X12_every_K43 (S4 : HSt) : Option (HSt) := some S4
def f_X12_every_B4 (a0 : Nat) (rf : (HSt → Nat → Option (HSt))) (kx43 : (HSt → Option (HSt))) (kb4 : (HSt → Option (HSt))) (S5 : HSt) : Option (HSt) := (gI S5 a0 12 7).bind fun v6 => if v6 = 0 then (if gC S5 a0 = some 12 then (bd2 (f_X12_here S5 a0) fun v12 S11 => if v12 = 38 then ((gI S11 a0 12 5).bind fun v14 => (pV S11 a0 12 5 (.int (v14 + 1))).bind fun S16 => if gC S16 a0 = some 12 then ((rf S16 a0).bind fun S20 => if gC S20 a0 = some 12 then ((f_X12_emits S20 a0 (-2)).bind fun S23 => kb4 S23) else none) else none) else (kx43 S11)) else none) else (kx43 S5)
def f_X12_every_L4 (a0 : Nat) (rf : (HSt → Nat → Option (HSt))) (kx43 : (HSt → Option (HSt))) : Nat → HSt → Option (HSt)
  | 0, _ => none
  | n + 1, S => f_X12_every_B4 a0 rf kx43 (f_X12_every_L4 a0 rf kx43 n) S
def f_X12_every (rf : (HSt → Nat → Option (HSt))) (S : HSt) (a0 : Nat) : Option (HSt) := if gC S a0 = some 12 then ((rf S a0).bind fun S3 => (f_X12_every_L4 a0 rf f_X12_every_K43 FU) S3) else none
abbrev rm_X12_every (fr lo : Nat) : Room := { frames := fr + 20, cells := 0, slots := 0, locals := lo + 400 }
abbrev w_X12_every : List Cond := Cond.code yX12_every cX12_every 1 none :: lwG
theorem yd_X12_every : yX12_every.cls ≠ "java/lang/invoke/MethodHandle" ∧ yX12_every.cls ≠ "java/lang/invoke/VarHandle" ∧ (parseMethodDescriptor yX12_every.desc).map (fun d => d.parameters.length) = some 0 := by decide +kernel
theorem ye_X12_every : yX12_every.cls = RX12 ∧ yX12_every.cls ≠ "java/lang/invoke/MethodHandle" ∧ yX12_every.cls ≠ "java/lang/invoke/VarHandle" ∧ (parseMethodDescriptor yX12_every.desc).map (fun d => d.parameters.length) = some 0 := by decide +kernel
set_option maxHeartbeats 4000000 in
set_option maxRecDepth 100000 in
theorem c_X12_every (l : Launch) (D : va_G) (kA ρ : Nat → Nat) (HB : Heap) (rf : (HSt → Nat → Option (HSt))) (fr lo : Nat) (hF : ∀ (S : HSt) (a0 : Nat) (res : HSt), rf S a0 = some res → Met l yX12_factor w_X12_factor { frames := fr, cells := 0, slots := 0, locals := lo } (hPc D kA ρ HB S [.ref a0]) (hQv D kA HB S res) 0 0 (hFree HB)) (S : HSt) (a0 : Nat) (res : HSt) (h : f_X12_every rf S a0 = some res) : Met l yX12_every w_X12_every (rm_X12_every fr lo) (hPc D kA ρ HB S [.ref a0]) (hQv D kA HB S res) 0 0 (hFree HB) := by
  refine Met.ofW (cc := cX12_every) (maxL := 1) (ret := none) (by decide) rfl ?_
  intro p e s m args below meth c s₁ B hml hv
  obtain ⟨rfl, hE, h0⟩ := hv
  have hx := B.exec
  have hb := B.bytes
  have hr := B.returns
  have hts0 := atoms_spec (ws := w_X12_every) B.pre
  have hts : ∀ w ∈ lwG, w.before _ s = true := fun w hw => hts0 w (List.mem_cons_of_mem _ hw)
  have hown : s.vm.findClass RX12 = some m.cls := findClass_of_methodNamed B.named
  have hlocks := B.notSynchronized
  have hI : hqX D kA HB S.2 S s.heap [] := ⟨h0, Nat.le_refl _, fun _ q => absurd q List.not_mem_nil⟩
  have hl := lv_entry ([.ref a0]) (n := 1) (Nat.le_of_ble_eq_true rfl)
  rw [lg_entry_eq]
  generalize (lg_sl ([.ref a0]) ++ List.replicate (1 - (lg_sl ([.ref a0])).length) Slot.unset).toArray = ls at hl ⊢
  have hl : lv_has ls 1 [(0, .ref a0)] := hl
  unfold f_X12_every at h
  refine lv_aload_n hx hb dX12_every_0 rfl (lv_at hl 0 rfl) ?_
  obtain ⟨g2, h⟩ := hq_g h
  obtain ⟨S3, g1, h⟩ := hq_bind h
  refine hq_callv hI (va_runV (As := []) (rest := []) ⟨hx, hb, hml, hown, hts⟩ (hF S a0 _ g1) (cwV 0 hts (gdIn (List.forall_mem_cons.mpr ⟨kw_1097, (List.forall_mem_cons.mpr ⟨kw_1099, (List.forall_mem_cons.mpr ⟨ks_43, (List.forall_mem_cons.mpr ⟨kw_6, (fun _ h => absurd h List.not_mem_nil)⟩)⟩)⟩)⟩) kw_1100) rfl rfl rfl ye_X12_factor ⟨by show fr + 1 ≤ fr + 20; omega, by show 8 + (5 + 11) + (lo) ≤ lo + 400; omega⟩) (hq_preC hE hI g2 rfl _) rfl rfl hl.1 rfl (lv_room (Nat.le_of_ble_eq_true rfl)) dX12_every_1 ⟨Nat.le_of_ble_eq_true rfl, Nat.le_of_ble_eq_true rfl⟩) (fun H locs hI => ?_)
  have hK43 : ∀ (S4 : HSt) (H : Heap) (locs : List Loc) (ls : Array Slot), f_X12_every_K43 S4 = some res → hqX D kA HB S.2 S4 H locs → lv_has ls 1 [] → W p l e (rm_X12_every fr lo) s m ([.ref a0] : List Value).toArray below meth c H locs 0 0 (MQ below (hQv D kA HB S res) ([.ref a0] : List Value).toArray s 0 0 (hFree HB)) (F0 m 43 ls []) := by
    intro S4 H locs ls h hI hl
    unfold f_X12_every_K43 at h
    exact hq_vret hx hb hr hlocks h0 hI h dX12_every_43
  have hL4 : ∀ (n4 : Nat) (S5 : HSt) (H : Heap) (locs : List Loc) (ls : Array Slot), (f_X12_every_L4 a0 rf f_X12_every_K43 n4) S5 = some res → hqX D kA HB S.2 S5 H locs → lv_has ls 1 [(0, .ref a0)] → W p l e (rm_X12_every fr lo) s m ([.ref a0] : List Value).toArray below meth c H locs 0 0 (MQ below (hQv D kA HB S res) ([.ref a0] : List Value).toArray s 0 0 (hFree HB)) (F0 m 4 ls []) := by
    intro n4
    induction n4 with
    | zero =>
      intro S5 H locs ls h
      have h : (none : Option (HSt)) = some res := h
      cases h
    | succ n4 ih4 =>
      intro S5 H locs ls h hI hl
      have h : f_X12_every_B4 a0 rf f_X12_every_K43 (f_X12_every_L4 a0 rf f_X12_every_K43 n4) S5 = some res := h
      unfold f_X12_every_B4 at h
      refine lv_aload_n hx hb dX12_every_4 rfl (lv_at hl 0 rfl) ?_
      obtain ⟨v6, g7, h⟩ := hq_bind h
      obtain ⟨fs_g7, hs_g7, hv_g7⟩ := gI_at g7
      refine hq_get hx hb hts hown hE hI hs_g7 inG12 rfl 7 (by decide) kw_951 hv_g7 dX12_every_5 ?_
      refine lv_if_ne (tgt := 43) hx hb dX12_every_8 (by decide) (fun c8 => ?_) (fun c8 => ?_)
      · have h := hq_f h c8
        exact hK43 S5 _ _ _ h hI (lv_sub hl [] rfl)
      · have h := hq_t h c8
        refine lv_aload_n hx hb dX12_every_11 rfl (lv_at hl 0 rfl) ?_
        obtain ⟨g10, h⟩ := hq_g h
        obtain ⟨v12, S11, g9, h⟩ := hq_bd2 h
        refine hq_calli hI (va_runV (As := []) (rest := []) ⟨hx, hb, hml, hown, hts⟩ (c_X12_here l D kA ρ HB S5 a0 _ g9) (cwV 0 hts (gdIn (List.forall_mem_cons.mpr ⟨kw_1060, (List.forall_mem_cons.mpr ⟨kw_1062, (List.forall_mem_cons.mpr ⟨ks_35, (List.forall_mem_cons.mpr ⟨kw_6, (fun _ h => absurd h List.not_mem_nil)⟩)⟩)⟩)⟩) kw_1063) rfl rfl rfl ye_X12_here ⟨by show 0 + 1 ≤ fr + 20; omega, by show 8 + (1 + 11) + (0) ≤ lo + 400; omega⟩) (hq_preC hE hI g10 rfl _) rfl rfl hl.1 rfl (lv_room (Nat.le_of_ble_eq_true rfl)) dX12_every_12 ⟨Nat.le_of_ble_eq_true rfl, Nat.le_of_ble_eq_true rfl⟩) (fun H locs hI => ?_)
        refine lv_bipush (v := 38) hx hb dX12_every_15 (by decide) ?_
        refine lv_icmp_ne (tgt := 43) hx hb dX12_every_17 (by decide) (fun c13 => ?_) (fun c13 => ?_)
        · have h := hq_f h c13
          exact hK43 S11 _ _ _ h hI (lv_sub hl [] rfl)
        · have h := hq_t h c13
          refine lv_aload_n hx hb dX12_every_20 rfl (lv_at hl 0 rfl) ?_
          refine lv_dup hx hb dX12_every_21 rfl ?_
          obtain ⟨v14, g15, h⟩ := hq_bind h
          obtain ⟨fs_g15, hs_g15, hv_g15⟩ := gI_at g15
          refine hq_get hx hb hts hown hE hI hs_g15 inG12 rfl 5 (by decide) kw_949 hv_g15 dX12_every_22 ?_
          refine lv_iconst (v := 1) hx hb dX12_every_25 (by decide) ?_
          refine lv_iadd hx hb dX12_every_26 ?_
          obtain ⟨S16, g17, h⟩ := hq_bind h
          obtain ⟨fs_g17, hs_g17, hl_g17, e_g17⟩ := pV_at g17
          refine hq_put hx hb hts hown hE hI hs_g17 inG12 tyX12 tyX12_ok nmX12 rfl 5 (by decide) kw_949 rfl (v := .int (v14 + 1)) rfl rfl rfl hl_g17 e_g17 dX12_every_27 (fun H locs hI => ?_)
          refine lv_aload_n hx hb dX12_every_30 rfl (lv_at hl 0 rfl) ?_
          obtain ⟨g19, h⟩ := hq_g h
          obtain ⟨S20, g18, h⟩ := hq_bind h
          refine hq_callv hI (va_runV (As := []) (rest := []) ⟨hx, hb, hml, hown, hts⟩ (hF S16 a0 _ g18) (cwV 0 hts (gdIn (List.forall_mem_cons.mpr ⟨kw_1097, (List.forall_mem_cons.mpr ⟨kw_1099, (List.forall_mem_cons.mpr ⟨ks_43, (List.forall_mem_cons.mpr ⟨kw_6, (fun _ h => absurd h List.not_mem_nil)⟩)⟩)⟩)⟩) kw_1100) rfl rfl rfl ye_X12_factor ⟨by show fr + 1 ≤ fr + 20; omega, by show 8 + (5 + 11) + (lo) ≤ lo + 400; omega⟩) (hq_preC hE hI g19 rfl _) rfl rfl hl.1 rfl (lv_room (Nat.le_of_ble_eq_true rfl)) dX12_every_31 ⟨Nat.le_of_ble_eq_true rfl, Nat.le_of_ble_eq_true rfl⟩) (fun H locs hI => ?_)
          refine lv_aload_n hx hb dX12_every_34 rfl (lv_at hl 0 rfl) ?_
          refine lv_bipush (v := (-2)) hx hb dX12_every_35 (by decide) ?_
          obtain ⟨g22, h⟩ := hq_g h
          obtain ⟨S23, g21, h⟩ := hq_bind h
          refine hq_callv hI (va_runV (As := [.int (-2)]) (rest := []) ⟨hx, hb, hml, hown, hts⟩ (c_X12_emits l D kA ρ HB S20 a0 (-2) _ g21) (cwV 1 hts (gdIn (List.forall_mem_cons.mpr ⟨kw_1101, (List.forall_mem_cons.mpr ⟨kw_1103, (List.forall_mem_cons.mpr ⟨ks_44, (List.forall_mem_cons.mpr ⟨kw_6, (fun _ h => absurd h List.not_mem_nil)⟩)⟩)⟩)⟩) kw_1104) rfl rfl rfl ye_X12_emits ⟨by show 0 + 1 ≤ fr + 20; omega, by show 8 + (2 + 11) + (0) ≤ lo + 400; omega⟩) (hq_preC hE hI g22 rfl _) rfl rfl hl.1 rfl (lv_room (Nat.le_of_ble_eq_true rfl)) dX12_every_37 ⟨Nat.le_of_ble_eq_true rfl, Nat.le_of_ble_eq_true rfl⟩) (fun H locs hI => ?_)
          refine lv_goto (tgt := 4) hx hb dX12_every_40 (by decide) ?_
          exact ih4 S23 _ _ _ h hI (lv_sub hl [0] rfl)
  exact hL4 FU S3 _ _ _ h hI (lv_sub hl [0] rfl)
-- RodDipsModel.some()V
theorem dX12_some_0 : decode cX12_some 0 = .ok (.aload_n 0, 1) := by decide +kernel
theorem dX12_some_1 : decode cX12_some 1 = .ok (.invokevirtual 117, 3) := by decide +kernel
theorem dX12_some_4 : decode cX12_some 4 = .ok (.aload_n 0, 1) := by decide +kernel
theorem dX12_some_5 : decode cX12_some 5 = .ok (.getfield 68, 3) := by decide +kernel
theorem dX12_some_8 : decode cX12_some 8 = .ok (.ifCond .ne 35, 3) := by decide +kernel
theorem dX12_some_11 : decode cX12_some 11 = .ok (.aload_n 0, 1) := by decide +kernel
theorem dX12_some_12 : decode cX12_some 12 = .ok (.invokevirtual 72, 3) := by decide +kernel
theorem dX12_some_15 : decode cX12_some 15 = .ok (.bipush 124, 2) := by decide +kernel
theorem dX12_some_17 : decode cX12_some 17 = .ok (.if_icmp .ne 26, 3) := by decide +kernel
theorem dX12_some_20 : decode cX12_some 20 = .ok (.aload_n 0, 1) := by decide +kernel
theorem dX12_some_21 : decode cX12_some 21 = .ok (.dup, 1) := by decide +kernel
theorem dX12_some_22 : decode cX12_some 22 = .ok (.getfield 62, 3) := by decide +kernel
theorem dX12_some_25 : decode cX12_some 25 = .ok (.iconst 1, 1) := by decide +kernel
theorem dX12_some_26 : decode cX12_some 26 = .ok (.iadd, 1) := by decide +kernel
theorem dX12_some_27 : decode cX12_some 27 = .ok (.putfield 62, 3) := by decide +kernel
theorem dX12_some_30 : decode cX12_some 30 = .ok (.aload_n 0, 1) := by decide +kernel
theorem dX12_some_31 : decode cX12_some 31 = .ok (.invokevirtual 117, 3) := by decide +kernel
theorem dX12_some_34 : decode cX12_some 34 = .ok (.aload_n 0, 1) := by decide +kernel
theorem dX12_some_35 : decode cX12_some 35 = .ok (.bipush (-3), 2) := by decide +kernel
theorem dX12_some_37 : decode cX12_some 37 = .ok (.invokevirtual 98, 3) := by decide +kernel
theorem dX12_some_40 : decode cX12_some 40 = .ok (.goto (-36), 3) := by decide +kernel
theorem dX12_some_43 : decode cX12_some 43 = .ok (.return_, 1) := by decide +kernel
def f_X12_some_K43 (S4 : HSt) : Option (HSt) := some S4
def f_X12_some_B4 (a0 : Nat) (rf : (HSt → Nat → Option (HSt))) (kx43 : (HSt → Option (HSt))) (kb4 : (HSt → Option (HSt))) (S5 : HSt) : Option (HSt) := (gI S5 a0 12 7).bind fun v6 => if v6 = 0 then (if gC S5 a0 = some 12 then (bd2 (f_X12_here S5 a0) fun v12 S11 => if v12 = 124 then ((gI S11 a0 12 5).bind fun v14 => (pV S11 a0 12 5 (.int (v14 + 1))).bind fun S16 => if gC S16 a0 = some 12 then ((f_X12_every rf S16 a0).bind fun S20 => if gC S20 a0 = some 12 then ((f_X12_emits S20 a0 (-3)).bind fun S23 => kb4 S23) else none) else none) else (kx43 S11)) else none) else (kx43 S5)
def f_X12_some_L4 (a0 : Nat) (rf : (HSt → Nat → Option (HSt))) (kx43 : (HSt → Option (HSt))) : Nat → HSt → Option (HSt)
  | 0, _ => none
  | n + 1, S => f_X12_some_B4 a0 rf kx43 (f_X12_some_L4 a0 rf kx43 n) S
def f_X12_some (rf : (HSt → Nat → Option (HSt))) (S : HSt) (a0 : Nat) : Option (HSt) := if gC S a0 = some 12 then ((f_X12_every rf S a0).bind fun S3 => (f_X12_some_L4 a0 rf f_X12_some_K43 FU) S3) else none
abbrev rm_X12_some (fr lo : Nat) : Room := { frames := fr + 40, cells := 0, slots := 0, locals := lo + 800 }
abbrev w_X12_some : List Cond := Cond.code yX12_some cX12_some 1 none :: lwG
theorem yd_X12_some : yX12_some.cls ≠ "java/lang/invoke/MethodHandle" ∧ yX12_some.cls ≠ "java/lang/invoke/VarHandle" ∧ (parseMethodDescriptor yX12_some.desc).map (fun d => d.parameters.length) = some 0 := by decide +kernel
theorem ye_X12_some : yX12_some.cls = RX12 ∧ yX12_some.cls ≠ "java/lang/invoke/MethodHandle" ∧ yX12_some.cls ≠ "java/lang/invoke/VarHandle" ∧ (parseMethodDescriptor yX12_some.desc).map (fun d => d.parameters.length) = some 0 := by decide +kernel
set_option maxHeartbeats 4000000 in
set_option maxRecDepth 100000 in
theorem c_X12_some (l : Launch) (D : va_G) (kA ρ : Nat → Nat) (HB : Heap) (rf : (HSt → Nat → Option (HSt))) (fr lo : Nat) (hF : ∀ (S : HSt) (a0 : Nat) (res : HSt), rf S a0 = some res → Met l yX12_factor w_X12_factor { frames := fr, cells := 0, slots := 0, locals := lo } (hPc D kA ρ HB S [.ref a0]) (hQv D kA HB S res) 0 0 (hFree HB)) (S : HSt) (a0 : Nat) (res : HSt) (h : f_X12_some rf S a0 = some res) : Met l yX12_some w_X12_some (rm_X12_some fr lo) (hPc D kA ρ HB S [.ref a0]) (hQv D kA HB S res) 0 0 (hFree HB) := by
  refine Met.ofW (cc := cX12_some) (maxL := 1) (ret := none) (by decide) rfl ?_
  intro p e s m args below meth c s₁ B hml hv
  obtain ⟨rfl, hE, h0⟩ := hv
  have hx := B.exec
  have hb := B.bytes
  have hr := B.returns
  have hts0 := atoms_spec (ws := w_X12_some) B.pre
  have hts : ∀ w ∈ lwG, w.before _ s = true := fun w hw => hts0 w (List.mem_cons_of_mem _ hw)
  have hown : s.vm.findClass RX12 = some m.cls := findClass_of_methodNamed B.named
  have hlocks := B.notSynchronized
  have hI : hqX D kA HB S.2 S s.heap [] := ⟨h0, Nat.le_refl _, fun _ q => absurd q List.not_mem_nil⟩
  have hl := lv_entry ([.ref a0]) (n := 1) (Nat.le_of_ble_eq_true rfl)
  rw [lg_entry_eq]
  generalize (lg_sl ([.ref a0]) ++ List.replicate (1 - (lg_sl ([.ref a0])).length) Slot.unset).toArray = ls at hl ⊢
  have hl : lv_has ls 1 [(0, .ref a0)] := hl
  unfold f_X12_some at h
  refine lv_aload_n hx hb dX12_some_0 rfl (lv_at hl 0 rfl) ?_
  obtain ⟨g2, h⟩ := hq_g h
  obtain ⟨S3, g1, h⟩ := hq_bind h
  refine hq_callv hI (va_runV (As := []) (rest := []) ⟨hx, hb, hml, hown, hts⟩ (c_X12_every l D kA ρ HB rf fr lo hF S a0 _ g1) (cwV 0 hts (gdIn (List.forall_mem_cons.mpr ⟨kw_1093, (List.forall_mem_cons.mpr ⟨kw_1095, (List.forall_mem_cons.mpr ⟨ks_42, (List.forall_mem_cons.mpr ⟨kw_6, (fun _ h => absurd h List.not_mem_nil)⟩)⟩)⟩)⟩) kw_1096) rfl rfl rfl ye_X12_every ⟨by show (fr + 20) + 1 ≤ fr + 40; omega, by show 8 + (1 + 11) + (lo + 400) ≤ lo + 800; omega⟩) (hq_preC hE hI g2 rfl _) rfl rfl hl.1 rfl (lv_room (Nat.le_of_ble_eq_true rfl)) dX12_some_1 ⟨Nat.le_of_ble_eq_true rfl, Nat.le_of_ble_eq_true rfl⟩) (fun H locs hI => ?_)
  have hK43 : ∀ (S4 : HSt) (H : Heap) (locs : List Loc) (ls : Array Slot), f_X12_some_K43 S4 = some res → hqX D kA HB S.2 S4 H locs → lv_has ls 1 [] → W p l e (rm_X12_some fr lo) s m ([.ref a0] : List Value).toArray below meth c H locs 0 0 (MQ below (hQv D kA HB S res) ([.ref a0] : List Value).toArray s 0 0 (hFree HB)) (F0 m 43 ls []) := by
    intro S4 H locs ls h hI hl
    unfold f_X12_some_K43 at h
    exact hq_vret hx hb hr hlocks h0 hI h dX12_some_43
  have hL4 : ∀ (n4 : Nat) (S5 : HSt) (H : Heap) (locs : List Loc) (ls : Array Slot), (f_X12_some_L4 a0 rf f_X12_some_K43 n4) S5 = some res → hqX D kA HB S.2 S5 H locs → lv_has ls 1 [(0, .ref a0)] → W p l e (rm_X12_some fr lo) s m ([.ref a0] : List Value).toArray below meth c H locs 0 0 (MQ below (hQv D kA HB S res) ([.ref a0] : List Value).toArray s 0 0 (hFree HB)) (F0 m 4 ls []) := by
    intro n4
    induction n4 with
    | zero =>
      intro S5 H locs ls h
      have h : (none : Option (HSt)) = some res := h
      cases h
    | succ n4 ih4 =>
      intro S5 H locs ls h hI hl
      have h : f_X12_some_B4 a0 rf f_X12_some_K43 (f_X12_some_L4 a0 rf f_X12_some_K43 n4) S5 = some res := h
      unfold f_X12_some_B4 at h
      refine lv_aload_n hx hb dX12_some_4 rfl (lv_at hl 0 rfl) ?_
      obtain ⟨v6, g7, h⟩ := hq_bind h
      obtain ⟨fs_g7, hs_g7, hv_g7⟩ := gI_at g7
      refine hq_get hx hb hts hown hE hI hs_g7 inG12 rfl 7 (by decide) kw_951 hv_g7 dX12_some_5 ?_
      refine lv_if_ne (tgt := 43) hx hb dX12_some_8 (by decide) (fun c8 => ?_) (fun c8 => ?_)
      · have h := hq_f h c8
        exact hK43 S5 _ _ _ h hI (lv_sub hl [] rfl)
      · have h := hq_t h c8
        refine lv_aload_n hx hb dX12_some_11 rfl (lv_at hl 0 rfl) ?_
        obtain ⟨g10, h⟩ := hq_g h
        obtain ⟨v12, S11, g9, h⟩ := hq_bd2 h
        refine hq_calli hI (va_runV (As := []) (rest := []) ⟨hx, hb, hml, hown, hts⟩ (c_X12_here l D kA ρ HB S5 a0 _ g9) (cwV 0 hts (gdIn (List.forall_mem_cons.mpr ⟨kw_1060, (List.forall_mem_cons.mpr ⟨kw_1062, (List.forall_mem_cons.mpr ⟨ks_35, (List.forall_mem_cons.mpr ⟨kw_6, (fun _ h => absurd h List.not_mem_nil)⟩)⟩)⟩)⟩) kw_1063) rfl rfl rfl ye_X12_here ⟨by show 0 + 1 ≤ fr + 40; omega, by show 8 + (1 + 11) + (0) ≤ lo + 800; omega⟩) (hq_preC hE hI g10 rfl _) rfl rfl hl.1 rfl (lv_room (Nat.le_of_ble_eq_true rfl)) dX12_some_12 ⟨Nat.le_of_ble_eq_true rfl, Nat.le_of_ble_eq_true rfl⟩) (fun H locs hI => ?_)
        refine lv_bipush (v := 124) hx hb dX12_some_15 (by decide) ?_
        refine lv_icmp_ne (tgt := 43) hx hb dX12_some_17 (by decide) (fun c13 => ?_) (fun c13 => ?_)
        · have h := hq_f h c13
          exact hK43 S11 _ _ _ h hI (lv_sub hl [] rfl)
        · have h := hq_t h c13
          refine lv_aload_n hx hb dX12_some_20 rfl (lv_at hl 0 rfl) ?_
          refine lv_dup hx hb dX12_some_21 rfl ?_
          obtain ⟨v14, g15, h⟩ := hq_bind h
          obtain ⟨fs_g15, hs_g15, hv_g15⟩ := gI_at g15
          refine hq_get hx hb hts hown hE hI hs_g15 inG12 rfl 5 (by decide) kw_949 hv_g15 dX12_some_22 ?_
          refine lv_iconst (v := 1) hx hb dX12_some_25 (by decide) ?_
          refine lv_iadd hx hb dX12_some_26 ?_
          obtain ⟨S16, g17, h⟩ := hq_bind h
          obtain ⟨fs_g17, hs_g17, hl_g17, e_g17⟩ := pV_at g17
          refine hq_put hx hb hts hown hE hI hs_g17 inG12 tyX12 tyX12_ok nmX12 rfl 5 (by decide) kw_949 rfl (v := .int (v14 + 1)) rfl rfl rfl hl_g17 e_g17 dX12_some_27 (fun H locs hI => ?_)
          refine lv_aload_n hx hb dX12_some_30 rfl (lv_at hl 0 rfl) ?_
          obtain ⟨g19, h⟩ := hq_g h
          obtain ⟨S20, g18, h⟩ := hq_bind h
          refine hq_callv hI (va_runV (As := []) (rest := []) ⟨hx, hb, hml, hown, hts⟩ (c_X12_every l D kA ρ HB rf fr lo hF S16 a0 _ g18) (cwV 0 hts (gdIn (List.forall_mem_cons.mpr ⟨kw_1093, (List.forall_mem_cons.mpr ⟨kw_1095, (List.forall_mem_cons.mpr ⟨ks_42, (List.forall_mem_cons.mpr ⟨kw_6, (fun _ h => absurd h List.not_mem_nil)⟩)⟩)⟩)⟩) kw_1096) rfl rfl rfl ye_X12_every ⟨by show (fr + 20) + 1 ≤ fr + 40; omega, by show 8 + (1 + 11) + (lo + 400) ≤ lo + 800; omega⟩) (hq_preC hE hI g19 rfl _) rfl rfl hl.1 rfl (lv_room (Nat.le_of_ble_eq_true rfl)) dX12_some_31 ⟨Nat.le_of_ble_eq_true rfl, Nat.le_of_ble_eq_true rfl⟩) (fun H locs hI => ?_)
          refine lv_aload_n hx hb dX12_some_34 rfl (lv_at hl 0 rfl) ?_
          refine lv_bipush (v := (-3)) hx hb dX12_some_35 (by decide) ?_
          obtain ⟨g22, h⟩ := hq_g h
          obtain ⟨S23, g21, h⟩ := hq_bind h
          refine hq_callv hI (va_runV (As := [.int (-3)]) (rest := []) ⟨hx, hb, hml, hown, hts⟩ (c_X12_emits l D kA ρ HB S20 a0 (-3) _ g21) (cwV 1 hts (gdIn (List.forall_mem_cons.mpr ⟨kw_1101, (List.forall_mem_cons.mpr ⟨kw_1103, (List.forall_mem_cons.mpr ⟨ks_44, (List.forall_mem_cons.mpr ⟨kw_6, (fun _ h => absurd h List.not_mem_nil)⟩)⟩)⟩)⟩) kw_1104) rfl rfl rfl ye_X12_emits ⟨by show 0 + 1 ≤ fr + 40; omega, by show 8 + (2 + 11) + (0) ≤ lo + 800; omega⟩) (hq_preC hE hI g22 rfl _) rfl rfl hl.1 rfl (lv_room (Nat.le_of_ble_eq_true rfl)) dX12_some_37 ⟨Nat.le_of_ble_eq_true rfl, Nat.le_of_ble_eq_true rfl⟩) (fun H locs hI => ?_)
          refine lv_goto (tgt := 4) hx hb dX12_some_40 (by decide) ?_
          exact ih4 S23 _ _ _ h hI (lv_sub hl [0] rfl)
  exact hL4 FU S3 _ _ _ h hI (lv_sub hl [0] rfl)
-- RodDipsModel.factor()V
theorem dX12_factor_0 : decode cX12_factor 0 = .ok (.aload_n 0, 1) := by decide +kernel
theorem dX12_factor_1 : decode cX12_factor 1 = .ok (.getfield 68, 3) := by decide +kernel
theorem dX12_factor_4 : decode cX12_factor 4 = .ok (.ifCond .eq 4, 3) := by decide +kernel
theorem dX12_factor_7 : decode cX12_factor 7 = .ok (.return_, 1) := by decide +kernel
theorem dX12_factor_8 : decode cX12_factor 8 = .ok (.aload_n 0, 1) := by decide +kernel
theorem dX12_factor_9 : decode cX12_factor 9 = .ok (.invokevirtual 72, 3) := by decide +kernel
theorem dX12_factor_12 : decode cX12_factor 12 = .ok (.istore_n 1, 1) := by decide +kernel
theorem dX12_factor_13 : decode cX12_factor 13 = .ok (.iload_n 1, 1) := by decide +kernel
theorem dX12_factor_14 : decode cX12_factor 14 = .ok (.bipush 33, 2) := by decide +kernel
theorem dX12_factor_16 : decode cX12_factor 16 = .ok (.if_icmp .eq 9, 3) := by decide +kernel
theorem dX12_factor_19 : decode cX12_factor 19 = .ok (.iload_n 1, 1) := by decide +kernel
theorem dX12_factor_20 : decode cX12_factor 20 = .ok (.bipush 40, 2) := by decide +kernel
theorem dX12_factor_22 : decode cX12_factor 22 = .ok (.if_icmp .ne 90, 3) := by decide +kernel
theorem dX12_factor_25 : decode cX12_factor 25 = .ok (.aload_n 0, 1) := by decide +kernel
theorem dX12_factor_26 : decode cX12_factor 26 = .ok (.aload_n 0, 1) := by decide +kernel
theorem dX12_factor_27 : decode cX12_factor 27 = .ok (.getfield 92, 3) := by decide +kernel
theorem dX12_factor_30 : decode cX12_factor 30 = .ok (.iconst 5, 1) := by decide +kernel
theorem dX12_factor_31 : decode cX12_factor 31 = .ok (.if_icmp .ne 7, 3) := by decide +kernel
theorem dX12_factor_34 : decode cX12_factor 34 = .ok (.iconst 1, 1) := by decide +kernel
theorem dX12_factor_35 : decode cX12_factor 35 = .ok (.goto 4, 3) := by decide +kernel
theorem dX12_factor_38 : decode cX12_factor 38 = .ok (.iconst 0, 1) := by decide +kernel
theorem dX12_factor_39 : decode cX12_factor 39 = .ok (.putfield 68, 3) := by decide +kernel
theorem dX12_factor_42 : decode cX12_factor 42 = .ok (.aload_n 0, 1) := by decide +kernel
theorem dX12_factor_43 : decode cX12_factor 43 = .ok (.dup, 1) := by decide +kernel
theorem dX12_factor_44 : decode cX12_factor 44 = .ok (.getfield 92, 3) := by decide +kernel
theorem dX12_factor_47 : decode cX12_factor 47 = .ok (.iconst 1, 1) := by decide +kernel
theorem dX12_factor_48 : decode cX12_factor 48 = .ok (.iadd, 1) := by decide +kernel
theorem dX12_factor_49 : decode cX12_factor 49 = .ok (.putfield 92, 3) := by decide +kernel
theorem dX12_factor_52 : decode cX12_factor 52 = .ok (.aload_n 0, 1) := by decide +kernel
theorem dX12_factor_53 : decode cX12_factor 53 = .ok (.dup, 1) := by decide +kernel
theorem dX12_factor_54 : decode cX12_factor 54 = .ok (.getfield 62, 3) := by decide +kernel
theorem dX12_factor_57 : decode cX12_factor 57 = .ok (.aload_n 0, 1) := by decide +kernel
theorem dX12_factor_58 : decode cX12_factor 58 = .ok (.getfield 68, 3) := by decide +kernel
theorem dX12_factor_61 : decode cX12_factor 61 = .ok (.ifCond .eq 7, 3) := by decide +kernel
theorem dX12_factor_64 : decode cX12_factor 64 = .ok (.iconst 0, 1) := by decide +kernel
theorem dX12_factor_65 : decode cX12_factor 65 = .ok (.goto 4, 3) := by decide +kernel
theorem dX12_factor_68 : decode cX12_factor 68 = .ok (.iconst 1, 1) := by decide +kernel
theorem dX12_factor_69 : decode cX12_factor 69 = .ok (.iadd, 1) := by decide +kernel
theorem dX12_factor_70 : decode cX12_factor 70 = .ok (.putfield 62, 3) := by decide +kernel
theorem dX12_factor_73 : decode cX12_factor 73 = .ok (.iload_n 1, 1) := by decide +kernel
theorem dX12_factor_74 : decode cX12_factor 74 = .ok (.bipush 33, 2) := by decide +kernel
theorem dX12_factor_76 : decode cX12_factor 76 = .ok (.if_icmp .ne 15, 3) := by decide +kernel
theorem dX12_factor_79 : decode cX12_factor 79 = .ok (.aload_n 0, 1) := by decide +kernel
theorem dX12_factor_80 : decode cX12_factor 80 = .ok (.invokevirtual 95, 3) := by decide +kernel
theorem dX12_factor_83 : decode cX12_factor 83 = .ok (.aload_n 0, 1) := by decide +kernel
theorem dX12_factor_84 : decode cX12_factor 84 = .ok (.iconst (-1), 1) := by decide +kernel
theorem dX12_factor_85 : decode cX12_factor 85 = .ok (.invokevirtual 98, 3) := by decide +kernel
theorem dX12_factor_88 : decode cX12_factor 88 = .ok (.goto 13, 3) := by decide +kernel
theorem dX12_factor_91 : decode cX12_factor 91 = .ok (.aload_n 0, 1) := by decide +kernel
theorem dX12_factor_92 : decode cX12_factor 92 = .ok (.invokevirtual 101, 3) := by decide +kernel
theorem dX12_factor_95 : decode cX12_factor 95 = .ok (.aload_n 0, 1) := by decide +kernel
theorem dX12_factor_96 : decode cX12_factor 96 = .ok (.bipush 41, 2) := by decide +kernel
theorem dX12_factor_98 : decode cX12_factor 98 = .ok (.invokevirtual 85, 3) := by decide +kernel
theorem dX12_factor_101 : decode cX12_factor 101 = .ok (.aload_n 0, 1) := by decide +kernel
theorem dX12_factor_102 : decode cX12_factor 102 = .ok (.dup, 1) := by decide +kernel
theorem dX12_factor_103 : decode cX12_factor 103 = .ok (.getfield 92, 3) := by decide +kernel
theorem dX12_factor_106 : decode cX12_factor 106 = .ok (.iconst 1, 1) := by decide +kernel
theorem dX12_factor_107 : decode cX12_factor 107 = .ok (.isub, 1) := by decide +kernel
theorem dX12_factor_108 : decode cX12_factor 108 = .ok (.putfield 92, 3) := by decide +kernel
theorem dX12_factor_111 : decode cX12_factor 111 = .ok (.return_, 1) := by decide +kernel
theorem dX12_factor_112 : decode cX12_factor 112 = .ok (.aload_n 0, 1) := by decide +kernel
theorem dX12_factor_113 : decode cX12_factor 113 = .ok (.aload_n 0, 1) := by decide +kernel
theorem dX12_factor_114 : decode cX12_factor 114 = .ok (.getfield 89, 3) := by decide +kernel
theorem dX12_factor_117 : decode cX12_factor 117 = .ok (.iconst 5, 1) := by decide +kernel
theorem dX12_factor_118 : decode cX12_factor 118 = .ok (.if_icmp .ge 8, 3) := by decide +kernel
theorem dX12_factor_121 : decode cX12_factor 121 = .ok (.ldc 104, 2) := by decide +kernel
theorem dX12_factor_123 : decode cX12_factor 123 = .ok (.goto 5, 3) := by decide +kernel
theorem dX12_factor_126 : decode cX12_factor 126 = .ok (.ldc 106, 2) := by decide +kernel
theorem dX12_factor_128 : decode cX12_factor 128 = .ok (.invokevirtual 108, 3) := by decide +kernel
theorem dX12_factor_131 : decode cX12_factor 131 = .ok (.istore_n 2, 1) := by decide +kernel
theorem dX12_factor_132 : decode cX12_factor 132 = .ok (.aload_n 0, 1) := by decide +kernel
theorem dX12_factor_133 : decode cX12_factor 133 = .ok (.iload_n 2, 1) := by decide +kernel
theorem dX12_factor_134 : decode cX12_factor 134 = .ok (.iconst (-1), 1) := by decide +kernel
theorem dX12_factor_135 : decode cX12_factor 135 = .ok (.if_icmp .ne 7, 3) := by decide +kernel
theorem dX12_factor_138 : decode cX12_factor 138 = .ok (.iconst 1, 1) := by decide +kernel
theorem dX12_factor_139 : decode cX12_factor 139 = .ok (.goto 4, 3) := by decide +kernel
theorem dX12_factor_142 : decode cX12_factor 142 = .ok (.iconst 0, 1) := by decide +kernel
theorem dX12_factor_143 : decode cX12_factor 143 = .ok (.putfield 68, 3) := by decide +kernel
theorem dX12_factor_146 : decode cX12_factor 146 = .ok (.aload_n 0, 1) := by decide +kernel
theorem dX12_factor_147 : decode cX12_factor 147 = .ok (.getfield 68, 3) := by decide +kernel
theorem dX12_factor_150 : decode cX12_factor 150 = .ok (.ifCond .eq 7, 3) := by decide +kernel
theorem dX12_factor_153 : decode cX12_factor 153 = .ok (.iconst 0, 1) := by decide +kernel
theorem dX12_factor_154 : decode cX12_factor 154 = .ok (.goto 9, 3) := by decide +kernel
theorem dX12_factor_157 : decode cX12_factor 157 = .ok (.aload_n 0, 1) := by decide +kernel
theorem dX12_factor_158 : decode cX12_factor 158 = .ok (.ldc 112, 2) := by decide +kernel
theorem dX12_factor_160 : decode cX12_factor 160 = .ok (.invokevirtual 108, 3) := by decide +kernel
theorem dX12_factor_163 : decode cX12_factor 163 = .ok (.istore_n 3, 1) := by decide +kernel
theorem dX12_factor_164 : decode cX12_factor 164 = .ok (.aload_n 0, 1) := by decide +kernel
theorem dX12_factor_165 : decode cX12_factor 165 = .ok (.aload_n 0, 1) := by decide +kernel
theorem dX12_factor_166 : decode cX12_factor 166 = .ok (.getfield 68, 3) := by decide +kernel
theorem dX12_factor_169 : decode cX12_factor 169 = .ok (.ifCond .ne 8, 3) := by decide +kernel
theorem dX12_factor_172 : decode cX12_factor 172 = .ok (.iload_n 3, 1) := by decide +kernel
theorem dX12_factor_173 : decode cX12_factor 173 = .ok (.iconst (-1), 1) := by decide +kernel
theorem dX12_factor_174 : decode cX12_factor 174 = .ok (.if_icmp .ne 7, 3) := by decide +kernel
theorem dX12_factor_177 : decode cX12_factor 177 = .ok (.iconst 1, 1) := by decide +kernel
theorem dX12_factor_178 : decode cX12_factor 178 = .ok (.goto 4, 3) := by decide +kernel
theorem dX12_factor_181 : decode cX12_factor 181 = .ok (.iconst 0, 1) := by decide +kernel
theorem dX12_factor_182 : decode cX12_factor 182 = .ok (.putfield 68, 3) := by decide +kernel
theorem dX12_factor_185 : decode cX12_factor 185 = .ok (.aload_n 0, 1) := by decide +kernel
theorem dX12_factor_186 : decode cX12_factor 186 = .ok (.invokevirtual 114, 3) := by decide +kernel
theorem dX12_factor_189 : decode cX12_factor 189 = .ok (.istore 4, 2) := by decide +kernel
theorem dX12_factor_191 : decode cX12_factor 191 = .ok (.aload_n 0, 1) := by decide +kernel
theorem dX12_factor_192 : decode cX12_factor 192 = .ok (.iload_n 2, 1) := by decide +kernel
theorem dX12_factor_193 : decode cX12_factor 193 = .ok (.bipush 8, 2) := by decide +kernel
theorem dX12_factor_195 : decode cX12_factor 195 = .ok (.iload_n 3, 1) := by decide +kernel
theorem dX12_factor_196 : decode cX12_factor 196 = .ok (.imul, 1) := by decide +kernel
theorem dX12_factor_197 : decode cX12_factor 197 = .ok (.iadd, 1) := by decide +kernel
theorem dX12_factor_198 : decode cX12_factor 198 = .ok (.bipush 32, 2) := by decide +kernel
theorem dX12_factor_200 : decode cX12_factor 200 = .ok (.iload 4, 2) := by decide +kernel
theorem dX12_factor_202 : decode cX12_factor 202 = .ok (.imul, 1) := by decide +kernel
theorem dX12_factor_203 : decode cX12_factor 203 = .ok (.iadd, 1) := by decide +kernel
theorem dX12_factor_204 : decode cX12_factor 204 = .ok (.invokevirtual 98, 3) := by decide +kernel
theorem dX12_factor_207 : decode cX12_factor 207 = .ok (.return_, 1) := by decide +kernel
def f_X12_factor_J69 (a0 : Nat) (rf : (HSt → Nat → Option (HSt))) (v20 : Int32) (v7 : Int32) (y24 : Int32) (S25 : HSt) : Option (HSt) := (pV S25 a0 12 5 (.int (v20 + y24))).bind fun S26 => if v7 = 33 then (if gC S26 a0 = some 12 then ((rf S26 a0).bind fun S41 => if gC S41 a0 = some 12 then ((f_X12_emits S41 a0 (-1)).bind fun S44 => (gI S44 a0 12 8).bind fun v45 => (pV S44 a0 12 8 (.int (v45 - 1))).bind fun S47 => some S47) else none) else none) else (if gC S26 a0 = some 12 then ((f_X12_some rf S26 a0).bind fun S31 => if gC S31 a0 = some 12 then ((f_X12_must S31 a0 41).bind fun S34 => (gI S34 a0 12 8).bind fun v35 => (pV S34 a0 12 8 (.int (v35 - 1))).bind fun S37 => some S37) else none) else none)
def f_X12_factor_J39 (a0 : Nat) (rf : (HSt → Nat → Option (HSt))) (v7 : Int32) (y11 : Int32) (S12 : HSt) : Option (HSt) := if y11 = 0 ∨ y11 = 1 then ((pV S12 a0 12 7 (.int y11)).bind fun S13 => (gI S13 a0 12 8).bind fun v16 => (pV S13 a0 12 8 (.int (v16 + 1))).bind fun S18 => (gI S18 a0 12 5).bind fun v20 => (gI S18 a0 12 7).bind fun v22 => if v22 = 0 then ((f_X12_factor_J69 a0 rf v20 v7) 1 S18) else ((f_X12_factor_J69 a0 rf v20 v7) 0 S18)) else none
def f_X12_factor_J25 (a0 : Nat) (rf : (HSt → Nat → Option (HSt))) (v7 : Int32) (S8 : HSt) : Option (HSt) := (gI S8 a0 12 8).bind fun v9 => if v9 = 5 then ((f_X12_factor_J39 a0 rf v7) 1 S8) else ((f_X12_factor_J39 a0 rf v7) 0 S8)
def f_X12_factor_J182 (a0 : Nat) (v60 : Int32) (y68 : Int32) (y72 : Int32) (S73 : HSt) : Option (HSt) := if y72 = 0 ∨ y72 = 1 then ((pV S73 a0 12 7 (.int y72)).bind fun S74 => if gC S74 a0 = some 12 then (bd2 (f_X12_figures S74 a0) fun v80 S79 => if gC S79 a0 = some 12 then ((f_X12_emits S79 a0 ((v60 + (8 * y68)) + (32 * v80))).bind fun S83 => some S83) else none) else none) else none
def f_X12_factor_J163 (a0 : Nat) (v60 : Int32) (y68 : Int32) (S69 : HSt) : Option (HSt) := (gI S69 a0 12 7).bind fun v70 => if v70 = 0 then (if y68 = (-1) then ((f_X12_factor_J182 a0 v60 y68) 1 S69) else ((f_X12_factor_J182 a0 v60 y68) 0 S69)) else ((f_X12_factor_J182 a0 v60 y68) 1 S69)
def f_X12_factor_J143 (ρ : Nat → Nat) (a0 : Nat) (v60 : Int32) (y61 : Int32) (S62 : HSt) : Option (HSt) := if y61 = 0 ∨ y61 = 1 then ((pV S62 a0 12 7 (.int y61)).bind fun S63 => (gI S63 a0 12 7).bind fun v66 => if v66 = 0 then (if gC S63 a0 = some 12 then (bd2 (f_X12_among ρ S63 a0 (ρ 12)) fun v90 S89 => (f_X12_factor_J163 a0 v60) v90 S89) else none) else ((f_X12_factor_J163 a0 v60) 0 S63)) else none
def f_X12_factor_J128 (ρ : Nat → Nat) (a0 : Nat) (y55 : Nat) (S56 : HSt) : Option (HSt) := if gC S56 a0 = some 12 then (bd2 (f_X12_among ρ S56 a0 y55) fun v60 S59 => if v60 = (-1) then ((f_X12_factor_J143 ρ a0 v60) 1 S59) else ((f_X12_factor_J143 ρ a0 v60) 0 S59)) else none
def f_X12_factor_B (rf : (HSt → Nat → Option (HSt))) (ρ : Nat → Nat) (S : HSt) (a0 : Nat) : Option (HSt) := (gI S a0 12 7).bind fun v1 => if v1 = 0 then (if gC S a0 = some 12 then (bd2 (f_X12_here S a0) fun v7 S6 => if v7 = 33 then ((f_X12_factor_J25 a0 rf v7) S6) else (if v7 = 40 then ((f_X12_factor_J25 a0 rf v7) S6) else ((gI S6 a0 12 4).bind fun v53 => if 5 ≤ v53 then ((f_X12_factor_J128 ρ a0) (ρ 14) S6) else ((f_X12_factor_J128 ρ a0) (ρ 1) S6)))) else none) else (some S)
abbrev rm_X12_factor_B (fr lo : Nat) : Room := { frames := fr + 60, cells := 0, slots := 0, locals := lo + 1200 }
set_option maxHeartbeats 4000000 in
set_option maxRecDepth 100000 in
theorem c_X12_factor_B (l : Launch) (D : va_G) (kA ρ : Nat → Nat) (HB : Heap) (rf : (HSt → Nat → Option (HSt))) (fr lo : Nat) (hF : ∀ (S : HSt) (a0 : Nat) (res : HSt), rf S a0 = some res → Met l yX12_factor w_X12_factor { frames := fr, cells := 0, slots := 0, locals := lo } (hPc D kA ρ HB S [.ref a0]) (hQv D kA HB S res) 0 0 (hFree HB)) (S : HSt) (a0 : Nat) (res : HSt) (h : f_X12_factor_B rf ρ S a0 = some res) : Met l yX12_factor w_X12_factor (rm_X12_factor_B fr lo) (hPc D kA ρ HB S [.ref a0]) (hQv D kA HB S res) 0 0 (hFree HB) := by
  refine Met.ofW (cc := cX12_factor) (maxL := 5) (ret := none) (by decide) rfl ?_
  intro p e s m args below meth c s₁ B hml hv
  obtain ⟨rfl, hE, h0⟩ := hv
  have hx := B.exec
  have hb := B.bytes
  have hr := B.returns
  have hts0 := atoms_spec (ws := w_X12_factor) B.pre
  have hts : ∀ w ∈ lwG, w.before _ s = true := fun w hw => hts0 w (List.mem_cons_of_mem _ hw)
  have hown : s.vm.findClass RX12 = some m.cls := findClass_of_methodNamed B.named
  have hlocks := B.notSynchronized
  have hI : hqX D kA HB S.2 S s.heap [] := ⟨h0, Nat.le_refl _, fun _ q => absurd q List.not_mem_nil⟩
  have hl := lv_entry ([.ref a0]) (n := 5) (Nat.le_of_ble_eq_true rfl)
  rw [lg_entry_eq]
  generalize (lg_sl ([.ref a0]) ++ List.replicate (5 - (lg_sl ([.ref a0])).length) Slot.unset).toArray = ls at hl ⊢
  have hl : lv_has ls 5 [(0, .ref a0)] := hl
  unfold f_X12_factor_B at h
  refine lv_aload_n hx hb dX12_factor_0 rfl (lv_at hl 0 rfl) ?_
  obtain ⟨v1, g2, h⟩ := hq_bind h
  obtain ⟨fs_g2, hs_g2, hv_g2⟩ := gI_at g2
  refine hq_get hx hb hts hown hE hI hs_g2 inG12 rfl 7 (by decide) kw_951 hv_g2 dX12_factor_1 ?_
  refine lv_if_eq (tgt := 8) hx hb dX12_factor_4 (by decide) (fun c3 => ?_) (fun c3 => ?_)
  · have h := hq_t h c3
    refine lv_aload_n hx hb dX12_factor_8 rfl (lv_at hl 0 rfl) ?_
    obtain ⟨g5, h⟩ := hq_g h
    obtain ⟨v7, S6, g4, h⟩ := hq_bd2 h
    refine hq_calli hI (va_runV (As := []) (rest := []) ⟨hx, hb, hml, hown, hts⟩ (c_X12_here l D kA ρ HB S a0 _ g4) (cwV 0 hts (gdIn (List.forall_mem_cons.mpr ⟨kw_1060, (List.forall_mem_cons.mpr ⟨kw_1062, (List.forall_mem_cons.mpr ⟨ks_35, (List.forall_mem_cons.mpr ⟨kw_6, (fun _ h => absurd h List.not_mem_nil)⟩)⟩)⟩)⟩) kw_1063) rfl rfl rfl ye_X12_here ⟨by show 0 + 1 ≤ fr + 60; omega, by show 8 + (1 + 11) + (0) ≤ lo + 1200; omega⟩) (hq_preC hE hI g5 rfl _) rfl rfl hl.1 rfl (lv_room (Nat.le_of_ble_eq_true rfl)) dX12_factor_9 ⟨Nat.le_of_ble_eq_true rfl, Nat.le_of_ble_eq_true rfl⟩) (fun H locs hI => ?_)
    refine lv_istore_n (lv' := [(1, .int v7), (0, .ref a0)]) hx hb dX12_factor_12 rfl hl (by decide) rfl (fun ls hl => ?_)
    refine lv_iload_n hx hb dX12_factor_13 rfl (lv_at hl 0 rfl) ?_
    refine lv_bipush (v := 33) hx hb dX12_factor_14 (by decide) ?_
    have hJ25 : ∀ (S8 : HSt) (H : Heap) (locs : List Loc) (ls : Array Slot), (f_X12_factor_J25 a0 rf v7) S8 = some res → hqX D kA HB S.2 S8 H locs → lv_has ls 5 [(0, .ref a0), (1, .int v7)] → W p l e (rm_X12_factor_B fr lo) s m ([.ref a0] : List Value).toArray below meth c H locs 0 0 (MQ below (hQv D kA HB S res) ([.ref a0] : List Value).toArray s 0 0 (hFree HB)) (F0 m 25 ls []) := by
      intro S8 H locs ls h hI hl
      unfold f_X12_factor_J25 at h
      refine lv_aload_n hx hb dX12_factor_25 rfl (lv_at hl 0 rfl) ?_
      refine lv_aload_n hx hb dX12_factor_26 rfl (lv_at hl 0 rfl) ?_
      obtain ⟨v9, g10, h⟩ := hq_bind h
      obtain ⟨fs_g10, hs_g10, hv_g10⟩ := gI_at g10
      refine hq_get hx hb hts hown hE hI hs_g10 inG12 rfl 8 (by decide) kw_952 hv_g10 dX12_factor_27 ?_
      refine lv_iconst (v := 5) hx hb dX12_factor_30 (by decide) ?_
      have hJ39 : ∀ (y11 : Int32) (S12 : HSt) (H : Heap) (locs : List Loc) (ls : Array Slot), (f_X12_factor_J39 a0 rf v7) y11 S12 = some res → hqX D kA HB S.2 S12 H locs → lv_has ls 5 [(0, .ref a0), (1, .int v7)] → W p l e (rm_X12_factor_B fr lo) s m ([.ref a0] : List Value).toArray below meth c H locs 0 0 (MQ below (hQv D kA HB S res) ([.ref a0] : List Value).toArray s 0 0 (hFree HB)) (F0 m 39 ls [.int y11, .ref a0]) := by
        intro y11 S12 H locs ls h hI hl
        unfold f_X12_factor_J39 at h
        obtain ⟨c15, h⟩ := hq_g h
        obtain ⟨S13, g14, h⟩ := hq_bind h
        obtain ⟨fs_g14, hs_g14, hl_g14, e_g14⟩ := pV_at g14
        refine hq_put hx hb hts hown hE hI hs_g14 inG12 tyX12 tyX12_ok nmX12 rfl 7 (by decide) kw_951 rfl (v := .int y11) rfl (hq_nz c15) (hq_fz c15) hl_g14 e_g14 dX12_factor_39 (fun H locs hI => ?_)
        refine lv_aload_n hx hb dX12_factor_42 rfl (lv_at hl 0 rfl) ?_
        refine lv_dup hx hb dX12_factor_43 rfl ?_
        obtain ⟨v16, g17, h⟩ := hq_bind h
        obtain ⟨fs_g17, hs_g17, hv_g17⟩ := gI_at g17
        refine hq_get hx hb hts hown hE hI hs_g17 inG12 rfl 8 (by decide) kw_952 hv_g17 dX12_factor_44 ?_
        refine lv_iconst (v := 1) hx hb dX12_factor_47 (by decide) ?_
        refine lv_iadd hx hb dX12_factor_48 ?_
        obtain ⟨S18, g19, h⟩ := hq_bind h
        obtain ⟨fs_g19, hs_g19, hl_g19, e_g19⟩ := pV_at g19
        refine hq_put hx hb hts hown hE hI hs_g19 inG12 tyX12 tyX12_ok nmX12 rfl 8 (by decide) kw_952 rfl (v := .int (v16 + 1)) rfl rfl rfl hl_g19 e_g19 dX12_factor_49 (fun H locs hI => ?_)
        refine lv_aload_n hx hb dX12_factor_52 rfl (lv_at hl 0 rfl) ?_
        refine lv_dup hx hb dX12_factor_53 rfl ?_
        obtain ⟨v20, g21, h⟩ := hq_bind h
        obtain ⟨fs_g21, hs_g21, hv_g21⟩ := gI_at g21
        refine hq_get hx hb hts hown hE hI hs_g21 inG12 rfl 5 (by decide) kw_949 hv_g21 dX12_factor_54 ?_
        refine lv_aload_n hx hb dX12_factor_57 rfl (lv_at hl 0 rfl) ?_
        obtain ⟨v22, g23, h⟩ := hq_bind h
        obtain ⟨fs_g23, hs_g23, hv_g23⟩ := gI_at g23
        refine hq_get hx hb hts hown hE hI hs_g23 inG12 rfl 7 (by decide) kw_951 hv_g23 dX12_factor_58 ?_
        have hJ69 : ∀ (y24 : Int32) (S25 : HSt) (H : Heap) (locs : List Loc) (ls : Array Slot), (f_X12_factor_J69 a0 rf v20 v7) y24 S25 = some res → hqX D kA HB S.2 S25 H locs → lv_has ls 5 [(0, .ref a0), (1, .int v7)] → W p l e (rm_X12_factor_B fr lo) s m ([.ref a0] : List Value).toArray below meth c H locs 0 0 (MQ below (hQv D kA HB S res) ([.ref a0] : List Value).toArray s 0 0 (hFree HB)) (F0 m 69 ls [.int y24, .int v20, .ref a0]) := by
          intro y24 S25 H locs ls h hI hl
          unfold f_X12_factor_J69 at h
          refine lv_iadd hx hb dX12_factor_69 ?_
          obtain ⟨S26, g27, h⟩ := hq_bind h
          obtain ⟨fs_g27, hs_g27, hl_g27, e_g27⟩ := pV_at g27
          refine hq_put hx hb hts hown hE hI hs_g27 inG12 tyX12 tyX12_ok nmX12 rfl 5 (by decide) kw_949 rfl (v := .int (v20 + y24)) rfl rfl rfl hl_g27 e_g27 dX12_factor_70 (fun H locs hI => ?_)
          refine lv_iload_n hx hb dX12_factor_73 rfl (lv_at hl 1 rfl) ?_
          refine lv_bipush (v := 33) hx hb dX12_factor_74 (by decide) ?_
          refine lv_icmp_ne (tgt := 91) hx hb dX12_factor_76 (by decide) (fun c28 => ?_) (fun c28 => ?_)
          · have h := hq_f h c28
            refine lv_aload_n hx hb dX12_factor_91 rfl (lv_at hl 0 rfl) ?_
            obtain ⟨g30, h⟩ := hq_g h
            obtain ⟨S31, g29, h⟩ := hq_bind h
            refine hq_callv hI (va_runV (As := []) (rest := []) ⟨hx, hb, hml, hown, hts⟩ (c_X12_some l D kA ρ HB rf fr lo hF S26 a0 _ g29) (cwV 0 hts (gdIn (List.forall_mem_cons.mpr ⟨kw_1089, (List.forall_mem_cons.mpr ⟨kw_1091, (List.forall_mem_cons.mpr ⟨ks_41, (List.forall_mem_cons.mpr ⟨kw_6, (fun _ h => absurd h List.not_mem_nil)⟩)⟩)⟩)⟩) kw_1092) rfl rfl rfl ye_X12_some ⟨by show (fr + 40) + 1 ≤ fr + 60; omega, by show 8 + (1 + 11) + (lo + 800) ≤ lo + 1200; omega⟩) (hq_preC hE hI g30 rfl _) rfl rfl hl.1 rfl (lv_room (Nat.le_of_ble_eq_true rfl)) dX12_factor_92 ⟨Nat.le_of_ble_eq_true rfl, Nat.le_of_ble_eq_true rfl⟩) (fun H locs hI => ?_)
            refine lv_aload_n hx hb dX12_factor_95 rfl (lv_at hl 0 rfl) ?_
            refine lv_bipush (v := 41) hx hb dX12_factor_96 (by decide) ?_
            obtain ⟨g33, h⟩ := hq_g h
            obtain ⟨S34, g32, h⟩ := hq_bind h
            refine hq_callv hI (va_runV (As := [.int 41]) (rest := []) ⟨hx, hb, hml, hown, hts⟩ (c_X12_must l D kA ρ HB S31 a0 41 _ g32) (cwV 1 hts (gdIn (List.forall_mem_cons.mpr ⟨kw_1075, (List.forall_mem_cons.mpr ⟨kw_1077, (List.forall_mem_cons.mpr ⟨ks_38, (List.forall_mem_cons.mpr ⟨kw_6, (fun _ h => absurd h List.not_mem_nil)⟩)⟩)⟩)⟩) kw_1078) rfl rfl rfl ye_X12_must ⟨by show 1 + 1 ≤ fr + 60; omega, by show 8 + (2 + 11) + (20) ≤ lo + 1200; omega⟩) (hq_preC hE hI g33 rfl _) rfl rfl hl.1 rfl (lv_room (Nat.le_of_ble_eq_true rfl)) dX12_factor_98 ⟨Nat.le_of_ble_eq_true rfl, Nat.le_of_ble_eq_true rfl⟩) (fun H locs hI => ?_)
            refine lv_aload_n hx hb dX12_factor_101 rfl (lv_at hl 0 rfl) ?_
            refine lv_dup hx hb dX12_factor_102 rfl ?_
            obtain ⟨v35, g36, h⟩ := hq_bind h
            obtain ⟨fs_g36, hs_g36, hv_g36⟩ := gI_at g36
            refine hq_get hx hb hts hown hE hI hs_g36 inG12 rfl 8 (by decide) kw_952 hv_g36 dX12_factor_103 ?_
            refine lv_iconst (v := 1) hx hb dX12_factor_106 (by decide) ?_
            refine lv_isub hx hb dX12_factor_107 ?_
            obtain ⟨S37, g38, h⟩ := hq_bind h
            obtain ⟨fs_g38, hs_g38, hl_g38, e_g38⟩ := pV_at g38
            refine hq_put hx hb hts hown hE hI hs_g38 inG12 tyX12 tyX12_ok nmX12 rfl 8 (by decide) kw_952 rfl (v := .int (v35 - 1)) rfl rfl rfl hl_g38 e_g38 dX12_factor_108 (fun H locs hI => ?_)
            exact hq_vret hx hb hr hlocks h0 hI h dX12_factor_111
          · have h := hq_t h c28
            refine lv_aload_n hx hb dX12_factor_79 rfl (lv_at hl 0 rfl) ?_
            obtain ⟨g40, h⟩ := hq_g h
            obtain ⟨S41, g39, h⟩ := hq_bind h
            refine hq_callv hI (va_runV (As := []) (rest := []) ⟨hx, hb, hml, hown, hts⟩ (hF S26 a0 _ g39) (cwV 0 hts (gdIn (List.forall_mem_cons.mpr ⟨kw_1097, (List.forall_mem_cons.mpr ⟨kw_1099, (List.forall_mem_cons.mpr ⟨ks_43, (List.forall_mem_cons.mpr ⟨kw_6, (fun _ h => absurd h List.not_mem_nil)⟩)⟩)⟩)⟩) kw_1100) rfl rfl rfl ye_X12_factor ⟨by show fr + 1 ≤ fr + 60; omega, by show 8 + (5 + 11) + (lo) ≤ lo + 1200; omega⟩) (hq_preC hE hI g40 rfl _) rfl rfl hl.1 rfl (lv_room (Nat.le_of_ble_eq_true rfl)) dX12_factor_80 ⟨Nat.le_of_ble_eq_true rfl, Nat.le_of_ble_eq_true rfl⟩) (fun H locs hI => ?_)
            refine lv_aload_n hx hb dX12_factor_83 rfl (lv_at hl 0 rfl) ?_
            refine lv_iconst (v := (-1)) hx hb dX12_factor_84 (by decide) ?_
            obtain ⟨g43, h⟩ := hq_g h
            obtain ⟨S44, g42, h⟩ := hq_bind h
            refine hq_callv hI (va_runV (As := [.int (-1)]) (rest := []) ⟨hx, hb, hml, hown, hts⟩ (c_X12_emits l D kA ρ HB S41 a0 (-1) _ g42) (cwV 1 hts (gdIn (List.forall_mem_cons.mpr ⟨kw_1101, (List.forall_mem_cons.mpr ⟨kw_1103, (List.forall_mem_cons.mpr ⟨ks_44, (List.forall_mem_cons.mpr ⟨kw_6, (fun _ h => absurd h List.not_mem_nil)⟩)⟩)⟩)⟩) kw_1104) rfl rfl rfl ye_X12_emits ⟨by show 0 + 1 ≤ fr + 60; omega, by show 8 + (2 + 11) + (0) ≤ lo + 1200; omega⟩) (hq_preC hE hI g43 rfl _) rfl rfl hl.1 rfl (lv_room (Nat.le_of_ble_eq_true rfl)) dX12_factor_85 ⟨Nat.le_of_ble_eq_true rfl, Nat.le_of_ble_eq_true rfl⟩) (fun H locs hI => ?_)
            refine lv_goto (tgt := 101) hx hb dX12_factor_88 (by decide) ?_
            refine lv_aload_n hx hb dX12_factor_101 rfl (lv_at hl 0 rfl) ?_
            refine lv_dup hx hb dX12_factor_102 rfl ?_
            obtain ⟨v45, g46, h⟩ := hq_bind h
            obtain ⟨fs_g46, hs_g46, hv_g46⟩ := gI_at g46
            refine hq_get hx hb hts hown hE hI hs_g46 inG12 rfl 8 (by decide) kw_952 hv_g46 dX12_factor_103 ?_
            refine lv_iconst (v := 1) hx hb dX12_factor_106 (by decide) ?_
            refine lv_isub hx hb dX12_factor_107 ?_
            obtain ⟨S47, g48, h⟩ := hq_bind h
            obtain ⟨fs_g48, hs_g48, hl_g48, e_g48⟩ := pV_at g48
            refine hq_put hx hb hts hown hE hI hs_g48 inG12 tyX12 tyX12_ok nmX12 rfl 8 (by decide) kw_952 rfl (v := .int (v45 - 1)) rfl rfl rfl hl_g48 e_g48 dX12_factor_108 (fun H locs hI => ?_)
            exact hq_vret hx hb hr hlocks h0 hI h dX12_factor_111
        refine lv_if_eq (tgt := 68) hx hb dX12_factor_61 (by decide) (fun c49 => ?_) (fun c49 => ?_)
        · have h := hq_t h c49
          refine lv_iconst (v := 1) hx hb dX12_factor_68 (by decide) ?_
          exact hJ69 1 S18 _ _ _ h hI (lv_sub hl [0, 1] rfl)
        · have h := hq_f h c49
          refine lv_iconst (v := 0) hx hb dX12_factor_64 (by decide) ?_
          refine lv_goto (tgt := 69) hx hb dX12_factor_65 (by decide) ?_
          exact hJ69 0 S18 _ _ _ h hI (lv_sub hl [0, 1] rfl)
      refine lv_icmp_ne (tgt := 38) hx hb dX12_factor_31 (by decide) (fun c50 => ?_) (fun c50 => ?_)
      · have h := hq_f h c50
        refine lv_iconst (v := 0) hx hb dX12_factor_38 (by decide) ?_
        exact hJ39 0 S8 _ _ _ h hI (lv_sub hl [0, 1] rfl)
      · have h := hq_t h c50
        refine lv_iconst (v := 1) hx hb dX12_factor_34 (by decide) ?_
        refine lv_goto (tgt := 39) hx hb dX12_factor_35 (by decide) ?_
        exact hJ39 1 S8 _ _ _ h hI (lv_sub hl [0, 1] rfl)
    refine lv_icmp_eq (tgt := 25) hx hb dX12_factor_16 (by decide) (fun c51 => ?_) (fun c51 => ?_)
    · have h := hq_t h c51
      exact hJ25 S6 _ _ _ h hI (lv_sub hl [1, 0] rfl)
    · have h := hq_f h c51
      refine lv_iload_n hx hb dX12_factor_19 rfl (lv_at hl 0 rfl) ?_
      refine lv_bipush (v := 40) hx hb dX12_factor_20 (by decide) ?_
      refine lv_icmp_ne (tgt := 112) hx hb dX12_factor_22 (by decide) (fun c52 => ?_) (fun c52 => ?_)
      · have h := hq_f h c52
        refine lv_aload_n hx hb dX12_factor_112 rfl (lv_at hl 1 rfl) ?_
        refine lv_aload_n hx hb dX12_factor_113 rfl (lv_at hl 1 rfl) ?_
        obtain ⟨v53, g54, h⟩ := hq_bind h
        obtain ⟨fs_g54, hs_g54, hv_g54⟩ := gI_at g54
        refine hq_get hx hb hts hown hE hI hs_g54 inG12 rfl 4 (by decide) kw_948 hv_g54 dX12_factor_114 ?_
        refine lv_iconst (v := 5) hx hb dX12_factor_117 (by decide) ?_
        have hJ128 : ∀ (y55 : Nat) (S56 : HSt) (H : Heap) (locs : List Loc) (ls : Array Slot), (f_X12_factor_J128 ρ a0) y55 S56 = some res → hqX D kA HB S.2 S56 H locs → lv_has ls 5 [(0, .ref a0)] → W p l e (rm_X12_factor_B fr lo) s m ([.ref a0] : List Value).toArray below meth c H locs 0 0 (MQ below (hQv D kA HB S res) ([.ref a0] : List Value).toArray s 0 0 (hFree HB)) (F0 m 128 ls [.ref y55, .ref a0]) := by
          intro y55 S56 H locs ls h hI hl
          unfold f_X12_factor_J128 at h
          obtain ⟨g58, h⟩ := hq_g h
          obtain ⟨v60, S59, g57, h⟩ := hq_bd2 h
          refine hq_calli hI (va_runV (As := [.ref y55]) (rest := []) ⟨hx, hb, hml, hown, hts⟩ (c_X12_among l D kA ρ HB S56 a0 y55 _ g57) (cwV 1 hts (gdIn (List.forall_mem_cons.mpr ⟨kw_1107, (List.forall_mem_cons.mpr ⟨kw_1109, (List.forall_mem_cons.mpr ⟨ks_45, (List.forall_mem_cons.mpr ⟨kw_6, (fun _ h => absurd h List.not_mem_nil)⟩)⟩)⟩)⟩) kw_1110) rfl rfl rfl ye_X12_among ⟨by show 4 + 1 ≤ fr + 60; omega, by show 8 + (3 + 11) + (85) ≤ lo + 1200; omega⟩) (hq_preC hE hI g58 rfl _) rfl rfl hl.1 rfl (lv_room (Nat.le_of_ble_eq_true rfl)) dX12_factor_128 ⟨Nat.le_of_ble_eq_true rfl, Nat.le_of_ble_eq_true rfl⟩) (fun H locs hI => ?_)
          refine lv_istore_n (lv' := [(2, .int v60), (0, .ref a0)]) hx hb dX12_factor_131 rfl hl (by decide) rfl (fun ls hl => ?_)
          refine lv_aload_n hx hb dX12_factor_132 rfl (lv_at hl 1 rfl) ?_
          refine lv_iload_n hx hb dX12_factor_133 rfl (lv_at hl 0 rfl) ?_
          refine lv_iconst (v := (-1)) hx hb dX12_factor_134 (by decide) ?_
          have hJ143 : ∀ (y61 : Int32) (S62 : HSt) (H : Heap) (locs : List Loc) (ls : Array Slot), (f_X12_factor_J143 ρ a0 v60) y61 S62 = some res → hqX D kA HB S.2 S62 H locs → lv_has ls 5 [(0, .ref a0), (2, .int v60)] → W p l e (rm_X12_factor_B fr lo) s m ([.ref a0] : List Value).toArray below meth c H locs 0 0 (MQ below (hQv D kA HB S res) ([.ref a0] : List Value).toArray s 0 0 (hFree HB)) (F0 m 143 ls [.int y61, .ref a0]) := by
            intro y61 S62 H locs ls h hI hl
            unfold f_X12_factor_J143 at h
            obtain ⟨c65, h⟩ := hq_g h
            obtain ⟨S63, g64, h⟩ := hq_bind h
            obtain ⟨fs_g64, hs_g64, hl_g64, e_g64⟩ := pV_at g64
            refine hq_put hx hb hts hown hE hI hs_g64 inG12 tyX12 tyX12_ok nmX12 rfl 7 (by decide) kw_951 rfl (v := .int y61) rfl (hq_nz c65) (hq_fz c65) hl_g64 e_g64 dX12_factor_143 (fun H locs hI => ?_)
            refine lv_aload_n hx hb dX12_factor_146 rfl (lv_at hl 0 rfl) ?_
            obtain ⟨v66, g67, h⟩ := hq_bind h
            obtain ⟨fs_g67, hs_g67, hv_g67⟩ := gI_at g67
            refine hq_get hx hb hts hown hE hI hs_g67 inG12 rfl 7 (by decide) kw_951 hv_g67 dX12_factor_147 ?_
            have hJ163 : ∀ (y68 : Int32) (S69 : HSt) (H : Heap) (locs : List Loc) (ls : Array Slot), (f_X12_factor_J163 a0 v60) y68 S69 = some res → hqX D kA HB S.2 S69 H locs → lv_has ls 5 [(0, .ref a0), (2, .int v60)] → W p l e (rm_X12_factor_B fr lo) s m ([.ref a0] : List Value).toArray below meth c H locs 0 0 (MQ below (hQv D kA HB S res) ([.ref a0] : List Value).toArray s 0 0 (hFree HB)) (F0 m 163 ls [.int y68]) := by
              intro y68 S69 H locs ls h hI hl
              unfold f_X12_factor_J163 at h
              refine lv_istore_n (lv' := [(3, .int y68), (0, .ref a0), (2, .int v60)]) hx hb dX12_factor_163 rfl hl (by decide) rfl (fun ls hl => ?_)
              refine lv_aload_n hx hb dX12_factor_164 rfl (lv_at hl 1 rfl) ?_
              refine lv_aload_n hx hb dX12_factor_165 rfl (lv_at hl 1 rfl) ?_
              obtain ⟨v70, g71, h⟩ := hq_bind h
              obtain ⟨fs_g71, hs_g71, hv_g71⟩ := gI_at g71
              refine hq_get hx hb hts hown hE hI hs_g71 inG12 rfl 7 (by decide) kw_951 hv_g71 dX12_factor_166 ?_
              have hJ182 : ∀ (y72 : Int32) (S73 : HSt) (H : Heap) (locs : List Loc) (ls : Array Slot), (f_X12_factor_J182 a0 v60 y68) y72 S73 = some res → hqX D kA HB S.2 S73 H locs → lv_has ls 5 [(0, .ref a0), (2, .int v60), (3, .int y68)] → W p l e (rm_X12_factor_B fr lo) s m ([.ref a0] : List Value).toArray below meth c H locs 0 0 (MQ below (hQv D kA HB S res) ([.ref a0] : List Value).toArray s 0 0 (hFree HB)) (F0 m 182 ls [.int y72, .ref a0]) := by
                intro y72 S73 H locs ls h hI hl
                unfold f_X12_factor_J182 at h
                obtain ⟨c76, h⟩ := hq_g h
                obtain ⟨S74, g75, h⟩ := hq_bind h
                obtain ⟨fs_g75, hs_g75, hl_g75, e_g75⟩ := pV_at g75
                refine hq_put hx hb hts hown hE hI hs_g75 inG12 tyX12 tyX12_ok nmX12 rfl 7 (by decide) kw_951 rfl (v := .int y72) rfl (hq_nz c76) (hq_fz c76) hl_g75 e_g75 dX12_factor_182 (fun H locs hI => ?_)
                refine lv_aload_n hx hb dX12_factor_185 rfl (lv_at hl 0 rfl) ?_
                obtain ⟨g78, h⟩ := hq_g h
                obtain ⟨v80, S79, g77, h⟩ := hq_bd2 h
                refine hq_calli hI (va_runV (As := []) (rest := []) ⟨hx, hb, hml, hown, hts⟩ (c_X12_figures l D kA ρ HB S74 a0 _ g77) (cwV 0 hts (gdIn (List.forall_mem_cons.mpr ⟨kw_1079, (List.forall_mem_cons.mpr ⟨kw_1081, (List.forall_mem_cons.mpr ⟨ks_39, (List.forall_mem_cons.mpr ⟨kw_6, (fun _ h => absurd h List.not_mem_nil)⟩)⟩)⟩)⟩) kw_1082) rfl rfl rfl ye_X12_figures ⟨by show 1 + 1 ≤ fr + 60; omega, by show 8 + (3 + 11) + (22) ≤ lo + 1200; omega⟩) (hq_preC hE hI g78 rfl _) rfl rfl hl.1 rfl (lv_room (Nat.le_of_ble_eq_true rfl)) dX12_factor_186 ⟨Nat.le_of_ble_eq_true rfl, Nat.le_of_ble_eq_true rfl⟩) (fun H locs hI => ?_)
                refine lv_istore (lv' := [(4, .int v80), (0, .ref a0), (2, .int v60), (3, .int y68)]) hx hb dX12_factor_189 hl (by decide) rfl (fun ls hl => ?_)
                refine lv_aload_n hx hb dX12_factor_191 rfl (lv_at hl 1 rfl) ?_
                refine lv_iload_n hx hb dX12_factor_192 rfl (lv_at hl 2 rfl) ?_
                refine lv_bipush (v := 8) hx hb dX12_factor_193 (by decide) ?_
                refine lv_iload_n hx hb dX12_factor_195 rfl (lv_at hl 3 rfl) ?_
                refine lv_imul hx hb dX12_factor_196 ?_
                refine lv_iadd hx hb dX12_factor_197 ?_
                refine lv_bipush (v := 32) hx hb dX12_factor_198 (by decide) ?_
                refine lv_iload hx hb dX12_factor_200 (lv_at hl 0 rfl) ?_
                refine lv_imul hx hb dX12_factor_202 ?_
                refine lv_iadd hx hb dX12_factor_203 ?_
                obtain ⟨g82, h⟩ := hq_g h
                obtain ⟨S83, g81, h⟩ := hq_bind h
                refine hq_callv hI (va_runV (As := [.int ((v60 + (8 * y68)) + (32 * v80))]) (rest := []) ⟨hx, hb, hml, hown, hts⟩ (c_X12_emits l D kA ρ HB S79 a0 ((v60 + (8 * y68)) + (32 * v80)) _ g81) (cwV 1 hts (gdIn (List.forall_mem_cons.mpr ⟨kw_1101, (List.forall_mem_cons.mpr ⟨kw_1103, (List.forall_mem_cons.mpr ⟨ks_44, (List.forall_mem_cons.mpr ⟨kw_6, (fun _ h => absurd h List.not_mem_nil)⟩)⟩)⟩)⟩) kw_1104) rfl rfl rfl ye_X12_emits ⟨by show 0 + 1 ≤ fr + 60; omega, by show 8 + (2 + 11) + (0) ≤ lo + 1200; omega⟩) (hq_preC hE hI g82 rfl _) rfl rfl hl.1 rfl (lv_room (Nat.le_of_ble_eq_true rfl)) dX12_factor_204 ⟨Nat.le_of_ble_eq_true rfl, Nat.le_of_ble_eq_true rfl⟩) (fun H locs hI => ?_)
                exact hq_vret hx hb hr hlocks h0 hI h dX12_factor_207
              refine lv_if_ne (tgt := 177) hx hb dX12_factor_169 (by decide) (fun c84 => ?_) (fun c84 => ?_)
              · have h := hq_f h c84
                refine lv_iconst (v := 1) hx hb dX12_factor_177 (by decide) ?_
                refine lv_goto (tgt := 182) hx hb dX12_factor_178 (by decide) ?_
                exact hJ182 1 S69 _ _ _ h hI (lv_sub hl [1, 2, 0] rfl)
              · have h := hq_t h c84
                refine lv_iload_n hx hb dX12_factor_172 rfl (lv_at hl 0 rfl) ?_
                refine lv_iconst (v := (-1)) hx hb dX12_factor_173 (by decide) ?_
                refine lv_icmp_ne (tgt := 181) hx hb dX12_factor_174 (by decide) (fun c85 => ?_) (fun c85 => ?_)
                · have h := hq_f h c85
                  refine lv_iconst (v := 0) hx hb dX12_factor_181 (by decide) ?_
                  exact hJ182 0 S69 _ _ _ h hI (lv_sub hl [1, 2, 0] rfl)
                · have h := hq_t h c85
                  refine lv_iconst (v := 1) hx hb dX12_factor_177 (by decide) ?_
                  refine lv_goto (tgt := 182) hx hb dX12_factor_178 (by decide) ?_
                  exact hJ182 1 S69 _ _ _ h hI (lv_sub hl [1, 2, 0] rfl)
            refine lv_if_eq (tgt := 157) hx hb dX12_factor_150 (by decide) (fun c86 => ?_) (fun c86 => ?_)
            · have h := hq_t h c86
              refine lv_aload_n hx hb dX12_factor_157 rfl (lv_at hl 0 rfl) ?_
              refine hq_ldcS (k := 12) hx hb hown hE (List.mem_of_getElem? (i := 19) rfl) dX12_factor_158 ?_
              obtain ⟨g88, h⟩ := hq_g h
              obtain ⟨v90, S89, g87, h⟩ := hq_bd2 h
              refine hq_calli hI (va_runV (As := [.ref (ρ 12)]) (rest := []) ⟨hx, hb, hml, hown, hts⟩ (c_X12_among l D kA ρ HB S63 a0 (ρ 12) _ g87) (cwV 1 hts (gdIn (List.forall_mem_cons.mpr ⟨kw_1107, (List.forall_mem_cons.mpr ⟨kw_1109, (List.forall_mem_cons.mpr ⟨ks_45, (List.forall_mem_cons.mpr ⟨kw_6, (fun _ h => absurd h List.not_mem_nil)⟩)⟩)⟩)⟩) kw_1110) rfl rfl rfl ye_X12_among ⟨by show 4 + 1 ≤ fr + 60; omega, by show 8 + (3 + 11) + (85) ≤ lo + 1200; omega⟩) (hq_preC hE hI g88 rfl _) rfl rfl hl.1 rfl (lv_room (Nat.le_of_ble_eq_true rfl)) dX12_factor_160 ⟨Nat.le_of_ble_eq_true rfl, Nat.le_of_ble_eq_true rfl⟩) (fun H locs hI => ?_)
              exact hJ163 v90 S89 _ _ _ h hI (lv_sub hl [0, 1] rfl)
            · have h := hq_f h c86
              refine lv_iconst (v := 0) hx hb dX12_factor_153 (by decide) ?_
              refine lv_goto (tgt := 163) hx hb dX12_factor_154 (by decide) ?_
              exact hJ163 0 S63 _ _ _ h hI (lv_sub hl [0, 1] rfl)
          refine lv_icmp_ne (tgt := 142) hx hb dX12_factor_135 (by decide) (fun c91 => ?_) (fun c91 => ?_)
          · have h := hq_f h c91
            refine lv_iconst (v := 0) hx hb dX12_factor_142 (by decide) ?_
            exact hJ143 0 S59 _ _ _ h hI (lv_sub hl [1, 0] rfl)
          · have h := hq_t h c91
            refine lv_iconst (v := 1) hx hb dX12_factor_138 (by decide) ?_
            refine lv_goto (tgt := 143) hx hb dX12_factor_139 (by decide) ?_
            exact hJ143 1 S59 _ _ _ h hI (lv_sub hl [1, 0] rfl)
        refine lv_icmp_ge (tgt := 126) hx hb dX12_factor_118 (by decide) (fun c92 => ?_) (fun c92 => ?_)
        · have h := hq_t h c92
          refine hq_ldcS (k := 14) hx hb hown hE (List.mem_of_getElem? (i := 18) rfl) dX12_factor_126 ?_
          exact hJ128 (ρ 14) S6 _ _ _ h hI (lv_sub hl [1] rfl)
        · have h := hq_f h c92
          refine hq_ldcS (k := 1) hx hb hown hE (List.mem_of_getElem? (i := 17) rfl) dX12_factor_121 ?_
          refine lv_goto (tgt := 128) hx hb dX12_factor_123 (by decide) ?_
          exact hJ128 (ρ 1) S6 _ _ _ h hI (lv_sub hl [1] rfl)
      · have h := hq_t h c52
        exact hJ25 S6 _ _ _ h hI (lv_sub hl [1, 0] rfl)
  · have h := hq_f h c3
    exact hq_vret hx hb hr hlocks h0 hI h dX12_factor_7
/-- factor, to a depth -/
def fF_X12 (ρ : Nat → Nat) : Nat → HSt → Nat → Option (HSt)
  | 0 => fun _ _ => none
  | d + 1 => f_X12_factor_B (fF_X12 ρ d) ρ
theorem c_fF_X12 (l : Launch) (D : va_G) (kA ρ : Nat → Nat) (HB : Heap) : ∀ (d : Nat) (S : HSt) (a0 : Nat) (res : HSt), fF_X12 ρ d S a0 = some res → Met l yX12_factor w_X12_factor { frames := 60 * d, cells := 0, slots := 0, locals := 1200 * d } (hPc D kA ρ HB S [.ref a0]) (hQv D kA HB S res) 0 0 (hFree HB) := by
  intro d
  induction d with
  | zero =>
    intro S a0 res h
    cases h
  | succ d ih =>
    intro S a0 res h
    exact c_X12_factor_B l D kA ρ HB (fF_X12 ρ d) (60 * d) (1200 * d) ih S a0 res h
def f_X12_someR (ρ : Nat → Nat) (S : HSt) (a0 : Nat) : Option (HSt) := f_X12_some (fF_X12 ρ 12) S a0
theorem c_X12_someR (l : Launch) (D : va_G) (kA ρ : Nat → Nat) (HB : Heap) (S : HSt) (a0 : Nat) (res : HSt) (h : f_X12_someR ρ S a0 = some res) : Met l yX12_some w_X12_some { frames := 760, cells := 0, slots := 0, locals := 15200 } (hPc D kA ρ HB S [.ref a0]) (hQv D kA HB S res) 0 0 (hFree HB) :=
  c_X12_some l D kA ρ HB (fF_X12 ρ 12) 720 14400 (c_fF_X12 l D kA ρ HB 12) S a0 res h
