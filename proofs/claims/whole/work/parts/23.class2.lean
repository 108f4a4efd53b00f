/-! the class, second half: printed by wip/whole/gen.py -/
-- RodDips.hitsBySaying(III)I
theorem dX11_hitsBySaying_0 : decode cX11_hitsBySaying 0 = .ok (.iconst 0, 1) := by decide +kernel
theorem dX11_hitsBySaying_1 : decode cX11_hitsBySaying 1 = .ok (.istore 4, 2) := by decide +kernel
theorem dX11_hitsBySaying_3 : decode cX11_hitsBySaying 3 = .ok (.iconst 0, 1) := by decide +kernel
theorem dX11_hitsBySaying_4 : decode cX11_hitsBySaying 4 = .ok (.istore 5, 2) := by decide +kernel
theorem dX11_hitsBySaying_6 : decode cX11_hitsBySaying 6 = .ok (.iload 5, 2) := by decide +kernel
theorem dX11_hitsBySaying_8 : decode cX11_hitsBySaying 8 = .ok (.aload_n 0, 1) := by decide +kernel
theorem dX11_hitsBySaying_9 : decode cX11_hitsBySaying 9 = .ok (.getfield 21, 3) := by decide +kernel
theorem dX11_hitsBySaying_12 : decode cX11_hitsBySaying 12 = .ok (.if_icmp .ge 49, 3) := by decide +kernel
theorem dX11_hitsBySaying_15 : decode cX11_hitsBySaying 15 = .ok (.aload_n 0, 1) := by decide +kernel
theorem dX11_hitsBySaying_16 : decode cX11_hitsBySaying 16 = .ok (.iload 5, 2) := by decide +kernel
theorem dX11_hitsBySaying_18 : decode cX11_hitsBySaying 18 = .ok (.invokevirtual 130, 3) := by decide +kernel
theorem dX11_hitsBySaying_21 : decode cX11_hitsBySaying 21 = .ok (.astore 6, 2) := by decide +kernel
theorem dX11_hitsBySaying_23 : decode cX11_hitsBySaying 23 = .ok (.aload 6, 2) := by decide +kernel
theorem dX11_hitsBySaying_25 : decode cX11_hitsBySaying 25 = .ok (.ifnull 30, 3) := by decide +kernel
theorem dX11_hitsBySaying_28 : decode cX11_hitsBySaying 28 = .ok (.iload_n 1, 1) := by decide +kernel
theorem dX11_hitsBySaying_29 : decode cX11_hitsBySaying 29 = .ok (.iload 5, 2) := by decide +kernel
theorem dX11_hitsBySaying_31 : decode cX11_hitsBySaying 31 = .ok (.ishr, 1) := by decide +kernel
theorem dX11_hitsBySaying_32 : decode cX11_hitsBySaying 32 = .ok (.iconst 1, 1) := by decide +kernel
theorem dX11_hitsBySaying_33 : decode cX11_hitsBySaying 33 = .ok (.iand, 1) := by decide +kernel
theorem dX11_hitsBySaying_34 : decode cX11_hitsBySaying 34 = .ok (.iconst 1, 1) := by decide +kernel
theorem dX11_hitsBySaying_35 : decode cX11_hitsBySaying 35 = .ok (.if_icmp .ne 20, 3) := by decide +kernel
theorem dX11_hitsBySaying_38 : decode cX11_hitsBySaying 38 = .ok (.iload_n 3, 1) := by decide +kernel
theorem dX11_hitsBySaying_39 : decode cX11_hitsBySaying 39 = .ok (.aload 6, 2) := by decide +kernel
theorem dX11_hitsBySaying_41 : decode cX11_hitsBySaying 41 = .ok (.getfield 115, 3) := by decide +kernel
theorem dX11_hitsBySaying_44 : decode cX11_hitsBySaying 44 = .ok (.isub, 1) := by decide +kernel
theorem dX11_hitsBySaying_45 : decode cX11_hitsBySaying 45 = .ok (.invokestatic 121, 3) := by decide +kernel
theorem dX11_hitsBySaying_48 : decode cX11_hitsBySaying 48 = .ok (.iload_n 2, 1) := by decide +kernel
theorem dX11_hitsBySaying_49 : decode cX11_hitsBySaying 49 = .ok (.if_icmp .gt 6, 3) := by decide +kernel
theorem dX11_hitsBySaying_52 : decode cX11_hitsBySaying 52 = .ok (.iinc 4 1, 3) := by decide +kernel
theorem dX11_hitsBySaying_55 : decode cX11_hitsBySaying 55 = .ok (.iinc 5 1, 3) := by decide +kernel
theorem dX11_hitsBySaying_58 : decode cX11_hitsBySaying 58 = .ok (.goto (-52), 3) := by decide +kernel
theorem dX11_hitsBySaying_61 : decode cX11_hitsBySaying 61 = .ok (.iload 4, 2) := by decide +kernel
theorem dX11_hitsBySaying_63 : decode cX11_hitsBySaying 63 = .ok (.ireturn, 1) := by decide +kernel
def f_X11_hitsBySaying_K61 (x1 : Int32) (S2 : HSt) : Option (Int32 × HSt) := some (x1, S2)
def f_X11_hitsBySaying_B6 (a0 : Nat) (a1 : Int32) (a2 : Int32) (a3 : Int32) (kx61 : (Int32 → HSt → Option (Int32 × HSt))) (kb6 : (Int32 → Int32 → HSt → Option (Int32 × HSt))) (x3 : Int32) (x4 : Int32) (S5 : HSt) : Option (Int32 × HSt) := (gI S5 a0 11 2).bind fun v6 => if v6 ≤ x4 then (kx61 x3 S5) else (if gC S5 a0 = some 11 then (bd2 (f_X11_tryAt S5 a0 x4) fun b12 S11 => oC b12 (kb6 x3 (x4 + 1) S11) fun r13 => if ((a1 >>> (x4 &&& 31)) &&& 1) = 1 then ((gIT S11 r13 5).bind fun v15 => hqn ((if 0 ≤ (a3 - v15) then (a3 - v15) else 0 - (a3 - v15) : Int32)) fun (v17 : Int32) => if a2 < v17 then (kb6 x3 (x4 + 1) S11) else (kb6 (x3 + 1) (x4 + 1) S11)) else (kb6 x3 (x4 + 1) S11)) else none)
def f_X11_hitsBySaying_L6 (a0 : Nat) (a1 : Int32) (a2 : Int32) (a3 : Int32) (kx61 : (Int32 → HSt → Option (Int32 × HSt))) : Nat → Int32 → Int32 → HSt → Option (Int32 × HSt)
  | 0, _, _, _ => none
  | n + 1, x3, x4, S => f_X11_hitsBySaying_B6 a0 a1 a2 a3 kx61 (f_X11_hitsBySaying_L6 a0 a1 a2 a3 kx61 n) x3 x4 S
def f_X11_hitsBySaying (S : HSt) (a0 : Nat) (a1 : Int32) (a2 : Int32) (a3 : Int32) : Option (Int32 × HSt) := (f_X11_hitsBySaying_L6 a0 a1 a2 a3 f_X11_hitsBySaying_K61 FU) 0 0 S
abbrev rm_X11_hitsBySaying : Room := { frames := 1, cells := 0, slots := 0, locals := 21 }
abbrev w_X11_hitsBySaying : List Cond := Cond.code yX11_hitsBySaying cX11_hitsBySaying 7 (Option.some FieldType.int) :: lwG
theorem yd_X11_hitsBySaying : yX11_hitsBySaying.cls ≠ "java/lang/invoke/MethodHandle" ∧ yX11_hitsBySaying.cls ≠ "java/lang/invoke/VarHandle" ∧ (parseMethodDescriptor yX11_hitsBySaying.desc).map (fun d => d.parameters.length) = some 3 := by decide +kernel
theorem ye_X11_hitsBySaying : yX11_hitsBySaying.cls = RX11 ∧ yX11_hitsBySaying.cls ≠ "java/lang/invoke/MethodHandle" ∧ yX11_hitsBySaying.cls ≠ "java/lang/invoke/VarHandle" ∧ (parseMethodDescriptor yX11_hitsBySaying.desc).map (fun d => d.parameters.length) = some 3 := by decide +kernel
set_option maxHeartbeats 4000000 in
set_option maxRecDepth 100000 in
theorem c_X11_hitsBySaying (l : Launch) (D : va_G) (kA ρ : Nat → Nat) (HB : Heap) (S : HSt) (a0 : Nat) (a1 : Int32) (a2 : Int32) (a3 : Int32) (res : Int32 × HSt) (h : f_X11_hitsBySaying S a0 a1 a2 a3 = some res) : Met l yX11_hitsBySaying w_X11_hitsBySaying rm_X11_hitsBySaying (hPc D kA ρ HB S [.ref a0, .int a1, .int a2, .int a3]) (hQi D kA HB S res) 0 0 (hFree HB) := by
  refine Met.ofW (cc := cX11_hitsBySaying) (maxL := 7) (ret := (Option.some FieldType.int)) (by decide) rfl ?_
  intro p e s m args below meth c s₁ B hml hv
  obtain ⟨rfl, hE, h0⟩ := hv
  have hx := B.exec
  have hb := B.bytes
  have hr := B.returns
  have hts0 := atoms_spec (ws := w_X11_hitsBySaying) B.pre
  have hts : ∀ w ∈ lwG, w.before _ s = true := fun w hw => hts0 w (List.mem_cons_of_mem _ hw)
  have hown : s.vm.findClass RX11 = some m.cls := findClass_of_methodNamed B.named
  have hlocks := B.notSynchronized
  have hI : hqX D kA HB S.2 S s.heap [] := ⟨h0, Nat.le_refl _, fun _ q => absurd q List.not_mem_nil⟩
  have hl := lv_entry ([.ref a0, .int a1, .int a2, .int a3]) (n := 7) (Nat.le_of_ble_eq_true rfl)
  rw [lg_entry_eq]
  generalize (lg_sl ([.ref a0, .int a1, .int a2, .int a3]) ++ List.replicate (7 - (lg_sl ([.ref a0, .int a1, .int a2, .int a3])).length) Slot.unset).toArray = ls at hl ⊢
  have hl : lv_has ls 7 [(0, .ref a0), (1, .int a1), (2, .int a2), (3, .int a3)] := hl
  unfold f_X11_hitsBySaying at h
  refine lv_iconst (v := 0) hx hb dX11_hitsBySaying_0 (by decide) ?_
  refine lv_istore (lv' := [(4, .int 0), (0, .ref a0), (1, .int a1), (2, .int a2), (3, .int a3)]) hx hb dX11_hitsBySaying_1 hl (by decide) rfl (fun ls hl => ?_)
  refine lv_iconst (v := 0) hx hb dX11_hitsBySaying_3 (by decide) ?_
  refine lv_istore (lv' := [(5, .int 0), (4, .int 0), (0, .ref a0), (1, .int a1), (2, .int a2), (3, .int a3)]) hx hb dX11_hitsBySaying_4 hl (by decide) rfl (fun ls hl => ?_)
  have hK61 : ∀ (x1 : Int32) (S2 : HSt) (H : Heap) (locs : List Loc) (ls : Array Slot), f_X11_hitsBySaying_K61 x1 S2 = some res → hqX D kA HB S.2 S2 H locs → lv_has ls 7 [(4, .int x1)] → W p l e rm_X11_hitsBySaying s m ([.ref a0, .int a1, .int a2, .int a3] : List Value).toArray below meth c H locs 0 0 (MQ below (hQi D kA HB S res) ([.ref a0, .int a1, .int a2, .int a3] : List Value).toArray s 0 0 (hFree HB)) (F0 m 61 ls []) := by
    intro x1 S2 H locs ls h hI hl
    unfold f_X11_hitsBySaying_K61 at h
    refine lv_iload hx hb dX11_hitsBySaying_61 (lv_at hl 0 rfl) ?_
    exact hq_iret hx hb hr hlocks h0 hI h dX11_hitsBySaying_63
  have hL6 : ∀ (n6 : Nat) (x3 : Int32) (x4 : Int32) (S5 : HSt) (H : Heap) (locs : List Loc) (ls : Array Slot), (f_X11_hitsBySaying_L6 a0 a1 a2 a3 f_X11_hitsBySaying_K61 n6) x3 x4 S5 = some res → hqX D kA HB S.2 S5 H locs → lv_has ls 7 [(0, .ref a0), (1, .int a1), (2, .int a2), (3, .int a3), (4, .int x3), (5, .int x4)] → W p l e rm_X11_hitsBySaying s m ([.ref a0, .int a1, .int a2, .int a3] : List Value).toArray below meth c H locs 0 0 (MQ below (hQi D kA HB S res) ([.ref a0, .int a1, .int a2, .int a3] : List Value).toArray s 0 0 (hFree HB)) (F0 m 6 ls []) := by
    intro n6
    induction n6 with
    | zero =>
      intro x3 x4 S5 H locs ls h
      have h : (none : Option (Int32 × HSt)) = some res := h
      cases h
    | succ n6 ih6 =>
      intro x3 x4 S5 H locs ls h hI hl
      have h : f_X11_hitsBySaying_B6 a0 a1 a2 a3 f_X11_hitsBySaying_K61 (f_X11_hitsBySaying_L6 a0 a1 a2 a3 f_X11_hitsBySaying_K61 n6) x3 x4 S5 = some res := h
      unfold f_X11_hitsBySaying_B6 at h
      refine lv_iload hx hb dX11_hitsBySaying_6 (lv_at hl 5 rfl) ?_
      refine lv_aload_n hx hb dX11_hitsBySaying_8 rfl (lv_at hl 0 rfl) ?_
      obtain ⟨v6, g7, h⟩ := hq_bind h
      obtain ⟨fs_g7, hs_g7, hv_g7⟩ := gI_at g7
      refine hq_get hx hb hts hown hE hI hs_g7 inG11 rfl 2 (by decide) kw_134 hv_g7 dX11_hitsBySaying_9 ?_
      refine lv_icmp_ge (tgt := 61) hx hb dX11_hitsBySaying_12 (by decide) (fun c8 => ?_) (fun c8 => ?_)
      · have h := hq_t h c8
        exact hK61 x3 S5 _ _ _ h hI (lv_sub hl [4] rfl)
      · have h := hq_f h c8
        refine lv_aload_n hx hb dX11_hitsBySaying_15 rfl (lv_at hl 0 rfl) ?_
        refine lv_iload hx hb dX11_hitsBySaying_16 (lv_at hl 5 rfl) ?_
        obtain ⟨g10, h⟩ := hq_g h
        obtain ⟨b12, S11, g9, h⟩ := hq_bd2 h
        refine hq_callq hI (va_runV (As := [.int x4]) (rest := []) ⟨hx, hb, hml, hown, hts⟩ (c_X11_tryAt l D kA ρ HB S5 a0 x4 _ g9) (cwV 1 hts (gdIn (List.forall_mem_cons.mpr ⟨kw_354, (List.forall_mem_cons.mpr ⟨kw_356, (List.forall_mem_cons.mpr ⟨ks_2, (List.forall_mem_cons.mpr ⟨kw_1, (fun _ h => absurd h List.not_mem_nil)⟩)⟩)⟩)⟩) kw_357) rfl rfl rfl ye_X11_tryAt ⟨Nat.le_of_ble_eq_true rfl, Nat.le_of_ble_eq_true rfl⟩) (hq_preC hE hI g10 rfl _) rfl rfl hl.1 rfl (lv_room (Nat.le_of_ble_eq_true rfl)) dX11_hitsBySaying_18 ⟨Nat.le_of_ble_eq_true rfl, Nat.le_of_ble_eq_true rfl⟩) (fun H locs hI => ?_)
        rcases b12 with _ | r13
        · have h := oC_n h
          refine lv_astoreN (lv' := [(6, .null), (0, .ref a0), (1, .int a1), (2, .int a2), (3, .int a3), (4, .int x3), (5, .int x4)]) hx hb dX11_hitsBySaying_21 hl (by decide) rfl (fun ls hl => ?_)
          refine lv_aloadN hx hb dX11_hitsBySaying_23 (lv_at hl 0 rfl) ?_
          refine lv_ifnullN (tgt := 55) hx hb dX11_hitsBySaying_25 (by decide) ?_
          refine lv_iinc (v := (x4 + 1)) (lv' := [(5, .int (x4 + 1)), (6, .null), (0, .ref a0), (1, .int a1), (2, .int a2), (3, .int a3), (4, .int x3)]) hx hb dX11_hitsBySaying_55 hl (k := 6) rfl rfl (by decide) rfl (fun ls hl => ?_)
          refine lv_goto (tgt := 6) hx hb dX11_hitsBySaying_58 (by decide) ?_
          exact ih6 x3 (x4 + 1) S11 _ _ _ h hI (lv_sub hl [2, 3, 4, 5, 6, 0] rfl)
        · have h := oC_s h
          refine lv_astore (lv' := [(6, .ref r13), (0, .ref a0), (1, .int a1), (2, .int a2), (3, .int a3), (4, .int x3), (5, .int x4)]) hx hb dX11_hitsBySaying_21 hl (by decide) rfl (fun ls hl => ?_)
          refine lv_aload hx hb dX11_hitsBySaying_23 (lv_at hl 0 rfl) ?_
          refine lv_ifnull hx hb dX11_hitsBySaying_25 ?_
          refine lv_iload_n hx hb dX11_hitsBySaying_28 rfl (lv_at hl 2 rfl) ?_
          refine lv_iload hx hb dX11_hitsBySaying_29 (lv_at hl 6 rfl) ?_
          refine lv_ishr hx hb dX11_hitsBySaying_31 ?_
          refine lv_iconst (v := 1) hx hb dX11_hitsBySaying_32 (by decide) ?_
          refine lv_iand hx hb dX11_hitsBySaying_33 ?_
          refine lv_iconst (v := 1) hx hb dX11_hitsBySaying_34 (by decide) ?_
          refine lv_icmp_ne (tgt := 55) hx hb dX11_hitsBySaying_35 (by decide) (fun c14 => ?_) (fun c14 => ?_)
          · have h := hq_f h c14
            refine lv_iinc (v := (x4 + 1)) (lv' := [(5, .int (x4 + 1)), (6, .ref r13), (0, .ref a0), (1, .int a1), (2, .int a2), (3, .int a3), (4, .int x3)]) hx hb dX11_hitsBySaying_55 hl (k := 6) rfl rfl (by decide) rfl (fun ls hl => ?_)
            refine lv_goto (tgt := 6) hx hb dX11_hitsBySaying_58 (by decide) ?_
            exact ih6 x3 (x4 + 1) S11 _ _ _ h hI (lv_sub hl [2, 3, 4, 5, 6, 0] rfl)
          · have h := hq_t h c14
            refine lv_iload_n hx hb dX11_hitsBySaying_38 rfl (lv_at hl 4 rfl) ?_
            refine lv_aload hx hb dX11_hitsBySaying_39 (lv_at hl 0 rfl) ?_
            obtain ⟨v15, g16, h⟩ := hq_bind h
            obtain ⟨c_g16, fs_g16, hk_g16, hs_g16, hv_g16⟩ := gIT_at g16
            obtain ⟨C_g16, hc_g16, hi_g16⟩ := hKin_at hk_g16
            refine hq_getN hx hb hts hown hE hI hs_g16 hi_g16 hc_g16 5 (by decide) kn_227 hv_g16 dX11_hitsBySaying_41 ?_
            refine lv_isub hx hb dX11_hitsBySaying_44 ?_
            refine va_mabs hx hb (hml.trans hl.1.symm) hown (hts _ kw_347) (hts _ kw_348) (hts _ kw_14) (hts _ kw_349) (Nat.le_of_ble_eq_true rfl) (Nat.le_of_ble_eq_true rfl) (Nat.le_of_ble_eq_true rfl) (Nat.le_of_ble_eq_true rfl) dX11_hitsBySaying_45 ?_
            refine lv_topi (fun v17 e_v17 => ?_)
            have h := hq_nm h e_v17
            refine lv_iload_n hx hb dX11_hitsBySaying_48 rfl (lv_at hl 3 rfl) ?_
            refine lv_icmp_gt (tgt := 55) hx hb dX11_hitsBySaying_49 (by decide) (fun c18 => ?_) (fun c18 => ?_)
            · have h := hq_t h c18
              refine lv_iinc (v := (x4 + 1)) (lv' := [(5, .int (x4 + 1)), (6, .ref r13), (0, .ref a0), (1, .int a1), (2, .int a2), (3, .int a3), (4, .int x3)]) hx hb dX11_hitsBySaying_55 hl (k := 6) rfl rfl (by decide) rfl (fun ls hl => ?_)
              refine lv_goto (tgt := 6) hx hb dX11_hitsBySaying_58 (by decide) ?_
              exact ih6 x3 (x4 + 1) S11 _ _ _ h hI (lv_sub hl [2, 3, 4, 5, 6, 0] rfl)
            · have h := hq_f h c18
              refine lv_iinc (v := (x3 + 1)) (lv' := [(4, .int (x3 + 1)), (6, .ref r13), (0, .ref a0), (1, .int a1), (2, .int a2), (3, .int a3), (5, .int x4)]) hx hb dX11_hitsBySaying_52 hl (k := 5) rfl rfl (by decide) rfl (fun ls hl => ?_)
              refine lv_iinc (v := (x4 + 1)) (lv' := [(5, .int (x4 + 1)), (4, .int (x3 + 1)), (6, .ref r13), (0, .ref a0), (1, .int a1), (2, .int a2), (3, .int a3)]) hx hb dX11_hitsBySaying_55 hl (k := 6) rfl rfl (by decide) rfl (fun ls hl => ?_)
              refine lv_goto (tgt := 6) hx hb dX11_hitsBySaying_58 (by decide) ?_
              exact ih6 (x3 + 1) (x4 + 1) S11 _ _ _ h hI (lv_sub hl [3, 4, 5, 6, 1, 0] rfl)
  exact hL6 FU 0 0 S _ _ _ h hI (lv_sub hl [2, 3, 4, 5, 1, 0] rfl)
-- RodDips.waysAsGood(II)J
theorem dX11_waysAsGood_0 : decode cX11_waysAsGood 0 = .ok (.aload_n 0, 1) := by decide +kernel
theorem dX11_waysAsGood_1 : decode cX11_waysAsGood 1 = .ok (.iload_n 1, 1) := by decide +kernel
theorem dX11_waysAsGood_2 : decode cX11_waysAsGood 2 = .ok (.iload_n 2, 1) := by decide +kernel
theorem dX11_waysAsGood_3 : decode cX11_waysAsGood 3 = .ok (.invokevirtual 190, 3) := by decide +kernel
theorem dX11_waysAsGood_6 : decode cX11_waysAsGood 6 = .ok (.aload_n 0, 1) := by decide +kernel
theorem dX11_waysAsGood_7 : decode cX11_waysAsGood 7 = .ok (.getfield 49, 3) := by decide +kernel
theorem dX11_waysAsGood_10 : decode cX11_waysAsGood 10 = .ok (.iload_n 1, 1) := by decide +kernel
theorem dX11_waysAsGood_11 : decode cX11_waysAsGood 11 = .ok (.aload_n 0, 1) := by decide +kernel
theorem dX11_waysAsGood_12 : decode cX11_waysAsGood 12 = .ok (.iload_n 2, 1) := by decide +kernel
theorem dX11_waysAsGood_13 : decode cX11_waysAsGood 13 = .ok (.invokevirtual 320, 3) := by decide +kernel
theorem dX11_waysAsGood_16 : decode cX11_waysAsGood 16 = .ok (.iand, 1) := by decide +kernel
theorem dX11_waysAsGood_17 : decode cX11_waysAsGood 17 = .ok (.invokestatic 185, 3) := by decide +kernel
theorem dX11_waysAsGood_20 : decode cX11_waysAsGood 20 = .ok (.invokevirtual 194, 3) := by decide +kernel
theorem dX11_waysAsGood_23 : decode cX11_waysAsGood 23 = .ok (.lreturn, 1) := by decide +kernel
def f_X11_waysAsGood (S : HSt) (a0 : Nat) (a1 : Int32) (a2 : Int32) : Option (Int64 × HSt) := if gC S a0 = some 11 then ((f_X11_setOdds S a0 a1 a2).bind fun S3 => (gR S3 a0 11 8).bind fun b4 => if gC S3 a0 = some 11 then (bd2 (f_X11_bitsNoFartherThan S3 a0 a2) fun v9 S8 => bd2 (f_J6_bitCount_0f7a4 S8 (a1 &&& v9)) fun v12 S11 => if gC S11 b4 = some 4 then (bd2 (f_X4_orMore S11 b4 v12) fun v16 S15 => some (v16, S15)) else none) else none) else none
abbrev rm_X11_waysAsGood : Room := { frames := 3, cells := 0, slots := 0, locals := 68 }
abbrev w_X11_waysAsGood : List Cond := Cond.code yX11_waysAsGood cX11_waysAsGood 3 (Option.some FieldType.long) :: lwG
theorem yd_X11_waysAsGood : yX11_waysAsGood.cls ≠ "java/lang/invoke/MethodHandle" ∧ yX11_waysAsGood.cls ≠ "java/lang/invoke/VarHandle" ∧ (parseMethodDescriptor yX11_waysAsGood.desc).map (fun d => d.parameters.length) = some 2 := by decide +kernel
theorem ye_X11_waysAsGood : yX11_waysAsGood.cls = RX11 ∧ yX11_waysAsGood.cls ≠ "java/lang/invoke/MethodHandle" ∧ yX11_waysAsGood.cls ≠ "java/lang/invoke/VarHandle" ∧ (parseMethodDescriptor yX11_waysAsGood.desc).map (fun d => d.parameters.length) = some 2 := by decide +kernel
set_option maxHeartbeats 4000000 in
set_option maxRecDepth 100000 in
theorem c_X11_waysAsGood (l : Launch) (D : va_G) (kA ρ : Nat → Nat) (HB : Heap) (S : HSt) (a0 : Nat) (a1 : Int32) (a2 : Int32) (res : Int64 × HSt) (h : f_X11_waysAsGood S a0 a1 a2 = some res) : Met l yX11_waysAsGood w_X11_waysAsGood rm_X11_waysAsGood (hPc D kA ρ HB S [.ref a0, .int a1, .int a2]) (hQl D kA HB S res) 0 0 (hFree HB) := by
  refine Met.ofW (cc := cX11_waysAsGood) (maxL := 3) (ret := (Option.some FieldType.long)) (by decide) rfl ?_
  intro p e s m args below meth c s₁ B hml hv
  obtain ⟨rfl, hE, h0⟩ := hv
  have hx := B.exec
  have hb := B.bytes
  have hr := B.returns
  have hts0 := atoms_spec (ws := w_X11_waysAsGood) B.pre
  have hts : ∀ w ∈ lwG, w.before _ s = true := fun w hw => hts0 w (List.mem_cons_of_mem _ hw)
  have hown : s.vm.findClass RX11 = some m.cls := findClass_of_methodNamed B.named
  have hlocks := B.notSynchronized
  have hI : hqX D kA HB S.2 S s.heap [] := ⟨h0, Nat.le_refl _, fun _ q => absurd q List.not_mem_nil⟩
  have hl := lv_entry ([.ref a0, .int a1, .int a2]) (n := 3) (Nat.le_of_ble_eq_true rfl)
  rw [lg_entry_eq]
  generalize (lg_sl ([.ref a0, .int a1, .int a2]) ++ List.replicate (3 - (lg_sl ([.ref a0, .int a1, .int a2])).length) Slot.unset).toArray = ls at hl ⊢
  have hl : lv_has ls 3 [(0, .ref a0), (1, .int a1), (2, .int a2)] := hl
  unfold f_X11_waysAsGood at h
  refine lv_aload_n hx hb dX11_waysAsGood_0 rfl (lv_at hl 0 rfl) ?_
  refine lv_iload_n hx hb dX11_waysAsGood_1 rfl (lv_at hl 1 rfl) ?_
  refine lv_iload_n hx hb dX11_waysAsGood_2 rfl (lv_at hl 2 rfl) ?_
  obtain ⟨g2, h⟩ := hq_g h
  obtain ⟨S3, g1, h⟩ := hq_bind h
  refine hq_callv hI (va_runV (As := [.int a1, .int a2]) (rest := []) ⟨hx, hb, hml, hown, hts⟩ (c_X11_setOdds l D kA ρ HB S a0 a1 a2 _ g1) (cwV 2 hts (gdIn (List.forall_mem_cons.mpr ⟨kw_644, (List.forall_mem_cons.mpr ⟨kw_646, (List.forall_mem_cons.mpr ⟨ks_19, (List.forall_mem_cons.mpr ⟨kw_1, (fun _ h => absurd h List.not_mem_nil)⟩)⟩)⟩)⟩) kw_647) rfl rfl rfl ye_X11_setOdds ⟨Nat.le_of_ble_eq_true rfl, Nat.le_of_ble_eq_true rfl⟩) (hq_preC hE hI g2 rfl _) rfl rfl hl.1 rfl (lv_room (Nat.le_of_ble_eq_true rfl)) dX11_waysAsGood_3 ⟨Nat.le_of_ble_eq_true rfl, Nat.le_of_ble_eq_true rfl⟩) (fun H locs hI => ?_)
  refine lv_aload_n hx hb dX11_waysAsGood_6 rfl (lv_at hl 0 rfl) ?_
  obtain ⟨b4, g5, h⟩ := hq_bind h
  obtain ⟨fs_g5, hs_g5, hv_g5⟩ := gR_at g5
  refine hq_get hx hb hts hown hE hI hs_g5 inG11 rfl 8 (by decide) kw_140 hv_g5 dX11_waysAsGood_7 ?_
  refine lv_iload_n hx hb dX11_waysAsGood_10 rfl (lv_at hl 1 rfl) ?_
  refine lv_aload_n hx hb dX11_waysAsGood_11 rfl (lv_at hl 0 rfl) ?_
  refine lv_iload_n hx hb dX11_waysAsGood_12 rfl (lv_at hl 2 rfl) ?_
  obtain ⟨g7, h⟩ := hq_g h
  obtain ⟨v9, S8, g6, h⟩ := hq_bd2 h
  refine hq_calli hI (va_runV (As := [.int a2]) (rest := [.int a1, .ref b4]) ⟨hx, hb, hml, hown, hts⟩ (c_X11_bitsNoFartherThan l D kA ρ HB S3 a0 a2 _ g6) (cwV 1 hts (gdIn (List.forall_mem_cons.mpr ⟨kw_591, (List.forall_mem_cons.mpr ⟨kw_593, (List.forall_mem_cons.mpr ⟨ks_14, (List.forall_mem_cons.mpr ⟨kw_1, (fun _ h => absurd h List.not_mem_nil)⟩)⟩)⟩)⟩) kw_594) rfl rfl rfl ye_X11_bitsNoFartherThan ⟨Nat.le_of_ble_eq_true rfl, Nat.le_of_ble_eq_true rfl⟩) (hq_preC hE hI g7 rfl _) rfl rfl hl.1 rfl (lv_room (Nat.le_of_ble_eq_true rfl)) dX11_waysAsGood_13 ⟨Nat.le_of_ble_eq_true rfl, Nat.le_of_ble_eq_true rfl⟩) (fun H locs hI => ?_)
  refine lv_iand hx hb dX11_waysAsGood_16 ?_
  obtain ⟨v12, S11, g10, h⟩ := hq_bd2 h
  refine hq_calli hI (va_runS (As := [.int (a1 &&& v9)]) (rest := [.ref b4]) ⟨hx, hb, hml, hown, hts⟩ (c_J6_bitCount_0f7a4 l D kA ρ HB S8 (a1 &&& v9) _ g10) (va_cwS 1 hts (gdIn (List.forall_mem_cons.mpr ⟨kw_607, (List.forall_mem_cons.mpr ⟨kw_608, (List.forall_mem_cons.mpr ⟨kw_20, (fun _ h => absurd h List.not_mem_nil)⟩)⟩)⟩) kw_609) rfl rfl rfl yd_J6_bitCount_0f7a4 ⟨Nat.le_of_ble_eq_true rfl, Nat.le_of_ble_eq_true rfl⟩) (hq_preS hE hI _) rfl rfl hl.1 rfl (lv_room (Nat.le_of_ble_eq_true rfl)) dX11_waysAsGood_17 ⟨Nat.le_of_ble_eq_true rfl, Nat.le_of_ble_eq_true rfl⟩) (fun H locs hI => ?_)
  obtain ⟨g14, h⟩ := hq_g h
  obtain ⟨v16, S15, g13, h⟩ := hq_bd2 h
  refine hq_calll hI (va_runV (As := [.int v12]) (rest := []) ⟨hx, hb, hml, hown, hts⟩ (c_X4_orMore l D kA ρ HB S11 b4 v12 _ g13) (cwV 1 hts (gdIn (List.forall_mem_cons.mpr ⟨kw_659, (List.forall_mem_cons.mpr ⟨kw_660, (List.forall_mem_cons.mpr ⟨kw_661, (List.forall_mem_cons.mpr ⟨kw_3, (fun _ h => absurd h List.not_mem_nil)⟩)⟩)⟩)⟩) kw_662) rfl rfl rfl ye_X4_orMore ⟨Nat.le_of_ble_eq_true rfl, Nat.le_of_ble_eq_true rfl⟩) (hq_preC hE hI g14 rfl _) rfl rfl hl.1 rfl (lv_room (Nat.le_of_ble_eq_true rfl)) dX11_waysAsGood_20 ⟨Nat.le_of_ble_eq_true rfl, Nat.le_of_ble_eq_true rfl⟩) (fun H locs hI => ?_)
  exact hq_lret hx hb hr hlocks h0 hI h dX11_waysAsGood_23
-- RodDips.leastLeftOut(III)I
theorem dX11_leastLeftOut_0 : decode cX11_leastLeftOut 0 = .ok (.iconst 0, 1) := by decide +kernel
theorem dX11_leastLeftOut_1 : decode cX11_leastLeftOut 1 = .ok (.istore_n 3, 1) := by decide +kernel
theorem dX11_leastLeftOut_2 : decode cX11_leastLeftOut 2 = .ok (.iload_n 3, 1) := by decide +kernel
theorem dX11_leastLeftOut_3 : decode cX11_leastLeftOut 3 = .ok (.iload_n 0, 1) := by decide +kernel
theorem dX11_leastLeftOut_4 : decode cX11_leastLeftOut 4 = .ok (.if_icmp .ge 32, 3) := by decide +kernel
theorem dX11_leastLeftOut_7 : decode cX11_leastLeftOut 7 = .ok (.iload_n 0, 1) := by decide +kernel
theorem dX11_leastLeftOut_8 : decode cX11_leastLeftOut 8 = .ok (.iload_n 3, 1) := by decide +kernel
theorem dX11_leastLeftOut_9 : decode cX11_leastLeftOut 9 = .ok (.isub, 1) := by decide +kernel
theorem dX11_leastLeftOut_10 : decode cX11_leastLeftOut 10 = .ok (.istore 4, 2) := by decide +kernel
theorem dX11_leastLeftOut_12 : decode cX11_leastLeftOut 12 = .ok (.iload_n 1, 1) := by decide +kernel
theorem dX11_leastLeftOut_13 : decode cX11_leastLeftOut 13 = .ok (.iload 4, 2) := by decide +kernel
theorem dX11_leastLeftOut_15 : decode cX11_leastLeftOut 15 = .ok (.invokestatic 324, 3) := by decide +kernel
theorem dX11_leastLeftOut_18 : decode cX11_leastLeftOut 18 = .ok (.bipush 100, 2) := by decide +kernel
theorem dX11_leastLeftOut_20 : decode cX11_leastLeftOut 20 = .ok (.imul, 1) := by decide +kernel
theorem dX11_leastLeftOut_21 : decode cX11_leastLeftOut 21 = .ok (.iload_n 2, 1) := by decide +kernel
theorem dX11_leastLeftOut_22 : decode cX11_leastLeftOut 22 = .ok (.iload 4, 2) := by decide +kernel
theorem dX11_leastLeftOut_24 : decode cX11_leastLeftOut 24 = .ok (.imul, 1) := by decide +kernel
theorem dX11_leastLeftOut_25 : decode cX11_leastLeftOut 25 = .ok (.if_icmp .lt 5, 3) := by decide +kernel
theorem dX11_leastLeftOut_28 : decode cX11_leastLeftOut 28 = .ok (.iload_n 3, 1) := by decide +kernel
theorem dX11_leastLeftOut_29 : decode cX11_leastLeftOut 29 = .ok (.ireturn, 1) := by decide +kernel
theorem dX11_leastLeftOut_30 : decode cX11_leastLeftOut 30 = .ok (.iinc 3 1, 3) := by decide +kernel
theorem dX11_leastLeftOut_33 : decode cX11_leastLeftOut 33 = .ok (.goto (-31), 3) := by decide +kernel
theorem dX11_leastLeftOut_36 : decode cX11_leastLeftOut 36 = .ok (.bipush (-5), 2) := by decide +kernel
theorem dX11_leastLeftOut_38 : decode cX11_leastLeftOut 38 = .ok (.ireturn, 1) := by decide +kernel
def f_X11_leastLeftOut_K36 (S1 : HSt) : Option (Int32 × HSt) := some ((-5), S1)
def f_X11_leastLeftOut_B2 (a0 : Int32) (a1 : Int32) (a2 : Int32) (kx36 : (HSt → Option (Int32 × HSt))) (kb2 : (Int32 → HSt → Option (Int32 × HSt))) (x2 : Int32) (S3 : HSt) : Option (Int32 × HSt) := if a0 ≤ x2 then (kx36 S3) else (hqn ((if (a0 - x2) < a1 then (a0 - x2) else a1 : Int32)) fun (v5 : Int32) => if (v5 * 100) < (a2 * (a0 - x2)) then (kb2 (x2 + 1) S3) else (some (x2, S3)))
def f_X11_leastLeftOut_L2 (a0 : Int32) (a1 : Int32) (a2 : Int32) (kx36 : (HSt → Option (Int32 × HSt))) : Nat → Int32 → HSt → Option (Int32 × HSt)
  | 0, _, _ => none
  | n + 1, x2, S => f_X11_leastLeftOut_B2 a0 a1 a2 kx36 (f_X11_leastLeftOut_L2 a0 a1 a2 kx36 n) x2 S
def f_X11_leastLeftOut (S : HSt) (a0 : Int32) (a1 : Int32) (a2 : Int32) : Option (Int32 × HSt) := (f_X11_leastLeftOut_L2 a0 a1 a2 f_X11_leastLeftOut_K36 FU) 0 S
abbrev rm_X11_leastLeftOut : Room := { frames := 1, cells := 0, slots := 0, locals := 21 }
abbrev w_X11_leastLeftOut : List Cond := Cond.code yX11_leastLeftOut cX11_leastLeftOut 5 (Option.some FieldType.int) :: lwG
theorem yd_X11_leastLeftOut : yX11_leastLeftOut.cls ≠ "java/lang/invoke/MethodHandle" ∧ yX11_leastLeftOut.cls ≠ "java/lang/invoke/VarHandle" ∧ (parseMethodDescriptor yX11_leastLeftOut.desc).map (fun d => d.parameters.length) = some 3 := by decide +kernel
set_option maxHeartbeats 4000000 in
set_option maxRecDepth 100000 in
theorem c_X11_leastLeftOut (l : Launch) (D : va_G) (kA ρ : Nat → Nat) (HB : Heap) (S : HSt) (a0 : Int32) (a1 : Int32) (a2 : Int32) (res : Int32 × HSt) (h : f_X11_leastLeftOut S a0 a1 a2 = some res) : Met l yX11_leastLeftOut w_X11_leastLeftOut rm_X11_leastLeftOut (hPc D kA ρ HB S [.int a0, .int a1, .int a2]) (hQi D kA HB S res) 0 0 (hFree HB) := by
  refine Met.ofW (cc := cX11_leastLeftOut) (maxL := 5) (ret := (Option.some FieldType.int)) (by decide) rfl ?_
  intro p e s m args below meth c s₁ B hml hv
  obtain ⟨rfl, hE, h0⟩ := hv
  have hx := B.exec
  have hb := B.bytes
  have hr := B.returns
  have hts0 := atoms_spec (ws := w_X11_leastLeftOut) B.pre
  have hts : ∀ w ∈ lwG, w.before _ s = true := fun w hw => hts0 w (List.mem_cons_of_mem _ hw)
  have hown : s.vm.findClass RX11 = some m.cls := findClass_of_methodNamed B.named
  have hlocks := B.notSynchronized
  have hI : hqX D kA HB S.2 S s.heap [] := ⟨h0, Nat.le_refl _, fun _ q => absurd q List.not_mem_nil⟩
  have hl := lv_entry ([.int a0, .int a1, .int a2]) (n := 5) (Nat.le_of_ble_eq_true rfl)
  rw [lg_entry_eq]
  generalize (lg_sl ([.int a0, .int a1, .int a2]) ++ List.replicate (5 - (lg_sl ([.int a0, .int a1, .int a2])).length) Slot.unset).toArray = ls at hl ⊢
  have hl : lv_has ls 5 [(0, .int a0), (1, .int a1), (2, .int a2)] := hl
  unfold f_X11_leastLeftOut at h
  refine lv_iconst (v := 0) hx hb dX11_leastLeftOut_0 (by decide) ?_
  refine lv_istore_n (lv' := [(3, .int 0), (0, .int a0), (1, .int a1), (2, .int a2)]) hx hb dX11_leastLeftOut_1 rfl hl (by decide) rfl (fun ls hl => ?_)
  have hK36 : ∀ (S1 : HSt) (H : Heap) (locs : List Loc) (ls : Array Slot), f_X11_leastLeftOut_K36 S1 = some res → hqX D kA HB S.2 S1 H locs → lv_has ls 5 [] → W p l e rm_X11_leastLeftOut s m ([.int a0, .int a1, .int a2] : List Value).toArray below meth c H locs 0 0 (MQ below (hQi D kA HB S res) ([.int a0, .int a1, .int a2] : List Value).toArray s 0 0 (hFree HB)) (F0 m 36 ls []) := by
    intro S1 H locs ls h hI hl
    unfold f_X11_leastLeftOut_K36 at h
    refine lv_bipush (v := (-5)) hx hb dX11_leastLeftOut_36 (by decide) ?_
    exact hq_iret hx hb hr hlocks h0 hI h dX11_leastLeftOut_38
  have hL2 : ∀ (n2 : Nat) (x2 : Int32) (S3 : HSt) (H : Heap) (locs : List Loc) (ls : Array Slot), (f_X11_leastLeftOut_L2 a0 a1 a2 f_X11_leastLeftOut_K36 n2) x2 S3 = some res → hqX D kA HB S.2 S3 H locs → lv_has ls 5 [(0, .int a0), (1, .int a1), (2, .int a2), (3, .int x2)] → W p l e rm_X11_leastLeftOut s m ([.int a0, .int a1, .int a2] : List Value).toArray below meth c H locs 0 0 (MQ below (hQi D kA HB S res) ([.int a0, .int a1, .int a2] : List Value).toArray s 0 0 (hFree HB)) (F0 m 2 ls []) := by
    intro n2
    induction n2 with
    | zero =>
      intro x2 S3 H locs ls h
      have h : (none : Option (Int32 × HSt)) = some res := h
      cases h
    | succ n2 ih2 =>
      intro x2 S3 H locs ls h hI hl
      have h : f_X11_leastLeftOut_B2 a0 a1 a2 f_X11_leastLeftOut_K36 (f_X11_leastLeftOut_L2 a0 a1 a2 f_X11_leastLeftOut_K36 n2) x2 S3 = some res := h
      unfold f_X11_leastLeftOut_B2 at h
      refine lv_iload_n hx hb dX11_leastLeftOut_2 rfl (lv_at hl 3 rfl) ?_
      refine lv_iload_n hx hb dX11_leastLeftOut_3 rfl (lv_at hl 0 rfl) ?_
      refine lv_icmp_ge (tgt := 36) hx hb dX11_leastLeftOut_4 (by decide) (fun c4 => ?_) (fun c4 => ?_)
      · have h := hq_t h c4
        exact hK36 S3 _ _ _ h hI (lv_sub hl [] rfl)
      · have h := hq_f h c4
        refine lv_iload_n hx hb dX11_leastLeftOut_7 rfl (lv_at hl 0 rfl) ?_
        refine lv_iload_n hx hb dX11_leastLeftOut_8 rfl (lv_at hl 3 rfl) ?_
        refine lv_isub hx hb dX11_leastLeftOut_9 ?_
        refine lv_istore (lv' := [(4, .int (a0 - x2)), (0, .int a0), (1, .int a1), (2, .int a2), (3, .int x2)]) hx hb dX11_leastLeftOut_10 hl (by decide) rfl (fun ls hl => ?_)
        refine lv_iload_n hx hb dX11_leastLeftOut_12 rfl (lv_at hl 2 rfl) ?_
        refine lv_iload hx hb dX11_leastLeftOut_13 (lv_at hl 0 rfl) ?_
        refine va_mmin hx hb (hml.trans hl.1.symm) hown (hts _ kw_622) (hts _ kw_507) (hts _ kw_14) (hts _ kw_508) (Nat.le_of_ble_eq_true rfl) (Nat.le_of_ble_eq_true rfl) (Nat.le_of_ble_eq_true rfl) (Nat.le_of_ble_eq_true rfl) dX11_leastLeftOut_15 ?_
        refine lv_topi (fun v5 e_v5 => ?_)
        have h := hq_nm h e_v5
        refine lv_bipush (v := 100) hx hb dX11_leastLeftOut_18 (by decide) ?_
        refine lv_imul hx hb dX11_leastLeftOut_20 ?_
        refine lv_iload_n hx hb dX11_leastLeftOut_21 rfl (lv_at hl 3 rfl) ?_
        refine lv_iload hx hb dX11_leastLeftOut_22 (lv_at hl 0 rfl) ?_
        refine lv_imul hx hb dX11_leastLeftOut_24 ?_
        refine lv_icmp_lt (tgt := 30) hx hb dX11_leastLeftOut_25 (by decide) (fun c6 => ?_) (fun c6 => ?_)
        · have h := hq_t h c6
          refine lv_iinc (v := (x2 + 1)) (lv' := [(3, .int (x2 + 1)), (4, .int (a0 - x2)), (0, .int a0), (1, .int a1), (2, .int a2)]) hx hb dX11_leastLeftOut_30 hl (k := 4) rfl rfl (by decide) rfl (fun ls hl => ?_)
          refine lv_goto (tgt := 2) hx hb dX11_leastLeftOut_33 (by decide) ?_
          exact ih2 (x2 + 1) S3 _ _ _ h hI (lv_sub hl [2, 3, 4, 0] rfl)
        · have h := hq_f h c6
          refine lv_iload_n hx hb dX11_leastLeftOut_28 rfl (lv_at hl 4 rfl) ?_
          exact hq_iret hx hb hr hlocks h0 hI h dX11_leastLeftOut_29
  exact hL2 FU 0 S _ _ _ h hI (lv_sub hl [1, 2, 3, 0] rfl)
-- RodDips.greatestDivisor(JJ)J
theorem dX11_greatestDivisor_0 : decode cX11_greatestDivisor 0 = .ok (.lload_n 0, 1) := by decide +kernel
theorem dX11_greatestDivisor_1 : decode cX11_greatestDivisor 1 = .ok (.lstore 4, 2) := by decide +kernel
theorem dX11_greatestDivisor_3 : decode cX11_greatestDivisor 3 = .ok (.lload_n 2, 1) := by decide +kernel
theorem dX11_greatestDivisor_4 : decode cX11_greatestDivisor 4 = .ok (.lstore 6, 2) := by decide +kernel
theorem dX11_greatestDivisor_6 : decode cX11_greatestDivisor 6 = .ok (.iconst 0, 1) := by decide +kernel
theorem dX11_greatestDivisor_7 : decode cX11_greatestDivisor 7 = .ok (.istore 8, 2) := by decide +kernel
theorem dX11_greatestDivisor_9 : decode cX11_greatestDivisor 9 = .ok (.iload 8, 2) := by decide +kernel
theorem dX11_greatestDivisor_11 : decode cX11_greatestDivisor 11 = .ok (.bipush 100, 2) := by decide +kernel
theorem dX11_greatestDivisor_13 : decode cX11_greatestDivisor 13 = .ok (.if_icmp .ge 31, 3) := by decide +kernel
theorem dX11_greatestDivisor_16 : decode cX11_greatestDivisor 16 = .ok (.lload 6, 2) := by decide +kernel
theorem dX11_greatestDivisor_18 : decode cX11_greatestDivisor 18 = .ok (.lconst 0, 1) := by decide +kernel
theorem dX11_greatestDivisor_19 : decode cX11_greatestDivisor 19 = .ok (.lcmp, 1) := by decide +kernel
theorem dX11_greatestDivisor_20 : decode cX11_greatestDivisor 20 = .ok (.ifCond .eq 24, 3) := by decide +kernel
theorem dX11_greatestDivisor_23 : decode cX11_greatestDivisor 23 = .ok (.lload 4, 2) := by decide +kernel
theorem dX11_greatestDivisor_25 : decode cX11_greatestDivisor 25 = .ok (.lload 6, 2) := by decide +kernel
theorem dX11_greatestDivisor_27 : decode cX11_greatestDivisor 27 = .ok (.lrem, 1) := by decide +kernel
theorem dX11_greatestDivisor_28 : decode cX11_greatestDivisor 28 = .ok (.lstore 9, 2) := by decide +kernel
theorem dX11_greatestDivisor_30 : decode cX11_greatestDivisor 30 = .ok (.lload 6, 2) := by decide +kernel
theorem dX11_greatestDivisor_32 : decode cX11_greatestDivisor 32 = .ok (.lstore 4, 2) := by decide +kernel
theorem dX11_greatestDivisor_34 : decode cX11_greatestDivisor 34 = .ok (.lload 9, 2) := by decide +kernel
theorem dX11_greatestDivisor_36 : decode cX11_greatestDivisor 36 = .ok (.lstore 6, 2) := by decide +kernel
theorem dX11_greatestDivisor_38 : decode cX11_greatestDivisor 38 = .ok (.iinc 8 1, 3) := by decide +kernel
theorem dX11_greatestDivisor_41 : decode cX11_greatestDivisor 41 = .ok (.goto (-32), 3) := by decide +kernel
theorem dX11_greatestDivisor_44 : decode cX11_greatestDivisor 44 = .ok (.lload 4, 2) := by decide +kernel
theorem dX11_greatestDivisor_46 : decode cX11_greatestDivisor 46 = .ok (.lreturn, 1) := by decide +kernel
def f_X11_greatestDivisor_K44 (x1 : Int64) (S2 : HSt) : Option (Int64 × HSt) := some (x1, S2)
def f_X11_greatestDivisor_B9 (kx44 : (Int64 → HSt → Option (Int64 × HSt))) (kb9 : (Int64 → Int64 → Int32 → HSt → Option (Int64 × HSt))) (x3 : Int64) (x4 : Int64) (x5 : Int32) (S6 : HSt) : Option (Int64 × HSt) := if 100 ≤ x5 then (kx44 x3 S6) else (if (lg_cmp x4 0) = 0 then (kx44 x3 S6) else (if ¬ x4 = 0 then (kb9 x4 (x3 - x3 / x4 * x4) (x5 + 1) S6) else none))
def f_X11_greatestDivisor_L9 (kx44 : (Int64 → HSt → Option (Int64 × HSt))) : Nat → Int64 → Int64 → Int32 → HSt → Option (Int64 × HSt)
  | 0, _, _, _, _ => none
  | n + 1, x3, x4, x5, S => f_X11_greatestDivisor_B9 kx44 (f_X11_greatestDivisor_L9 kx44 n) x3 x4 x5 S
def f_X11_greatestDivisor (S : HSt) (a0 : Int64) (a1 : Int64) : Option (Int64 × HSt) := (f_X11_greatestDivisor_L9 f_X11_greatestDivisor_K44 FU) a0 a1 0 S
abbrev rm_X11_greatestDivisor : Room := { frames := 0, cells := 0, slots := 0, locals := 0 }
abbrev w_X11_greatestDivisor : List Cond := Cond.code yX11_greatestDivisor cX11_greatestDivisor 11 (Option.some FieldType.long) :: lwG
theorem yd_X11_greatestDivisor : yX11_greatestDivisor.cls ≠ "java/lang/invoke/MethodHandle" ∧ yX11_greatestDivisor.cls ≠ "java/lang/invoke/VarHandle" ∧ (parseMethodDescriptor yX11_greatestDivisor.desc).map (fun d => d.parameters.length) = some 2 := by decide +kernel
set_option maxHeartbeats 4000000 in
set_option maxRecDepth 100000 in
theorem c_X11_greatestDivisor (l : Launch) (D : va_G) (kA ρ : Nat → Nat) (HB : Heap) (S : HSt) (a0 : Int64) (a1 : Int64) (res : Int64 × HSt) (h : f_X11_greatestDivisor S a0 a1 = some res) : Met l yX11_greatestDivisor w_X11_greatestDivisor rm_X11_greatestDivisor (hPc D kA ρ HB S [.long a0, .long a1]) (hQl D kA HB S res) 0 0 (hFree HB) := by
  refine Met.ofW (cc := cX11_greatestDivisor) (maxL := 11) (ret := (Option.some FieldType.long)) (by decide) rfl ?_
  intro p e s m args below meth c s₁ B hml hv
  obtain ⟨rfl, hE, h0⟩ := hv
  have hx := B.exec
  have hb := B.bytes
  have hr := B.returns
  have hts0 := atoms_spec (ws := w_X11_greatestDivisor) B.pre
  have hts : ∀ w ∈ lwG, w.before _ s = true := fun w hw => hts0 w (List.mem_cons_of_mem _ hw)
  have hown : s.vm.findClass RX11 = some m.cls := findClass_of_methodNamed B.named
  have hlocks := B.notSynchronized
  have hI : hqX D kA HB S.2 S s.heap [] := ⟨h0, Nat.le_refl _, fun _ q => absurd q List.not_mem_nil⟩
  have hl := lv_entry ([.long a0, .long a1]) (n := 11) (Nat.le_of_ble_eq_true rfl)
  rw [lg_entry_eq]
  generalize (lg_sl ([.long a0, .long a1]) ++ List.replicate (11 - (lg_sl ([.long a0, .long a1])).length) Slot.unset).toArray = ls at hl ⊢
  have hl : lv_has ls 11 [(0, .long a0), (2, .long a1)] := hl
  unfold f_X11_greatestDivisor at h
  refine lv_lload_n hx hb dX11_greatestDivisor_0 rfl (lv_at hl 0 rfl) ?_
  refine lv_lstore (lv' := [(4, .long a0), (0, .long a0), (2, .long a1)]) hx hb dX11_greatestDivisor_1 hl (by decide) rfl (fun ls hl => ?_)
  refine lv_lload_n hx hb dX11_greatestDivisor_3 rfl (lv_at hl 2 rfl) ?_
  refine lv_lstore (lv' := [(6, .long a1), (4, .long a0), (0, .long a0), (2, .long a1)]) hx hb dX11_greatestDivisor_4 hl (by decide) rfl (fun ls hl => ?_)
  refine lv_iconst (v := 0) hx hb dX11_greatestDivisor_6 (by decide) ?_
  refine lv_istore (lv' := [(8, .int 0), (6, .long a1), (4, .long a0), (0, .long a0), (2, .long a1)]) hx hb dX11_greatestDivisor_7 hl (by decide) rfl (fun ls hl => ?_)
  have hK44 : ∀ (x1 : Int64) (S2 : HSt) (H : Heap) (locs : List Loc) (ls : Array Slot), f_X11_greatestDivisor_K44 x1 S2 = some res → hqX D kA HB S.2 S2 H locs → lv_has ls 11 [(4, .long x1)] → W p l e rm_X11_greatestDivisor s m ([.long a0, .long a1] : List Value).toArray below meth c H locs 0 0 (MQ below (hQl D kA HB S res) ([.long a0, .long a1] : List Value).toArray s 0 0 (hFree HB)) (F0 m 44 ls []) := by
    intro x1 S2 H locs ls h hI hl
    unfold f_X11_greatestDivisor_K44 at h
    refine lv_lload hx hb dX11_greatestDivisor_44 (lv_at hl 0 rfl) ?_
    exact hq_lret hx hb hr hlocks h0 hI h dX11_greatestDivisor_46
  have hL9 : ∀ (n9 : Nat) (x3 : Int64) (x4 : Int64) (x5 : Int32) (S6 : HSt) (H : Heap) (locs : List Loc) (ls : Array Slot), (f_X11_greatestDivisor_L9 f_X11_greatestDivisor_K44 n9) x3 x4 x5 S6 = some res → hqX D kA HB S.2 S6 H locs → lv_has ls 11 [(4, .long x3), (6, .long x4), (8, .int x5)] → W p l e rm_X11_greatestDivisor s m ([.long a0, .long a1] : List Value).toArray below meth c H locs 0 0 (MQ below (hQl D kA HB S res) ([.long a0, .long a1] : List Value).toArray s 0 0 (hFree HB)) (F0 m 9 ls []) := by
    intro n9
    induction n9 with
    | zero =>
      intro x3 x4 x5 S6 H locs ls h
      have h : (none : Option (Int64 × HSt)) = some res := h
      cases h
    | succ n9 ih9 =>
      intro x3 x4 x5 S6 H locs ls h hI hl
      have h : f_X11_greatestDivisor_B9 f_X11_greatestDivisor_K44 (f_X11_greatestDivisor_L9 f_X11_greatestDivisor_K44 n9) x3 x4 x5 S6 = some res := h
      unfold f_X11_greatestDivisor_B9 at h
      refine lv_iload hx hb dX11_greatestDivisor_9 (lv_at hl 2 rfl) ?_
      refine lv_bipush (v := 100) hx hb dX11_greatestDivisor_11 (by decide) ?_
      refine lv_icmp_ge (tgt := 44) hx hb dX11_greatestDivisor_13 (by decide) (fun c7 => ?_) (fun c7 => ?_)
      · have h := hq_t h c7
        exact hK44 x3 S6 _ _ _ h hI (lv_sub hl [0] rfl)
      · have h := hq_f h c7
        refine lv_lload hx hb dX11_greatestDivisor_16 (lv_at hl 1 rfl) ?_
        refine lv_lconst (v := 0) hx hb dX11_greatestDivisor_18 (by decide) ?_
        refine W.lcmp hx hb dX11_greatestDivisor_19 ?_
        refine lv_if_eq (tgt := 44) hx hb dX11_greatestDivisor_20 (by decide) (fun c8 => ?_) (fun c8 => ?_)
        · have h := hq_t h c8
          exact hK44 x3 S6 _ _ _ h hI (lv_sub hl [0] rfl)
        · have h := hq_f h c8
          refine lv_lload hx hb dX11_greatestDivisor_23 (lv_at hl 0 rfl) ?_
          refine lv_lload hx hb dX11_greatestDivisor_25 (lv_at hl 1 rfl) ?_
          obtain ⟨c9, h⟩ := hq_g h
          refine lv_lrem hx hb dX11_greatestDivisor_27 c9 ?_
          refine lv_lstore (lv' := [(9, .long (x3 - x3 / x4 * x4)), (4, .long x3), (6, .long x4), (8, .int x5)]) hx hb dX11_greatestDivisor_28 hl (by decide) rfl (fun ls hl => ?_)
          refine lv_lload hx hb dX11_greatestDivisor_30 (lv_at hl 2 rfl) ?_
          refine lv_lstore (lv' := [(4, .long x4), (9, .long (x3 - x3 / x4 * x4)), (6, .long x4), (8, .int x5)]) hx hb dX11_greatestDivisor_32 hl (by decide) rfl (fun ls hl => ?_)
          refine lv_lload hx hb dX11_greatestDivisor_34 (lv_at hl 1 rfl) ?_
          refine lv_lstore (lv' := [(6, .long (x3 - x3 / x4 * x4)), (4, .long x4), (9, .long (x3 - x3 / x4 * x4)), (8, .int x5)]) hx hb dX11_greatestDivisor_36 hl (by decide) rfl (fun ls hl => ?_)
          refine lv_iinc (v := (x5 + 1)) (lv' := [(8, .int (x5 + 1)), (6, .long (x3 - x3 / x4 * x4)), (4, .long x4), (9, .long (x3 - x3 / x4 * x4))]) hx hb dX11_greatestDivisor_38 hl (k := 3) rfl rfl (by decide) rfl (fun ls hl => ?_)
          refine lv_goto (tgt := 9) hx hb dX11_greatestDivisor_41 (by decide) ?_
          exact ih9 x4 (x3 - x3 / x4 * x4) (x5 + 1) S6 _ _ _ h hI (lv_sub hl [2, 1, 0] rfl)
  exact hL9 FU a0 a1 0 S _ _ _ h hI (lv_sub hl [2, 1, 0] rfl)
-- RodDips.tryout(IIIII)I
theorem dX11_tryout_0 : decode cX11_tryout 0 = .ok (.iload_n 1, 1) := by decide +kernel
theorem dX11_tryout_1 : decode cX11_tryout 1 = .ok (.invokestatic 89, 3) := by decide +kernel
theorem dX11_tryout_4 : decode cX11_tryout 4 = .ok (.ifCond .eq 28, 3) := by decide +kernel
theorem dX11_tryout_7 : decode cX11_tryout 7 = .ok (.iload_n 3, 1) := by decide +kernel
theorem dX11_tryout_8 : decode cX11_tryout 8 = .ok (.invokestatic 93, 3) := by decide +kernel
theorem dX11_tryout_11 : decode cX11_tryout 11 = .ok (.ifCond .eq 21, 3) := by decide +kernel
theorem dX11_tryout_14 : decode cX11_tryout 14 = .ok (.aload_n 0, 1) := by decide +kernel
theorem dX11_tryout_15 : decode cX11_tryout 15 = .ok (.iload 4, 2) := by decide +kernel
theorem dX11_tryout_17 : decode cX11_tryout 17 = .ok (.invokevirtual 96, 3) := by decide +kernel
theorem dX11_tryout_20 : decode cX11_tryout 20 = .ok (.ifCond .eq 12, 3) := by decide +kernel
theorem dX11_tryout_23 : decode cX11_tryout 23 = .ok (.aload_n 0, 1) := by decide +kernel
theorem dX11_tryout_24 : decode cX11_tryout 24 = .ok (.iload 5, 2) := by decide +kernel
theorem dX11_tryout_26 : decode cX11_tryout 26 = .ok (.invokevirtual 96, 3) := by decide +kernel
theorem dX11_tryout_29 : decode cX11_tryout 29 = .ok (.ifCond .ne 5, 3) := by decide +kernel
theorem dX11_tryout_32 : decode cX11_tryout 32 = .ok (.iconst (-1), 1) := by decide +kernel
theorem dX11_tryout_33 : decode cX11_tryout 33 = .ok (.ireturn, 1) := by decide +kernel
theorem dX11_tryout_34 : decode cX11_tryout 34 = .ok (.iload_n 2, 1) := by decide +kernel
theorem dX11_tryout_35 : decode cX11_tryout 35 = .ok (.ifCond .lt 9, 3) := by decide +kernel
theorem dX11_tryout_38 : decode cX11_tryout 38 = .ok (.iload_n 2, 1) := by decide +kernel
theorem dX11_tryout_39 : decode cX11_tryout 39 = .ok (.bipush 100, 2) := by decide +kernel
theorem dX11_tryout_41 : decode cX11_tryout 41 = .ok (.if_icmp .lt 6, 3) := by decide +kernel
theorem dX11_tryout_44 : decode cX11_tryout 44 = .ok (.bipush (-2), 2) := by decide +kernel
theorem dX11_tryout_46 : decode cX11_tryout 46 = .ok (.ireturn, 1) := by decide +kernel
theorem dX11_tryout_47 : decode cX11_tryout 47 = .ok (.aload_n 0, 1) := by decide +kernel
theorem dX11_tryout_48 : decode cX11_tryout 48 = .ok (.getfield 21, 3) := by decide +kernel
theorem dX11_tryout_51 : decode cX11_tryout 51 = .ok (.bipush 30, 2) := by decide +kernel
theorem dX11_tryout_53 : decode cX11_tryout 53 = .ok (.if_icmp .lt 6, 3) := by decide +kernel
theorem dX11_tryout_56 : decode cX11_tryout 56 = .ok (.bipush (-4), 2) := by decide +kernel
theorem dX11_tryout_58 : decode cX11_tryout 58 = .ok (.ireturn, 1) := by decide +kernel
theorem dX11_tryout_59 : decode cX11_tryout 59 = .ok (.aload_n 0, 1) := by decide +kernel
theorem dX11_tryout_60 : decode cX11_tryout 60 = .ok (.iload_n 3, 1) := by decide +kernel
theorem dX11_tryout_61 : decode cX11_tryout 61 = .ok (.invokevirtual 99, 3) := by decide +kernel
theorem dX11_tryout_64 : decode cX11_tryout 64 = .ok (.astore 6, 2) := by decide +kernel
theorem dX11_tryout_66 : decode cX11_tryout 66 = .ok (.aload 6, 2) := by decide +kernel
theorem dX11_tryout_68 : decode cX11_tryout 68 = .ok (.aload_n 0, 1) := by decide +kernel
theorem dX11_tryout_69 : decode cX11_tryout 69 = .ok (.getfield 21, 3) := by decide +kernel
theorem dX11_tryout_72 : decode cX11_tryout 72 = .ok (.putfield 103, 3) := by decide +kernel
theorem dX11_tryout_75 : decode cX11_tryout 75 = .ok (.aload 6, 2) := by decide +kernel
theorem dX11_tryout_77 : decode cX11_tryout 77 = .ok (.iload_n 1, 1) := by decide +kernel
theorem dX11_tryout_78 : decode cX11_tryout 78 = .ok (.putfield 106, 3) := by decide +kernel
theorem dX11_tryout_81 : decode cX11_tryout 81 = .ok (.aload 6, 2) := by decide +kernel
theorem dX11_tryout_83 : decode cX11_tryout 83 = .ok (.iload_n 2, 1) := by decide +kernel
theorem dX11_tryout_84 : decode cX11_tryout 84 = .ok (.putfield 109, 3) := by decide +kernel
theorem dX11_tryout_87 : decode cX11_tryout 87 = .ok (.aload 6, 2) := by decide +kernel
theorem dX11_tryout_89 : decode cX11_tryout 89 = .ok (.iload_n 3, 1) := by decide +kernel
theorem dX11_tryout_90 : decode cX11_tryout 90 = .ok (.putfield 112, 3) := by decide +kernel
theorem dX11_tryout_93 : decode cX11_tryout 93 = .ok (.aload 6, 2) := by decide +kernel
theorem dX11_tryout_95 : decode cX11_tryout 95 = .ok (.iload 4, 2) := by decide +kernel
theorem dX11_tryout_97 : decode cX11_tryout 97 = .ok (.putfield 115, 3) := by decide +kernel
theorem dX11_tryout_100 : decode cX11_tryout 100 = .ok (.aload 6, 2) := by decide +kernel
theorem dX11_tryout_102 : decode cX11_tryout 102 = .ok (.iload 5, 2) := by decide +kernel
theorem dX11_tryout_104 : decode cX11_tryout 104 = .ok (.putfield 118, 3) := by decide +kernel
theorem dX11_tryout_107 : decode cX11_tryout 107 = .ok (.aload 6, 2) := by decide +kernel
theorem dX11_tryout_109 : decode cX11_tryout 109 = .ok (.iload 5, 2) := by decide +kernel
theorem dX11_tryout_111 : decode cX11_tryout 111 = .ok (.iload 4, 2) := by decide +kernel
theorem dX11_tryout_113 : decode cX11_tryout 113 = .ok (.isub, 1) := by decide +kernel
theorem dX11_tryout_114 : decode cX11_tryout 114 = .ok (.invokestatic 121, 3) := by decide +kernel
theorem dX11_tryout_117 : decode cX11_tryout 117 = .ok (.putfield 127, 3) := by decide +kernel
theorem dX11_tryout_120 : decode cX11_tryout 120 = .ok (.aload_n 0, 1) := by decide +kernel
theorem dX11_tryout_121 : decode cX11_tryout 121 = .ok (.getfield 17, 3) := by decide +kernel
theorem dX11_tryout_124 : decode cX11_tryout 124 = .ok (.aload_n 0, 1) := by decide +kernel
theorem dX11_tryout_125 : decode cX11_tryout 125 = .ok (.getfield 21, 3) := by decide +kernel
theorem dX11_tryout_128 : decode cX11_tryout 128 = .ok (.aload 6, 2) := by decide +kernel
theorem dX11_tryout_130 : decode cX11_tryout 130 = .ok (.aastore, 1) := by decide +kernel
theorem dX11_tryout_131 : decode cX11_tryout 131 = .ok (.aload_n 0, 1) := by decide +kernel
theorem dX11_tryout_132 : decode cX11_tryout 132 = .ok (.dup, 1) := by decide +kernel
theorem dX11_tryout_133 : decode cX11_tryout 133 = .ok (.getfield 21, 3) := by decide +kernel
theorem dX11_tryout_136 : decode cX11_tryout 136 = .ok (.dup_x1, 1) := by decide +kernel
theorem dX11_tryout_137 : decode cX11_tryout 137 = .ok (.iconst 1, 1) := by decide +kernel
theorem dX11_tryout_138 : decode cX11_tryout 138 = .ok (.iadd, 1) := by decide +kernel
theorem dX11_tryout_139 : decode cX11_tryout 139 = .ok (.putfield 21, 3) := by decide +kernel
theorem dX11_tryout_142 : decode cX11_tryout 142 = .ok (.ireturn, 1) := by decide +kernel
def f_X11_tryout (S : HSt) (a0 : Nat) (a1 : Int32) (a2 : Int32) (a3 : Int32) (a4 : Int32) (a5 : Int32) : Option (Int32 × HSt) := bd2 (f_X11_isMan S a1) fun v3 S2 => if v3 = 0 then (some ((-1), S2)) else (bd2 (f_X11_isKind S2 a3) fun v7 S6 => if v7 = 0 then (some ((-1), S6)) else (if gC S6 a0 = some 11 then (bd2 (f_X11_isPlace S6 a0 a4) fun v12 S11 => if v12 = 0 then (some ((-1), S11)) else (if gC S11 a0 = some 11 then (bd2 (f_X11_isPlace S11 a0 a5) fun v17 S16 => if v17 = 0 then (some ((-1), S16)) else (if a2 < 0 then (some ((-2), S16)) else (if a2 < 100 then ((gI S16 a0 11 2).bind fun v21 => if v21 < 30 then (if gC S16 a0 = some 11 then (bd2 (f_X11_madeOfKind S16 a0 a3) fun b27 S26 => oC b27 ((gI S26 a0 11 2).bind fun v29 => none) fun r28 => (gI S26 a0 11 2).bind fun v31 => (pVT S26 r28 1 (.int v31)).bind fun S33 => (pVT S33 r28 2 (.int a1)).bind fun S35 => (pVT S35 r28 3 (.int a2)).bind fun S37 => (pVT S37 r28 4 (.int a3)).bind fun S39 => (pVT S39 r28 5 (.int a4)).bind fun S41 => (pVT S41 r28 6 (.int a5)).bind fun S43 => hqn ((if 0 ≤ (a5 - a4) then (a5 - a4) else 0 - (a5 - a4) : Int32)) fun (v45 : Int32) => (pVT S43 r28 7 (.int v45)).bind fun S46 => (gR S46 a0 11 1).bind fun b48 => (gI S46 a0 11 2).bind fun v50 => if gK S46 r28 = true then ((sQ S46 b48 4 v50 r28).bind fun S53 => (gI S53 a0 11 2).bind fun v55 => (pV S53 a0 11 2 (.int (v55 + 1))).bind fun S57 => some (v55, S57)) else none) else none) else (some ((-4), S16))) else (some ((-2), S16))))) else none)) else none))
abbrev rm_X11_tryout : Room := { frames := 5, cells := 7, slots := 63, locals := 96 }
abbrev w_X11_tryout : List Cond := Cond.code yX11_tryout cX11_tryout 7 (Option.some FieldType.int) :: lwG
theorem yd_X11_tryout : yX11_tryout.cls ≠ "java/lang/invoke/MethodHandle" ∧ yX11_tryout.cls ≠ "java/lang/invoke/VarHandle" ∧ (parseMethodDescriptor yX11_tryout.desc).map (fun d => d.parameters.length) = some 5 := by decide +kernel
theorem ye_X11_tryout : yX11_tryout.cls = RX11 ∧ yX11_tryout.cls ≠ "java/lang/invoke/MethodHandle" ∧ yX11_tryout.cls ≠ "java/lang/invoke/VarHandle" ∧ (parseMethodDescriptor yX11_tryout.desc).map (fun d => d.parameters.length) = some 5 := by decide +kernel
set_option maxHeartbeats 4000000 in
set_option maxRecDepth 100000 in
theorem c_X11_tryout (l : Launch) (D : va_G) (kA ρ : Nat → Nat) (HB : Heap) (S : HSt) (a0 : Nat) (a1 : Int32) (a2 : Int32) (a3 : Int32) (a4 : Int32) (a5 : Int32) (res : Int32 × HSt) (h : f_X11_tryout S a0 a1 a2 a3 a4 a5 = some res) : Met l yX11_tryout w_X11_tryout rm_X11_tryout (hPc D kA ρ HB S [.ref a0, .int a1, .int a2, .int a3, .int a4, .int a5]) (hQi D kA HB S res) 7 63 (hFree HB) := by
  refine Met.ofW (cc := cX11_tryout) (maxL := 7) (ret := (Option.some FieldType.int)) (by decide) rfl ?_
  intro p e s m args below meth c s₁ B hml hv
  obtain ⟨rfl, hE, h0⟩ := hv
  have hx := B.exec
  have hb := B.bytes
  have hr := B.returns
  have hts0 := atoms_spec (ws := w_X11_tryout) B.pre
  have hts : ∀ w ∈ lwG, w.before _ s = true := fun w hw => hts0 w (List.mem_cons_of_mem _ hw)
  have hown : s.vm.findClass RX11 = some m.cls := findClass_of_methodNamed B.named
  have hlocks := B.notSynchronized
  have hI : hqX D kA HB S.2 S s.heap [] := ⟨h0, Nat.le_refl _, fun _ q => absurd q List.not_mem_nil⟩
  have hl := lv_entry ([.ref a0, .int a1, .int a2, .int a3, .int a4, .int a5]) (n := 7) (Nat.le_of_ble_eq_true rfl)
  rw [lg_entry_eq]
  generalize (lg_sl ([.ref a0, .int a1, .int a2, .int a3, .int a4, .int a5]) ++ List.replicate (7 - (lg_sl ([.ref a0, .int a1, .int a2, .int a3, .int a4, .int a5])).length) Slot.unset).toArray = ls at hl ⊢
  have hl : lv_has ls 7 [(0, .ref a0), (1, .int a1), (2, .int a2), (3, .int a3), (4, .int a4), (5, .int a5)] := hl
  unfold f_X11_tryout at h
  refine lv_iload_n hx hb dX11_tryout_0 rfl (lv_at hl 1 rfl) ?_
  obtain ⟨v3, S2, g1, h⟩ := hq_bd2 h
  refine hq_calli hI (va_runS (As := [.int a1]) (rest := []) ⟨hx, hb, hml, hown, hts⟩ (c_X11_isMan l D kA ρ HB S a1 _ g1) (va_cwS 1 hts (gdIn (List.forall_mem_cons.mpr ⟨kw_195, (List.forall_mem_cons.mpr ⟨kw_196, (List.forall_mem_cons.mpr ⟨kw_1, (fun _ h => absurd h List.not_mem_nil)⟩)⟩)⟩) kw_197) rfl rfl rfl yd_X11_isMan ⟨Nat.le_of_ble_eq_true rfl, Nat.le_of_ble_eq_true rfl⟩) (hq_preS hE hI _) rfl rfl hl.1 rfl (lv_room (Nat.le_of_ble_eq_true rfl)) dX11_tryout_1 ⟨Nat.le_of_ble_eq_true rfl, Nat.le_of_ble_eq_true rfl⟩) (fun H locs hI => ?_)
  refine lv_if_eq (tgt := 32) hx hb dX11_tryout_4 (by decide) (fun c4 => ?_) (fun c4 => ?_)
  · have h := hq_t h c4
    refine lv_iconst (v := (-1)) hx hb dX11_tryout_32 (by decide) ?_
    refine W.widen (k := 7) (n := 63) (Nat.le_of_ble_eq_true rfl) (Nat.le_of_ble_eq_true rfl) ?_
    exact hq_iret hx hb hr hlocks h0 hI h dX11_tryout_33
  · have h := hq_f h c4
    refine lv_iload_n hx hb dX11_tryout_7 rfl (lv_at hl 3 rfl) ?_
    obtain ⟨v7, S6, g5, h⟩ := hq_bd2 h
    refine hq_calli hI (va_runS (As := [.int a3]) (rest := []) ⟨hx, hb, hml, hown, hts⟩ (c_X11_isKind l D kA ρ HB S2 a3 _ g5) (va_cwS 1 hts (gdIn (List.forall_mem_cons.mpr ⟨kw_198, (List.forall_mem_cons.mpr ⟨kw_199, (List.forall_mem_cons.mpr ⟨kw_1, (fun _ h => absurd h List.not_mem_nil)⟩)⟩)⟩) kw_200) rfl rfl rfl yd_X11_isKind ⟨Nat.le_of_ble_eq_true rfl, Nat.le_of_ble_eq_true rfl⟩) (hq_preS hE hI _) rfl rfl hl.1 rfl (lv_room (Nat.le_of_ble_eq_true rfl)) dX11_tryout_8 ⟨Nat.le_of_ble_eq_true rfl, Nat.le_of_ble_eq_true rfl⟩) (fun H locs hI => ?_)
    refine lv_if_eq (tgt := 32) hx hb dX11_tryout_11 (by decide) (fun c8 => ?_) (fun c8 => ?_)
    · have h := hq_t h c8
      refine lv_iconst (v := (-1)) hx hb dX11_tryout_32 (by decide) ?_
      refine W.widen (k := 7) (n := 63) (Nat.le_of_ble_eq_true rfl) (Nat.le_of_ble_eq_true rfl) ?_
      exact hq_iret hx hb hr hlocks h0 hI h dX11_tryout_33
    · have h := hq_f h c8
      refine lv_aload_n hx hb dX11_tryout_14 rfl (lv_at hl 0 rfl) ?_
      refine lv_iload hx hb dX11_tryout_15 (lv_at hl 4 rfl) ?_
      obtain ⟨g10, h⟩ := hq_g h
      obtain ⟨v12, S11, g9, h⟩ := hq_bd2 h
      refine hq_calli hI (va_runV (As := [.int a4]) (rest := []) ⟨hx, hb, hml, hown, hts⟩ (c_X11_isPlace l D kA ρ HB S6 a0 a4 _ g9) (cwV 1 hts (gdIn (List.forall_mem_cons.mpr ⟨kw_201, (List.forall_mem_cons.mpr ⟨kw_203, (List.forall_mem_cons.mpr ⟨ks_0, (List.forall_mem_cons.mpr ⟨kw_1, (fun _ h => absurd h List.not_mem_nil)⟩)⟩)⟩)⟩) kw_204) rfl rfl rfl ye_X11_isPlace ⟨Nat.le_of_ble_eq_true rfl, Nat.le_of_ble_eq_true rfl⟩) (hq_preC hE hI g10 rfl _) rfl rfl hl.1 rfl (lv_room (Nat.le_of_ble_eq_true rfl)) dX11_tryout_17 ⟨Nat.le_of_ble_eq_true rfl, Nat.le_of_ble_eq_true rfl⟩) (fun H locs hI => ?_)
      refine lv_if_eq (tgt := 32) hx hb dX11_tryout_20 (by decide) (fun c13 => ?_) (fun c13 => ?_)
      · have h := hq_t h c13
        refine lv_iconst (v := (-1)) hx hb dX11_tryout_32 (by decide) ?_
        refine W.widen (k := 7) (n := 63) (Nat.le_of_ble_eq_true rfl) (Nat.le_of_ble_eq_true rfl) ?_
        exact hq_iret hx hb hr hlocks h0 hI h dX11_tryout_33
      · have h := hq_f h c13
        refine lv_aload_n hx hb dX11_tryout_23 rfl (lv_at hl 0 rfl) ?_
        refine lv_iload hx hb dX11_tryout_24 (lv_at hl 5 rfl) ?_
        obtain ⟨g15, h⟩ := hq_g h
        obtain ⟨v17, S16, g14, h⟩ := hq_bd2 h
        refine hq_calli hI (va_runV (As := [.int a5]) (rest := []) ⟨hx, hb, hml, hown, hts⟩ (c_X11_isPlace l D kA ρ HB S11 a0 a5 _ g14) (cwV 1 hts (gdIn (List.forall_mem_cons.mpr ⟨kw_201, (List.forall_mem_cons.mpr ⟨kw_203, (List.forall_mem_cons.mpr ⟨ks_0, (List.forall_mem_cons.mpr ⟨kw_1, (fun _ h => absurd h List.not_mem_nil)⟩)⟩)⟩)⟩) kw_204) rfl rfl rfl ye_X11_isPlace ⟨Nat.le_of_ble_eq_true rfl, Nat.le_of_ble_eq_true rfl⟩) (hq_preC hE hI g15 rfl _) rfl rfl hl.1 rfl (lv_room (Nat.le_of_ble_eq_true rfl)) dX11_tryout_26 ⟨Nat.le_of_ble_eq_true rfl, Nat.le_of_ble_eq_true rfl⟩) (fun H locs hI => ?_)
        refine lv_if_ne (tgt := 34) hx hb dX11_tryout_29 (by decide) (fun c18 => ?_) (fun c18 => ?_)
        · have h := hq_f h c18
          refine lv_iload_n hx hb dX11_tryout_34 rfl (lv_at hl 2 rfl) ?_
          refine lv_if_lt (tgt := 44) hx hb dX11_tryout_35 (by decide) (fun c19 => ?_) (fun c19 => ?_)
          · have h := hq_t h c19
            refine lv_bipush (v := (-2)) hx hb dX11_tryout_44 (by decide) ?_
            refine W.widen (k := 7) (n := 63) (Nat.le_of_ble_eq_true rfl) (Nat.le_of_ble_eq_true rfl) ?_
            exact hq_iret hx hb hr hlocks h0 hI h dX11_tryout_46
          · have h := hq_f h c19
            refine lv_iload_n hx hb dX11_tryout_38 rfl (lv_at hl 2 rfl) ?_
            refine lv_bipush (v := 100) hx hb dX11_tryout_39 (by decide) ?_
            refine lv_icmp_lt (tgt := 47) hx hb dX11_tryout_41 (by decide) (fun c20 => ?_) (fun c20 => ?_)
            · have h := hq_t h c20
              refine lv_aload_n hx hb dX11_tryout_47 rfl (lv_at hl 0 rfl) ?_
              obtain ⟨v21, g22, h⟩ := hq_bind h
              obtain ⟨fs_g22, hs_g22, hv_g22⟩ := gI_at g22
              refine hq_get hx hb hts hown hE hI hs_g22 inG11 rfl 2 (by decide) kw_134 hv_g22 dX11_tryout_48 ?_
              refine lv_bipush (v := 30) hx hb dX11_tryout_51 (by decide) ?_
              refine lv_icmp_lt (tgt := 59) hx hb dX11_tryout_53 (by decide) (fun c23 => ?_) (fun c23 => ?_)
              · have h := hq_t h c23
                refine lv_aload_n hx hb dX11_tryout_59 rfl (lv_at hl 0 rfl) ?_
                refine lv_iload_n hx hb dX11_tryout_60 rfl (lv_at hl 3 rfl) ?_
                obtain ⟨g25, h⟩ := hq_g h
                obtain ⟨b27, S26, g24, h⟩ := hq_bd2 h
                refine hq_callq hI (va_runV (As := [.int a3]) (rest := []) ⟨hx, hb, hml, hown, hts⟩ (c_X11_madeOfKind l D kA ρ HB S16 a0 a3 _ g24) (cwV 1 hts (gdIn (List.forall_mem_cons.mpr ⟨kw_205, (List.forall_mem_cons.mpr ⟨kw_207, (List.forall_mem_cons.mpr ⟨ks_1, (List.forall_mem_cons.mpr ⟨kw_1, (fun _ h => absurd h List.not_mem_nil)⟩)⟩)⟩)⟩) kw_208) rfl rfl rfl ye_X11_madeOfKind ⟨Nat.le_of_ble_eq_true rfl, Nat.le_of_ble_eq_true rfl⟩) (hq_preC hE hI g25 rfl _) rfl rfl hl.1 rfl (lv_room (Nat.le_of_ble_eq_true rfl)) dX11_tryout_61 ⟨Nat.le_of_ble_eq_true rfl, Nat.le_of_ble_eq_true rfl⟩) (fun H locs hI => ?_)
                rcases b27 with _ | r28
                · have h := oC_n h
                  refine lv_astoreN (lv' := [(6, .null), (0, .ref a0), (1, .int a1), (2, .int a2), (3, .int a3), (4, .int a4), (5, .int a5)]) hx hb dX11_tryout_64 hl (by decide) rfl (fun ls hl => ?_)
                  refine lv_aloadN hx hb dX11_tryout_66 (lv_at hl 0 rfl) ?_
                  refine lv_aload_n hx hb dX11_tryout_68 rfl (lv_at hl 1 rfl) ?_
                  obtain ⟨v29, g30, h⟩ := hq_bind h
                  obtain ⟨fs_g30, hs_g30, hv_g30⟩ := gI_at g30
                  refine hq_get hx hb hts hown hE hI hs_g30 inG11 rfl 2 (by decide) kw_134 hv_g30 dX11_tryout_69 ?_
                  cases h
                · have h := oC_s h
                  refine lv_astore (lv' := [(6, .ref r28), (0, .ref a0), (1, .int a1), (2, .int a2), (3, .int a3), (4, .int a4), (5, .int a5)]) hx hb dX11_tryout_64 hl (by decide) rfl (fun ls hl => ?_)
                  refine lv_aload hx hb dX11_tryout_66 (lv_at hl 0 rfl) ?_
                  refine lv_aload_n hx hb dX11_tryout_68 rfl (lv_at hl 1 rfl) ?_
                  obtain ⟨v31, g32, h⟩ := hq_bind h
                  obtain ⟨fs_g32, hs_g32, hv_g32⟩ := gI_at g32
                  refine hq_get hx hb hts hown hE hI hs_g32 inG11 rfl 2 (by decide) kw_134 hv_g32 dX11_tryout_69 ?_
                  obtain ⟨S33, g34, h⟩ := hq_bind h
                  obtain ⟨c_g34, fs_g34, hk_g34, hs_g34, hl_g34, e_g34⟩ := pVT_at g34
                  obtain ⟨C_g34, hc_g34, hi_g34⟩ := hKin_at hk_g34
                  refine hq_putN hx hb hts hown hE hI hs_g34 hi_g34 tyX9 tyX9_ok nmX9 hc_g34 1 (by decide) kn_220 rfl (v := .int v31) rfl rfl rfl hl_g34 e_g34 dX11_tryout_72 (fun H locs hI => ?_)
                  refine lv_aload hx hb dX11_tryout_75 (lv_at hl 0 rfl) ?_
                  refine lv_iload_n hx hb dX11_tryout_77 rfl (lv_at hl 2 rfl) ?_
                  obtain ⟨S35, g36, h⟩ := hq_bind h
                  obtain ⟨c_g36, fs_g36, hk_g36, hs_g36, hl_g36, e_g36⟩ := pVT_at g36
                  obtain ⟨C_g36, hc_g36, hi_g36⟩ := hKin_at hk_g36
                  refine hq_putN hx hb hts hown hE hI hs_g36 hi_g36 tyX9 tyX9_ok nmX9 hc_g36 2 (by decide) kn_221 rfl (v := .int a1) rfl rfl rfl hl_g36 e_g36 dX11_tryout_78 (fun H locs hI => ?_)
                  refine lv_aload hx hb dX11_tryout_81 (lv_at hl 0 rfl) ?_
                  refine lv_iload_n hx hb dX11_tryout_83 rfl (lv_at hl 3 rfl) ?_
                  obtain ⟨S37, g38, h⟩ := hq_bind h
                  obtain ⟨c_g38, fs_g38, hk_g38, hs_g38, hl_g38, e_g38⟩ := pVT_at g38
                  obtain ⟨C_g38, hc_g38, hi_g38⟩ := hKin_at hk_g38
                  refine hq_putN hx hb hts hown hE hI hs_g38 hi_g38 tyX9 tyX9_ok nmX9 hc_g38 3 (by decide) kn_223 rfl (v := .int a2) rfl rfl rfl hl_g38 e_g38 dX11_tryout_84 (fun H locs hI => ?_)
                  refine lv_aload hx hb dX11_tryout_87 (lv_at hl 0 rfl) ?_
                  refine lv_iload_n hx hb dX11_tryout_89 rfl (lv_at hl 4 rfl) ?_
                  obtain ⟨S39, g40, h⟩ := hq_bind h
                  obtain ⟨c_g40, fs_g40, hk_g40, hs_g40, hl_g40, e_g40⟩ := pVT_at g40
                  obtain ⟨C_g40, hc_g40, hi_g40⟩ := hKin_at hk_g40
                  refine hq_putN hx hb hts hown hE hI hs_g40 hi_g40 tyX9 tyX9_ok nmX9 hc_g40 4 (by decide) kn_225 rfl (v := .int a3) rfl rfl rfl hl_g40 e_g40 dX11_tryout_90 (fun H locs hI => ?_)
                  refine lv_aload hx hb dX11_tryout_93 (lv_at hl 0 rfl) ?_
                  refine lv_iload hx hb dX11_tryout_95 (lv_at hl 5 rfl) ?_
                  obtain ⟨S41, g42, h⟩ := hq_bind h
                  obtain ⟨c_g42, fs_g42, hk_g42, hs_g42, hl_g42, e_g42⟩ := pVT_at g42
                  obtain ⟨C_g42, hc_g42, hi_g42⟩ := hKin_at hk_g42
                  refine hq_putN hx hb hts hown hE hI hs_g42 hi_g42 tyX9 tyX9_ok nmX9 hc_g42 5 (by decide) kn_227 rfl (v := .int a4) rfl rfl rfl hl_g42 e_g42 dX11_tryout_97 (fun H locs hI => ?_)
                  refine lv_aload hx hb dX11_tryout_100 (lv_at hl 0 rfl) ?_
                  refine lv_iload hx hb dX11_tryout_102 (lv_at hl 6 rfl) ?_
                  obtain ⟨S43, g44, h⟩ := hq_bind h
                  obtain ⟨c_g44, fs_g44, hk_g44, hs_g44, hl_g44, e_g44⟩ := pVT_at g44
                  obtain ⟨C_g44, hc_g44, hi_g44⟩ := hKin_at hk_g44
                  refine hq_putN hx hb hts hown hE hI hs_g44 hi_g44 tyX9 tyX9_ok nmX9 hc_g44 6 (by decide) kn_231 rfl (v := .int a5) rfl rfl rfl hl_g44 e_g44 dX11_tryout_104 (fun H locs hI => ?_)
                  refine lv_aload hx hb dX11_tryout_107 (lv_at hl 0 rfl) ?_
                  refine lv_iload hx hb dX11_tryout_109 (lv_at hl 6 rfl) ?_
                  refine lv_iload hx hb dX11_tryout_111 (lv_at hl 5 rfl) ?_
                  refine lv_isub hx hb dX11_tryout_113 ?_
                  refine va_mabs hx hb (hml.trans hl.1.symm) hown (hts _ kw_347) (hts _ kw_348) (hts _ kw_14) (hts _ kw_349) (Nat.le_of_ble_eq_true rfl) (Nat.le_of_ble_eq_true rfl) (Nat.le_of_ble_eq_true rfl) (Nat.le_of_ble_eq_true rfl) dX11_tryout_114 ?_
                  refine lv_topi (fun v45 e_v45 => ?_)
                  have h := hq_nm h e_v45
                  obtain ⟨S46, g47, h⟩ := hq_bind h
                  obtain ⟨c_g47, fs_g47, hk_g47, hs_g47, hl_g47, e_g47⟩ := pVT_at g47
                  obtain ⟨C_g47, hc_g47, hi_g47⟩ := hKin_at hk_g47
                  refine hq_putN hx hb hts hown hE hI hs_g47 hi_g47 tyX9 tyX9_ok nmX9 hc_g47 7 (by decide) kn_232 rfl (v := .int v45) rfl rfl rfl hl_g47 e_g47 dX11_tryout_117 (fun H locs hI => ?_)
                  refine lv_aload_n hx hb dX11_tryout_120 rfl (lv_at hl 1 rfl) ?_
                  obtain ⟨b48, g49, h⟩ := hq_bind h
                  obtain ⟨fs_g49, hs_g49, hv_g49⟩ := gR_at g49
                  refine hq_get hx hb hts hown hE hI hs_g49 inG11 rfl 1 (by decide) kw_133 hv_g49 dX11_tryout_121 ?_
                  refine lv_aload_n hx hb dX11_tryout_124 rfl (lv_at hl 1 rfl) ?_
                  obtain ⟨v50, g51, h⟩ := hq_bind h
                  obtain ⟨fs_g51, hs_g51, hv_g51⟩ := gI_at g51
                  refine hq_get hx hb hts hown hE hI hs_g51 inG11 rfl 2 (by decide) kw_134 hv_g51 dX11_tryout_125 ?_
                  refine lv_aload hx hb dX11_tryout_128 (lv_at hl 0 rfl) ?_
                  obtain ⟨g54, h⟩ := hq_g h
                  obtain ⟨S53, g52, h⟩ := hq_bind h
                  obtain ⟨k_g54, fs_g54, hk_g54, he_g54⟩ := gK_at g54
                  obtain ⟨C_g54, hc_g54, ha_g54⟩ := hq_asgT hE hk_g54
                  refine hq_aast hx hb (E := "RodDips$Try") 4 rfl hE hI he_g54 hc_g54 ha_g54 g52 dX11_tryout_130 (fun H locs hI => ?_)
                  refine lv_aload_n hx hb dX11_tryout_131 rfl (lv_at hl 1 rfl) ?_
                  refine lv_dup hx hb dX11_tryout_132 rfl ?_
                  obtain ⟨v55, g56, h⟩ := hq_bind h
                  obtain ⟨fs_g56, hs_g56, hv_g56⟩ := gI_at g56
                  refine hq_get hx hb hts hown hE hI hs_g56 inG11 rfl 2 (by decide) kw_134 hv_g56 dX11_tryout_133 ?_
                  refine lv_dup_x1 hx hb dX11_tryout_136 rfl rfl ?_
                  refine lv_iconst (v := 1) hx hb dX11_tryout_137 (by decide) ?_
                  refine lv_iadd hx hb dX11_tryout_138 ?_
                  obtain ⟨S57, g58, h⟩ := hq_bind h
                  obtain ⟨fs_g58, hs_g58, hl_g58, e_g58⟩ := pV_at g58
                  refine hq_put hx hb hts hown hE hI hs_g58 inG11 tyX11 tyX11_ok nmX11 rfl 2 (by decide) kw_134 rfl (v := .int (v55 + 1)) rfl rfl rfl hl_g58 e_g58 dX11_tryout_139 (fun H locs hI => ?_)
                  refine W.widen (k := 7) (n := 63) (Nat.le_of_ble_eq_true rfl) (Nat.le_of_ble_eq_true rfl) ?_
                  exact hq_iret hx hb hr hlocks h0 hI h dX11_tryout_142
              · have h := hq_f h c23
                refine lv_bipush (v := (-4)) hx hb dX11_tryout_56 (by decide) ?_
                refine W.widen (k := 7) (n := 63) (Nat.le_of_ble_eq_true rfl) (Nat.le_of_ble_eq_true rfl) ?_
                exact hq_iret hx hb hr hlocks h0 hI h dX11_tryout_58
            · have h := hq_f h c20
              refine lv_bipush (v := (-2)) hx hb dX11_tryout_44 (by decide) ?_
              refine W.widen (k := 7) (n := 63) (Nat.le_of_ble_eq_true rfl) (Nat.le_of_ble_eq_true rfl) ?_
              exact hq_iret hx hb hr hlocks h0 hI h dX11_tryout_46
        · have h := hq_t h c18
          refine lv_iconst (v := (-1)) hx hb dX11_tryout_32 (by decide) ?_
          refine W.widen (k := 7) (n := 63) (Nat.le_of_ble_eq_true rfl) (Nat.le_of_ble_eq_true rfl) ?_
          exact hq_iret hx hb hr hlocks h0 hI h dX11_tryout_33
-- RodDips.excuse(II)I
theorem dX11_excuse_0 : decode cX11_excuse 0 = .ok (.aload_n 0, 1) := by decide +kernel
theorem dX11_excuse_1 : decode cX11_excuse 1 = .ok (.iload_n 1, 1) := by decide +kernel
theorem dX11_excuse_2 : decode cX11_excuse 2 = .ok (.invokevirtual 130, 3) := by decide +kernel
theorem dX11_excuse_5 : decode cX11_excuse 5 = .ok (.astore_n 3, 1) := by decide +kernel
theorem dX11_excuse_6 : decode cX11_excuse 6 = .ok (.aload_n 3, 1) := by decide +kernel
theorem dX11_excuse_7 : decode cX11_excuse 7 = .ok (.ifnonnull 5, 3) := by decide +kernel
theorem dX11_excuse_10 : decode cX11_excuse 10 = .ok (.iconst (-1), 1) := by decide +kernel
theorem dX11_excuse_11 : decode cX11_excuse 11 = .ok (.ireturn, 1) := by decide +kernel
theorem dX11_excuse_12 : decode cX11_excuse 12 = .ok (.iload_n 2, 1) := by decide +kernel
theorem dX11_excuse_13 : decode cX11_excuse 13 = .ok (.ifCond .lt 8, 3) := by decide +kernel
theorem dX11_excuse_16 : decode cX11_excuse 16 = .ok (.iload_n 2, 1) := by decide +kernel
theorem dX11_excuse_17 : decode cX11_excuse 17 = .ok (.iconst 3, 1) := by decide +kernel
theorem dX11_excuse_18 : decode cX11_excuse 18 = .ok (.if_icmp .lt 6, 3) := by decide +kernel
theorem dX11_excuse_21 : decode cX11_excuse 21 = .ok (.bipush (-2), 2) := by decide +kernel
theorem dX11_excuse_23 : decode cX11_excuse 23 = .ok (.ireturn, 1) := by decide +kernel
theorem dX11_excuse_24 : decode cX11_excuse 24 = .ok (.aload_n 3, 1) := by decide +kernel
theorem dX11_excuse_25 : decode cX11_excuse 25 = .ok (.getfield 133, 3) := by decide +kernel
theorem dX11_excuse_28 : decode cX11_excuse 28 = .ok (.istore 4, 2) := by decide +kernel
theorem dX11_excuse_30 : decode cX11_excuse 30 = .ok (.aload_n 3, 1) := by decide +kernel
theorem dX11_excuse_31 : decode cX11_excuse 31 = .ok (.iload_n 2, 1) := by decide +kernel
theorem dX11_excuse_32 : decode cX11_excuse 32 = .ok (.putfield 133, 3) := by decide +kernel
theorem dX11_excuse_35 : decode cX11_excuse 35 = .ok (.iload 4, 2) := by decide +kernel
theorem dX11_excuse_37 : decode cX11_excuse 37 = .ok (.ireturn, 1) := by decide +kernel
def f_X11_excuse (S : HSt) (a0 : Nat) (a1 : Int32) (a2 : Int32) : Option (Int32 × HSt) := if gC S a0 = some 11 then (bd2 (f_X11_tryAt S a0 a1) fun b4 S3 => oC b4 (some ((-1), S3)) fun r5 => if a2 < 0 then (some ((-2), S3)) else (if a2 < 3 then ((gIT S3 r5 8).bind fun v8 => (pVT S3 r5 8 (.int a2)).bind fun S10 => some (v8, S10)) else (some ((-2), S3)))) else none
abbrev rm_X11_excuse : Room := { frames := 1, cells := 0, slots := 0, locals := 21 }
abbrev w_X11_excuse : List Cond := Cond.code yX11_excuse cX11_excuse 5 (Option.some FieldType.int) :: lwG
theorem yd_X11_excuse : yX11_excuse.cls ≠ "java/lang/invoke/MethodHandle" ∧ yX11_excuse.cls ≠ "java/lang/invoke/VarHandle" ∧ (parseMethodDescriptor yX11_excuse.desc).map (fun d => d.parameters.length) = some 2 := by decide +kernel
theorem ye_X11_excuse : yX11_excuse.cls = RX11 ∧ yX11_excuse.cls ≠ "java/lang/invoke/MethodHandle" ∧ yX11_excuse.cls ≠ "java/lang/invoke/VarHandle" ∧ (parseMethodDescriptor yX11_excuse.desc).map (fun d => d.parameters.length) = some 2 := by decide +kernel
set_option maxHeartbeats 4000000 in
set_option maxRecDepth 100000 in
theorem c_X11_excuse (l : Launch) (D : va_G) (kA ρ : Nat → Nat) (HB : Heap) (S : HSt) (a0 : Nat) (a1 : Int32) (a2 : Int32) (res : Int32 × HSt) (h : f_X11_excuse S a0 a1 a2 = some res) : Met l yX11_excuse w_X11_excuse rm_X11_excuse (hPc D kA ρ HB S [.ref a0, .int a1, .int a2]) (hQi D kA HB S res) 0 0 (hFree HB) := by
  refine Met.ofW (cc := cX11_excuse) (maxL := 5) (ret := (Option.some FieldType.int)) (by decide) rfl ?_
  intro p e s m args below meth c s₁ B hml hv
  obtain ⟨rfl, hE, h0⟩ := hv
  have hx := B.exec
  have hb := B.bytes
  have hr := B.returns
  have hts0 := atoms_spec (ws := w_X11_excuse) B.pre
  have hts : ∀ w ∈ lwG, w.before _ s = true := fun w hw => hts0 w (List.mem_cons_of_mem _ hw)
  have hown : s.vm.findClass RX11 = some m.cls := findClass_of_methodNamed B.named
  have hlocks := B.notSynchronized
  have hI : hqX D kA HB S.2 S s.heap [] := ⟨h0, Nat.le_refl _, fun _ q => absurd q List.not_mem_nil⟩
  have hl := lv_entry ([.ref a0, .int a1, .int a2]) (n := 5) (Nat.le_of_ble_eq_true rfl)
  rw [lg_entry_eq]
  generalize (lg_sl ([.ref a0, .int a1, .int a2]) ++ List.replicate (5 - (lg_sl ([.ref a0, .int a1, .int a2])).length) Slot.unset).toArray = ls at hl ⊢
  have hl : lv_has ls 5 [(0, .ref a0), (1, .int a1), (2, .int a2)] := hl
  unfold f_X11_excuse at h
  refine lv_aload_n hx hb dX11_excuse_0 rfl (lv_at hl 0 rfl) ?_
  refine lv_iload_n hx hb dX11_excuse_1 rfl (lv_at hl 1 rfl) ?_
  obtain ⟨g2, h⟩ := hq_g h
  obtain ⟨b4, S3, g1, h⟩ := hq_bd2 h
  refine hq_callq hI (va_runV (As := [.int a1]) (rest := []) ⟨hx, hb, hml, hown, hts⟩ (c_X11_tryAt l D kA ρ HB S a0 a1 _ g1) (cwV 1 hts (gdIn (List.forall_mem_cons.mpr ⟨kw_354, (List.forall_mem_cons.mpr ⟨kw_356, (List.forall_mem_cons.mpr ⟨ks_2, (List.forall_mem_cons.mpr ⟨kw_1, (fun _ h => absurd h List.not_mem_nil)⟩)⟩)⟩)⟩) kw_357) rfl rfl rfl ye_X11_tryAt ⟨Nat.le_of_ble_eq_true rfl, Nat.le_of_ble_eq_true rfl⟩) (hq_preC hE hI g2 rfl _) rfl rfl hl.1 rfl (lv_room (Nat.le_of_ble_eq_true rfl)) dX11_excuse_2 ⟨Nat.le_of_ble_eq_true rfl, Nat.le_of_ble_eq_true rfl⟩) (fun H locs hI => ?_)
  rcases b4 with _ | r5
  · have h := oC_n h
    refine lv_astore_nN (lv' := [(3, .null), (0, .ref a0), (1, .int a1), (2, .int a2)]) hx hb dX11_excuse_5 rfl hl (by decide) rfl (fun ls hl => ?_)
    refine lv_aload_nN hx hb dX11_excuse_6 rfl (lv_at hl 0 rfl) ?_
    refine lv_ifnonnullN hx hb dX11_excuse_7 ?_
    refine lv_iconst (v := (-1)) hx hb dX11_excuse_10 (by decide) ?_
    exact hq_iret hx hb hr hlocks h0 hI h dX11_excuse_11
  · have h := oC_s h
    refine lv_astore_n (lv' := [(3, .ref r5), (0, .ref a0), (1, .int a1), (2, .int a2)]) hx hb dX11_excuse_5 rfl hl (by decide) rfl (fun ls hl => ?_)
    refine lv_aload_n hx hb dX11_excuse_6 rfl (lv_at hl 0 rfl) ?_
    refine lv_ifnonnull (tgt := 12) hx hb dX11_excuse_7 (by decide) ?_
    refine lv_iload_n hx hb dX11_excuse_12 rfl (lv_at hl 3 rfl) ?_
    refine lv_if_lt (tgt := 21) hx hb dX11_excuse_13 (by decide) (fun c6 => ?_) (fun c6 => ?_)
    · have h := hq_t h c6
      refine lv_bipush (v := (-2)) hx hb dX11_excuse_21 (by decide) ?_
      exact hq_iret hx hb hr hlocks h0 hI h dX11_excuse_23
    · have h := hq_f h c6
      refine lv_iload_n hx hb dX11_excuse_16 rfl (lv_at hl 3 rfl) ?_
      refine lv_iconst (v := 3) hx hb dX11_excuse_17 (by decide) ?_
      refine lv_icmp_lt (tgt := 24) hx hb dX11_excuse_18 (by decide) (fun c7 => ?_) (fun c7 => ?_)
      · have h := hq_t h c7
        refine lv_aload_n hx hb dX11_excuse_24 rfl (lv_at hl 0 rfl) ?_
        obtain ⟨v8, g9, h⟩ := hq_bind h
        obtain ⟨c_g9, fs_g9, hk_g9, hs_g9, hv_g9⟩ := gIT_at g9
        obtain ⟨C_g9, hc_g9, hi_g9⟩ := hKin_at hk_g9
        refine hq_getN hx hb hts hown hE hI hs_g9 hi_g9 hc_g9 8 (by decide) kn_234 hv_g9 dX11_excuse_25 ?_
        refine lv_istore (lv' := [(4, .int v8), (3, .ref r5), (0, .ref a0), (1, .int a1), (2, .int a2)]) hx hb dX11_excuse_28 hl (by decide) rfl (fun ls hl => ?_)
        refine lv_aload_n hx hb dX11_excuse_30 rfl (lv_at hl 1 rfl) ?_
        refine lv_iload_n hx hb dX11_excuse_31 rfl (lv_at hl 4 rfl) ?_
        obtain ⟨S10, g11, h⟩ := hq_bind h
        obtain ⟨c_g11, fs_g11, hk_g11, hs_g11, hl_g11, e_g11⟩ := pVT_at g11
        obtain ⟨C_g11, hc_g11, hi_g11⟩ := hKin_at hk_g11
        refine hq_putN hx hb hts hown hE hI hs_g11 hi_g11 tyX9 tyX9_ok nmX9 hc_g11 8 (by decide) kn_234 rfl (v := .int a2) rfl rfl rfl hl_g11 e_g11 dX11_excuse_32 (fun H locs hI => ?_)
        refine lv_iload hx hb dX11_excuse_35 (lv_at hl 0 rfl) ?_
        exact hq_iret hx hb hr hlocks h0 hI h dX11_excuse_37
      · have h := hq_f h c7
        refine lv_bipush (v := (-2)) hx hb dX11_excuse_21 (by decide) ?_
        exact hq_iret hx hb hr hlocks h0 hI h dX11_excuse_23
-- RodDips.of(II)I
theorem dX11_of_0 : decode cX11_of 0 = .ok (.aload_n 0, 1) := by decide +kernel
theorem dX11_of_1 : decode cX11_of 1 = .ok (.iload_n 1, 1) := by decide +kernel
theorem dX11_of_2 : decode cX11_of 2 = .ok (.invokevirtual 130, 3) := by decide +kernel
theorem dX11_of_5 : decode cX11_of 5 = .ok (.astore_n 3, 1) := by decide +kernel
theorem dX11_of_6 : decode cX11_of 6 = .ok (.aload_n 3, 1) := by decide +kernel
theorem dX11_of_7 : decode cX11_of 7 = .ok (.ifnonnull 5, 3) := by decide +kernel
theorem dX11_of_10 : decode cX11_of 10 = .ok (.iconst (-1), 1) := by decide +kernel
theorem dX11_of_11 : decode cX11_of 11 = .ok (.ireturn, 1) := by decide +kernel
theorem dX11_of_12 : decode cX11_of 12 = .ok (.iload_n 2, 1) := by decide +kernel
theorem dX11_of_13 : decode cX11_of 13 = .ok (.tableswitch 78 0 6 #[43, 48, 53, 58, 63, 68, 73], 43) := by decide +kernel
theorem dX11_of_56 : decode cX11_of 56 = .ok (.aload_n 3, 1) := by decide +kernel
theorem dX11_of_57 : decode cX11_of 57 = .ok (.getfield 106, 3) := by decide +kernel
theorem dX11_of_60 : decode cX11_of 60 = .ok (.ireturn, 1) := by decide +kernel
theorem dX11_of_61 : decode cX11_of 61 = .ok (.aload_n 3, 1) := by decide +kernel
theorem dX11_of_62 : decode cX11_of 62 = .ok (.getfield 109, 3) := by decide +kernel
theorem dX11_of_65 : decode cX11_of 65 = .ok (.ireturn, 1) := by decide +kernel
theorem dX11_of_66 : decode cX11_of 66 = .ok (.aload_n 3, 1) := by decide +kernel
theorem dX11_of_67 : decode cX11_of 67 = .ok (.getfield 112, 3) := by decide +kernel
theorem dX11_of_70 : decode cX11_of 70 = .ok (.ireturn, 1) := by decide +kernel
theorem dX11_of_71 : decode cX11_of 71 = .ok (.aload_n 3, 1) := by decide +kernel
theorem dX11_of_72 : decode cX11_of 72 = .ok (.getfield 115, 3) := by decide +kernel
theorem dX11_of_75 : decode cX11_of 75 = .ok (.ireturn, 1) := by decide +kernel
theorem dX11_of_76 : decode cX11_of 76 = .ok (.aload_n 3, 1) := by decide +kernel
theorem dX11_of_77 : decode cX11_of 77 = .ok (.getfield 118, 3) := by decide +kernel
theorem dX11_of_80 : decode cX11_of 80 = .ok (.ireturn, 1) := by decide +kernel
theorem dX11_of_81 : decode cX11_of 81 = .ok (.aload_n 3, 1) := by decide +kernel
theorem dX11_of_82 : decode cX11_of 82 = .ok (.getfield 133, 3) := by decide +kernel
theorem dX11_of_85 : decode cX11_of 85 = .ok (.ireturn, 1) := by decide +kernel
theorem dX11_of_86 : decode cX11_of 86 = .ok (.aload_n 3, 1) := by decide +kernel
theorem dX11_of_87 : decode cX11_of 87 = .ok (.getfield 127, 3) := by decide +kernel
theorem dX11_of_90 : decode cX11_of 90 = .ok (.ireturn, 1) := by decide +kernel
theorem dX11_of_91 : decode cX11_of 91 = .ok (.iconst (-1), 1) := by decide +kernel
theorem dX11_of_92 : decode cX11_of 92 = .ok (.ireturn, 1) := by decide +kernel
def f_X11_of (S : HSt) (a0 : Nat) (a1 : Int32) (a2 : Int32) : Option (Int32 × HSt) := if gC S a0 = some 11 then (bd2 (f_X11_tryAt S a0 a1) fun b4 S3 => oC b4 (some ((-1), S3)) fun r5 => if a2 = 0 then ((gIT S3 r5 2).bind fun v13 => some (v13, S3)) else (if a2 = 1 then ((gIT S3 r5 3).bind fun v15 => some (v15, S3)) else (if a2 = 2 then ((gIT S3 r5 4).bind fun v17 => some (v17, S3)) else (if a2 = 3 then ((gIT S3 r5 5).bind fun v19 => some (v19, S3)) else (if a2 = 4 then ((gIT S3 r5 6).bind fun v21 => some (v21, S3)) else (if a2 = 5 then ((gIT S3 r5 8).bind fun v23 => some (v23, S3)) else (if a2 = 6 then ((gIT S3 r5 7).bind fun v25 => some (v25, S3)) else (some ((-1), S3))))))))) else none
abbrev rm_X11_of : Room := { frames := 1, cells := 0, slots := 0, locals := 21 }
abbrev w_X11_of : List Cond := Cond.code yX11_of cX11_of 4 (Option.some FieldType.int) :: lwG
theorem yd_X11_of : yX11_of.cls ≠ "java/lang/invoke/MethodHandle" ∧ yX11_of.cls ≠ "java/lang/invoke/VarHandle" ∧ (parseMethodDescriptor yX11_of.desc).map (fun d => d.parameters.length) = some 2 := by decide +kernel
theorem ye_X11_of : yX11_of.cls = RX11 ∧ yX11_of.cls ≠ "java/lang/invoke/MethodHandle" ∧ yX11_of.cls ≠ "java/lang/invoke/VarHandle" ∧ (parseMethodDescriptor yX11_of.desc).map (fun d => d.parameters.length) = some 2 := by decide +kernel
set_option maxHeartbeats 4000000 in
set_option maxRecDepth 100000 in
theorem c_X11_of (l : Launch) (D : va_G) (kA ρ : Nat → Nat) (HB : Heap) (S : HSt) (a0 : Nat) (a1 : Int32) (a2 : Int32) (res : Int32 × HSt) (h : f_X11_of S a0 a1 a2 = some res) : Met l yX11_of w_X11_of rm_X11_of (hPc D kA ρ HB S [.ref a0, .int a1, .int a2]) (hQi D kA HB S res) 0 0 (hFree HB) := by
  refine Met.ofW (cc := cX11_of) (maxL := 4) (ret := (Option.some FieldType.int)) (by decide) rfl ?_
  intro p e s m args below meth c s₁ B hml hv
  obtain ⟨rfl, hE, h0⟩ := hv
  have hx := B.exec
  have hb := B.bytes
  have hr := B.returns
  have hts0 := atoms_spec (ws := w_X11_of) B.pre
  have hts : ∀ w ∈ lwG, w.before _ s = true := fun w hw => hts0 w (List.mem_cons_of_mem _ hw)
  have hown : s.vm.findClass RX11 = some m.cls := findClass_of_methodNamed B.named
  have hlocks := B.notSynchronized
  have hI : hqX D kA HB S.2 S s.heap [] := ⟨h0, Nat.le_refl _, fun _ q => absurd q List.not_mem_nil⟩
  have hl := lv_entry ([.ref a0, .int a1, .int a2]) (n := 4) (Nat.le_of_ble_eq_true rfl)
  rw [lg_entry_eq]
  generalize (lg_sl ([.ref a0, .int a1, .int a2]) ++ List.replicate (4 - (lg_sl ([.ref a0, .int a1, .int a2])).length) Slot.unset).toArray = ls at hl ⊢
  have hl : lv_has ls 4 [(0, .ref a0), (1, .int a1), (2, .int a2)] := hl
  unfold f_X11_of at h
  refine lv_aload_n hx hb dX11_of_0 rfl (lv_at hl 0 rfl) ?_
  refine lv_iload_n hx hb dX11_of_1 rfl (lv_at hl 1 rfl) ?_
  obtain ⟨g2, h⟩ := hq_g h
  obtain ⟨b4, S3, g1, h⟩ := hq_bd2 h
  refine hq_callq hI (va_runV (As := [.int a1]) (rest := []) ⟨hx, hb, hml, hown, hts⟩ (c_X11_tryAt l D kA ρ HB S a0 a1 _ g1) (cwV 1 hts (gdIn (List.forall_mem_cons.mpr ⟨kw_354, (List.forall_mem_cons.mpr ⟨kw_356, (List.forall_mem_cons.mpr ⟨ks_2, (List.forall_mem_cons.mpr ⟨kw_1, (fun _ h => absurd h List.not_mem_nil)⟩)⟩)⟩)⟩) kw_357) rfl rfl rfl ye_X11_tryAt ⟨Nat.le_of_ble_eq_true rfl, Nat.le_of_ble_eq_true rfl⟩) (hq_preC hE hI g2 rfl _) rfl rfl hl.1 rfl (lv_room (Nat.le_of_ble_eq_true rfl)) dX11_of_2 ⟨Nat.le_of_ble_eq_true rfl, Nat.le_of_ble_eq_true rfl⟩) (fun H locs hI => ?_)
  rcases b4 with _ | r5
  · have h := oC_n h
    refine lv_astore_nN (lv' := [(3, .null), (0, .ref a0), (1, .int a1), (2, .int a2)]) hx hb dX11_of_5 rfl hl (by decide) rfl (fun ls hl => ?_)
    refine lv_aload_nN hx hb dX11_of_6 rfl (lv_at hl 0 rfl) ?_
    refine lv_ifnonnullN hx hb dX11_of_7 ?_
    refine lv_iconst (v := (-1)) hx hb dX11_of_10 (by decide) ?_
    exact hq_iret hx hb hr hlocks h0 hI h dX11_of_11
  · have h := oC_s h
    refine lv_astore_n (lv' := [(3, .ref r5), (0, .ref a0), (1, .int a1), (2, .int a2)]) hx hb dX11_of_5 rfl hl (by decide) rfl (fun ls hl => ?_)
    refine lv_aload_n hx hb dX11_of_6 rfl (lv_at hl 0 rfl) ?_
    refine lv_ifnonnull (tgt := 12) hx hb dX11_of_7 (by decide) ?_
    refine lv_iload_n hx hb dX11_of_12 rfl (lv_at hl 3 rfl) ?_
    by_cases c6 : a2 = 0
    · have h := hq_t h c6
      refine lv_tableIn (tgt := 56) hx hb dX11_of_13 (by rw [c6]; decide) (by rw [c6]; decide) (by rw [c6]; rfl) (by decide) ?_
      refine lv_aload_n hx hb dX11_of_56 rfl (lv_at hl 0 rfl) ?_
      obtain ⟨v13, g14, h⟩ := hq_bind h
      obtain ⟨c_g14, fs_g14, hk_g14, hs_g14, hv_g14⟩ := gIT_at g14
      obtain ⟨C_g14, hc_g14, hi_g14⟩ := hKin_at hk_g14
      refine hq_getN hx hb hts hown hE hI hs_g14 hi_g14 hc_g14 2 (by decide) kn_221 hv_g14 dX11_of_57 ?_
      exact hq_iret hx hb hr hlocks h0 hI h dX11_of_60
    have h := hq_f h c6
    by_cases c7 : a2 = 1
    · have h := hq_t h c7
      refine lv_tableIn (tgt := 61) hx hb dX11_of_13 (by rw [c7]; decide) (by rw [c7]; decide) (by rw [c7]; rfl) (by decide) ?_
      refine lv_aload_n hx hb dX11_of_61 rfl (lv_at hl 0 rfl) ?_
      obtain ⟨v15, g16, h⟩ := hq_bind h
      obtain ⟨c_g16, fs_g16, hk_g16, hs_g16, hv_g16⟩ := gIT_at g16
      obtain ⟨C_g16, hc_g16, hi_g16⟩ := hKin_at hk_g16
      refine hq_getN hx hb hts hown hE hI hs_g16 hi_g16 hc_g16 3 (by decide) kn_223 hv_g16 dX11_of_62 ?_
      exact hq_iret hx hb hr hlocks h0 hI h dX11_of_65
    have h := hq_f h c7
    by_cases c8 : a2 = 2
    · have h := hq_t h c8
      refine lv_tableIn (tgt := 66) hx hb dX11_of_13 (by rw [c8]; decide) (by rw [c8]; decide) (by rw [c8]; rfl) (by decide) ?_
      refine lv_aload_n hx hb dX11_of_66 rfl (lv_at hl 0 rfl) ?_
      obtain ⟨v17, g18, h⟩ := hq_bind h
      obtain ⟨c_g18, fs_g18, hk_g18, hs_g18, hv_g18⟩ := gIT_at g18
      obtain ⟨C_g18, hc_g18, hi_g18⟩ := hKin_at hk_g18
      refine hq_getN hx hb hts hown hE hI hs_g18 hi_g18 hc_g18 4 (by decide) kn_225 hv_g18 dX11_of_67 ?_
      exact hq_iret hx hb hr hlocks h0 hI h dX11_of_70
    have h := hq_f h c8
    by_cases c9 : a2 = 3
    · have h := hq_t h c9
      refine lv_tableIn (tgt := 71) hx hb dX11_of_13 (by rw [c9]; decide) (by rw [c9]; decide) (by rw [c9]; rfl) (by decide) ?_
      refine lv_aload_n hx hb dX11_of_71 rfl (lv_at hl 0 rfl) ?_
      obtain ⟨v19, g20, h⟩ := hq_bind h
      obtain ⟨c_g20, fs_g20, hk_g20, hs_g20, hv_g20⟩ := gIT_at g20
      obtain ⟨C_g20, hc_g20, hi_g20⟩ := hKin_at hk_g20
      refine hq_getN hx hb hts hown hE hI hs_g20 hi_g20 hc_g20 5 (by decide) kn_227 hv_g20 dX11_of_72 ?_
      exact hq_iret hx hb hr hlocks h0 hI h dX11_of_75
    have h := hq_f h c9
    by_cases c10 : a2 = 4
    · have h := hq_t h c10
      refine lv_tableIn (tgt := 76) hx hb dX11_of_13 (by rw [c10]; decide) (by rw [c10]; decide) (by rw [c10]; rfl) (by decide) ?_
      refine lv_aload_n hx hb dX11_of_76 rfl (lv_at hl 0 rfl) ?_
      obtain ⟨v21, g22, h⟩ := hq_bind h
      obtain ⟨c_g22, fs_g22, hk_g22, hs_g22, hv_g22⟩ := gIT_at g22
      obtain ⟨C_g22, hc_g22, hi_g22⟩ := hKin_at hk_g22
      refine hq_getN hx hb hts hown hE hI hs_g22 hi_g22 hc_g22 6 (by decide) kn_231 hv_g22 dX11_of_77 ?_
      exact hq_iret hx hb hr hlocks h0 hI h dX11_of_80
    have h := hq_f h c10
    by_cases c11 : a2 = 5
    · have h := hq_t h c11
      refine lv_tableIn (tgt := 81) hx hb dX11_of_13 (by rw [c11]; decide) (by rw [c11]; decide) (by rw [c11]; rfl) (by decide) ?_
      refine lv_aload_n hx hb dX11_of_81 rfl (lv_at hl 0 rfl) ?_
      obtain ⟨v23, g24, h⟩ := hq_bind h
      obtain ⟨c_g24, fs_g24, hk_g24, hs_g24, hv_g24⟩ := gIT_at g24
      obtain ⟨C_g24, hc_g24, hi_g24⟩ := hKin_at hk_g24
      refine hq_getN hx hb hts hown hE hI hs_g24 hi_g24 hc_g24 8 (by decide) kn_234 hv_g24 dX11_of_82 ?_
      exact hq_iret hx hb hr hlocks h0 hI h dX11_of_85
    have h := hq_f h c11
    by_cases c12 : a2 = 6
    · have h := hq_t h c12
      refine lv_tableIn (tgt := 86) hx hb dX11_of_13 (by rw [c12]; decide) (by rw [c12]; decide) (by rw [c12]; rfl) (by decide) ?_
      refine lv_aload_n hx hb dX11_of_86 rfl (lv_at hl 0 rfl) ?_
      obtain ⟨v25, g26, h⟩ := hq_bind h
      obtain ⟨c_g26, fs_g26, hk_g26, hs_g26, hv_g26⟩ := gIT_at g26
      obtain ⟨C_g26, hc_g26, hi_g26⟩ := hKin_at hk_g26
      refine hq_getN hx hb hts hown hE hI hs_g26 hi_g26 hc_g26 7 (by decide) kn_232 hv_g26 dX11_of_87 ?_
      exact hq_iret hx hb hr hlocks h0 hI h dX11_of_90
    have h := hq_f h c12
    have t_c6 := lv_neT c6 (a := 0) (by decide)
    have t_c7 := lv_neT c7 (a := 1) (by decide)
    have t_c8 := lv_neT c8 (a := 2) (by decide)
    have t_c9 := lv_neT c9 (a := 3) (by decide)
    have t_c10 := lv_neT c10 (a := 4) (by decide)
    have t_c11 := lv_neT c11 (a := 5) (by decide)
    have t_c12 := lv_neT c12 (a := 6) (by decide)
    refine lv_tableOut (tgt := 91) hx hb dX11_of_13 (by omega) (by decide) ?_
    refine lv_iconst (v := (-1)) hx hb dX11_of_91 (by decide) ?_
    exact hq_iret hx hb hr hlocks h0 hI h dX11_of_92
-- RodDips.told(II)I
theorem dX11_told_0 : decode cX11_told 0 = .ok (.aload_n 0, 1) := by decide +kernel
theorem dX11_told_1 : decode cX11_told 1 = .ok (.iload_n 1, 1) := by decide +kernel
theorem dX11_told_2 : decode cX11_told 2 = .ok (.invokevirtual 147, 3) := by decide +kernel
theorem dX11_told_5 : decode cX11_told 5 = .ok (.astore_n 3, 1) := by decide +kernel
theorem dX11_told_6 : decode cX11_told 6 = .ok (.aload_n 3, 1) := by decide +kernel
theorem dX11_told_7 : decode cX11_told 7 = .ok (.ifnonnull 5, 3) := by decide +kernel
theorem dX11_told_10 : decode cX11_told 10 = .ok (.iconst (-1), 1) := by decide +kernel
theorem dX11_told_11 : decode cX11_told 11 = .ok (.ireturn, 1) := by decide +kernel
theorem dX11_told_12 : decode cX11_told 12 = .ok (.iload_n 2, 1) := by decide +kernel
theorem dX11_told_13 : decode cX11_told 13 = .ok (.tableswitch 53 0 3 #[31, 36, 41, 47], 31) := by decide +kernel
theorem dX11_told_44 : decode cX11_told 44 = .ok (.aload_n 3, 1) := by decide +kernel
theorem dX11_told_45 : decode cX11_told 45 = .ok (.getfield 151, 3) := by decide +kernel
theorem dX11_told_48 : decode cX11_told 48 = .ok (.ireturn, 1) := by decide +kernel
theorem dX11_told_49 : decode cX11_told 49 = .ok (.aload_n 3, 1) := by decide +kernel
theorem dX11_told_50 : decode cX11_told 50 = .ok (.getfield 154, 3) := by decide +kernel
theorem dX11_told_53 : decode cX11_told 53 = .ok (.ireturn, 1) := by decide +kernel
theorem dX11_told_54 : decode cX11_told 54 = .ok (.aload_n 0, 1) := by decide +kernel
theorem dX11_told_55 : decode cX11_told 55 = .ok (.aload_n 3, 1) := by decide +kernel
theorem dX11_told_56 : decode cX11_told 56 = .ok (.invokevirtual 157, 3) := by decide +kernel
theorem dX11_told_59 : decode cX11_told 59 = .ok (.ireturn, 1) := by decide +kernel
theorem dX11_told_60 : decode cX11_told 60 = .ok (.aload_n 0, 1) := by decide +kernel
theorem dX11_told_61 : decode cX11_told 61 = .ok (.aload_n 3, 1) := by decide +kernel
theorem dX11_told_62 : decode cX11_told 62 = .ok (.invokevirtual 160, 3) := by decide +kernel
theorem dX11_told_65 : decode cX11_told 65 = .ok (.ireturn, 1) := by decide +kernel
theorem dX11_told_66 : decode cX11_told 66 = .ok (.iconst (-1), 1) := by decide +kernel
theorem dX11_told_67 : decode cX11_told 67 = .ok (.ireturn, 1) := by decide +kernel
def f_X11_told (S : HSt) (a0 : Nat) (a1 : Int32) (a2 : Int32) : Option (Int32 × HSt) := if gC S a0 = some 11 then (bd2 (f_X11_planAt S a0 a1) fun b4 S3 => oC b4 (some ((-1), S3)) fun r5 => if a2 = 0 then ((gI S3 r5 7 8).bind fun v10 => some (v10, S3)) else (if a2 = 1 then ((gI S3 r5 7 9).bind fun v12 => some (v12, S3)) else (if a2 = 2 then (if gC S3 a0 = some 11 then (bd2 (f_X11_countedBits S3 a0 r5) fun v17 S16 => some (v17, S16)) else none) else (if a2 = 3 then (if gC S3 a0 = some 11 then (bd2 (f_X11_hitBits S3 a0 r5) fun v21 S20 => some (v21, S20)) else none) else (some ((-1), S3)))))) else none
abbrev rm_X11_told : Room := { frames := 6, cells := 0, slots := 0, locals := 143 }
abbrev w_X11_told : List Cond := Cond.code yX11_told cX11_told 4 (Option.some FieldType.int) :: lwG
theorem yd_X11_told : yX11_told.cls ≠ "java/lang/invoke/MethodHandle" ∧ yX11_told.cls ≠ "java/lang/invoke/VarHandle" ∧ (parseMethodDescriptor yX11_told.desc).map (fun d => d.parameters.length) = some 2 := by decide +kernel
theorem ye_X11_told : yX11_told.cls = RX11 ∧ yX11_told.cls ≠ "java/lang/invoke/MethodHandle" ∧ yX11_told.cls ≠ "java/lang/invoke/VarHandle" ∧ (parseMethodDescriptor yX11_told.desc).map (fun d => d.parameters.length) = some 2 := by decide +kernel
set_option maxHeartbeats 4000000 in
set_option maxRecDepth 100000 in
theorem c_X11_told (l : Launch) (D : va_G) (kA ρ : Nat → Nat) (HB : Heap) (S : HSt) (a0 : Nat) (a1 : Int32) (a2 : Int32) (res : Int32 × HSt) (h : f_X11_told S a0 a1 a2 = some res) : Met l yX11_told w_X11_told rm_X11_told (hPc D kA ρ HB S [.ref a0, .int a1, .int a2]) (hQi D kA HB S res) 0 0 (hFree HB) := by
  refine Met.ofW (cc := cX11_told) (maxL := 4) (ret := (Option.some FieldType.int)) (by decide) rfl ?_
  intro p e s m args below meth c s₁ B hml hv
  obtain ⟨rfl, hE, h0⟩ := hv
  have hx := B.exec
  have hb := B.bytes
  have hr := B.returns
  have hts0 := atoms_spec (ws := w_X11_told) B.pre
  have hts : ∀ w ∈ lwG, w.before _ s = true := fun w hw => hts0 w (List.mem_cons_of_mem _ hw)
  have hown : s.vm.findClass RX11 = some m.cls := findClass_of_methodNamed B.named
  have hlocks := B.notSynchronized
  have hI : hqX D kA HB S.2 S s.heap [] := ⟨h0, Nat.le_refl _, fun _ q => absurd q List.not_mem_nil⟩
  have hl := lv_entry ([.ref a0, .int a1, .int a2]) (n := 4) (Nat.le_of_ble_eq_true rfl)
  rw [lg_entry_eq]
  generalize (lg_sl ([.ref a0, .int a1, .int a2]) ++ List.replicate (4 - (lg_sl ([.ref a0, .int a1, .int a2])).length) Slot.unset).toArray = ls at hl ⊢
  have hl : lv_has ls 4 [(0, .ref a0), (1, .int a1), (2, .int a2)] := hl
  unfold f_X11_told at h
  refine lv_aload_n hx hb dX11_told_0 rfl (lv_at hl 0 rfl) ?_
  refine lv_iload_n hx hb dX11_told_1 rfl (lv_at hl 1 rfl) ?_
  obtain ⟨g2, h⟩ := hq_g h
  obtain ⟨b4, S3, g1, h⟩ := hq_bd2 h
  refine hq_callq hI (va_runV (As := [.int a1]) (rest := []) ⟨hx, hb, hml, hown, hts⟩ (c_X11_planAt l D kA ρ HB S a0 a1 _ g1) (cwV 1 hts (gdIn (List.forall_mem_cons.mpr ⟨kw_557, (List.forall_mem_cons.mpr ⟨kw_559, (List.forall_mem_cons.mpr ⟨ks_10, (List.forall_mem_cons.mpr ⟨kw_1, (fun _ h => absurd h List.not_mem_nil)⟩)⟩)⟩)⟩) kw_560) rfl rfl rfl ye_X11_planAt ⟨Nat.le_of_ble_eq_true rfl, Nat.le_of_ble_eq_true rfl⟩) (hq_preC hE hI g2 rfl _) rfl rfl hl.1 rfl (lv_room (Nat.le_of_ble_eq_true rfl)) dX11_told_2 ⟨Nat.le_of_ble_eq_true rfl, Nat.le_of_ble_eq_true rfl⟩) (fun H locs hI => ?_)
  rcases b4 with _ | r5
  · have h := oC_n h
    refine lv_astore_nN (lv' := [(3, .null), (0, .ref a0), (1, .int a1), (2, .int a2)]) hx hb dX11_told_5 rfl hl (by decide) rfl (fun ls hl => ?_)
    refine lv_aload_nN hx hb dX11_told_6 rfl (lv_at hl 0 rfl) ?_
    refine lv_ifnonnullN hx hb dX11_told_7 ?_
    refine lv_iconst (v := (-1)) hx hb dX11_told_10 (by decide) ?_
    exact hq_iret hx hb hr hlocks h0 hI h dX11_told_11
  · have h := oC_s h
    refine lv_astore_n (lv' := [(3, .ref r5), (0, .ref a0), (1, .int a1), (2, .int a2)]) hx hb dX11_told_5 rfl hl (by decide) rfl (fun ls hl => ?_)
    refine lv_aload_n hx hb dX11_told_6 rfl (lv_at hl 0 rfl) ?_
    refine lv_ifnonnull (tgt := 12) hx hb dX11_told_7 (by decide) ?_
    refine lv_iload_n hx hb dX11_told_12 rfl (lv_at hl 3 rfl) ?_
    by_cases c6 : a2 = 0
    · have h := hq_t h c6
      refine lv_tableIn (tgt := 44) hx hb dX11_told_13 (by rw [c6]; decide) (by rw [c6]; decide) (by rw [c6]; rfl) (by decide) ?_
      refine lv_aload_n hx hb dX11_told_44 rfl (lv_at hl 0 rfl) ?_
      obtain ⟨v10, g11, h⟩ := hq_bind h
      obtain ⟨fs_g11, hs_g11, hv_g11⟩ := gI_at g11
      refine hq_getN hx hb hts hown hE hI hs_g11 inG7 rfl 8 (by decide) kn_104 hv_g11 dX11_told_45 ?_
      exact hq_iret hx hb hr hlocks h0 hI h dX11_told_48
    have h := hq_f h c6
    by_cases c7 : a2 = 1
    · have h := hq_t h c7
      refine lv_tableIn (tgt := 49) hx hb dX11_told_13 (by rw [c7]; decide) (by rw [c7]; decide) (by rw [c7]; rfl) (by decide) ?_
      refine lv_aload_n hx hb dX11_told_49 rfl (lv_at hl 0 rfl) ?_
      obtain ⟨v12, g13, h⟩ := hq_bind h
      obtain ⟨fs_g13, hs_g13, hv_g13⟩ := gI_at g13
      refine hq_getN hx hb hts hown hE hI hs_g13 inG7 rfl 9 (by decide) kn_106 hv_g13 dX11_told_50 ?_
      exact hq_iret hx hb hr hlocks h0 hI h dX11_told_53
    have h := hq_f h c7
    by_cases c8 : a2 = 2
    · have h := hq_t h c8
      refine lv_tableIn (tgt := 54) hx hb dX11_told_13 (by rw [c8]; decide) (by rw [c8]; decide) (by rw [c8]; rfl) (by decide) ?_
      refine lv_aload_n hx hb dX11_told_54 rfl (lv_at hl 1 rfl) ?_
      refine lv_aload_n hx hb dX11_told_55 rfl (lv_at hl 0 rfl) ?_
      obtain ⟨g15, h⟩ := hq_g h
      obtain ⟨v17, S16, g14, h⟩ := hq_bd2 h
      refine hq_calli hI (va_runV (As := [.ref r5]) (rest := []) ⟨hx, hb, hml, hown, hts⟩ (c_X11_countedBits l D kA ρ HB S3 a0 r5 _ g14) (cwV 1 hts (gdIn (List.forall_mem_cons.mpr ⟨kw_561, (List.forall_mem_cons.mpr ⟨kw_563, (List.forall_mem_cons.mpr ⟨ks_11, (List.forall_mem_cons.mpr ⟨kw_1, (fun _ h => absurd h List.not_mem_nil)⟩)⟩)⟩)⟩) kw_564) rfl rfl rfl ye_X11_countedBits ⟨Nat.le_of_ble_eq_true rfl, Nat.le_of_ble_eq_true rfl⟩) (hq_preC hE hI g15 rfl _) rfl rfl hl.1 rfl (lv_room (Nat.le_of_ble_eq_true rfl)) dX11_told_56 ⟨Nat.le_of_ble_eq_true rfl, Nat.le_of_ble_eq_true rfl⟩) (fun H locs hI => ?_)
      exact hq_iret hx hb hr hlocks h0 hI h dX11_told_59
    have h := hq_f h c8
    by_cases c9 : a2 = 3
    · have h := hq_t h c9
      refine lv_tableIn (tgt := 60) hx hb dX11_told_13 (by rw [c9]; decide) (by rw [c9]; decide) (by rw [c9]; rfl) (by decide) ?_
      refine lv_aload_n hx hb dX11_told_60 rfl (lv_at hl 1 rfl) ?_
      refine lv_aload_n hx hb dX11_told_61 rfl (lv_at hl 0 rfl) ?_
      obtain ⟨g19, h⟩ := hq_g h
      obtain ⟨v21, S20, g18, h⟩ := hq_bd2 h
      refine hq_calli hI (va_runV (As := [.ref r5]) (rest := []) ⟨hx, hb, hml, hown, hts⟩ (c_X11_hitBits l D kA ρ HB S3 a0 r5 _ g18) (cwV 1 hts (gdIn (List.forall_mem_cons.mpr ⟨kw_587, (List.forall_mem_cons.mpr ⟨kw_589, (List.forall_mem_cons.mpr ⟨ks_13, (List.forall_mem_cons.mpr ⟨kw_1, (fun _ h => absurd h List.not_mem_nil)⟩)⟩)⟩)⟩) kw_590) rfl rfl rfl ye_X11_hitBits ⟨Nat.le_of_ble_eq_true rfl, Nat.le_of_ble_eq_true rfl⟩) (hq_preC hE hI g19 rfl _) rfl rfl hl.1 rfl (lv_room (Nat.le_of_ble_eq_true rfl)) dX11_told_62 ⟨Nat.le_of_ble_eq_true rfl, Nat.le_of_ble_eq_true rfl⟩) (fun H locs hI => ?_)
      exact hq_iret hx hb hr hlocks h0 hI h dX11_told_65
    have h := hq_f h c9
    have t_c6 := lv_neT c6 (a := 0) (by decide)
    have t_c7 := lv_neT c7 (a := 1) (by decide)
    have t_c8 := lv_neT c8 (a := 2) (by decide)
    have t_c9 := lv_neT c9 (a := 3) (by decide)
    refine lv_tableOut (tgt := 66) hx hb dX11_told_13 (by omega) (by decide) ?_
    refine lv_iconst (v := (-1)) hx hb dX11_told_66 (by decide) ?_
    exact hq_iret hx hb hr hlocks h0 hI h dX11_told_67
-- RodDips.passes(I)I
theorem dX11_passes_0 : decode cX11_passes 0 = .ok (.aload_n 0, 1) := by decide +kernel
theorem dX11_passes_1 : decode cX11_passes 1 = .ok (.iload_n 1, 1) := by decide +kernel
theorem dX11_passes_2 : decode cX11_passes 2 = .ok (.invokevirtual 147, 3) := by decide +kernel
theorem dX11_passes_5 : decode cX11_passes 5 = .ok (.astore_n 2, 1) := by decide +kernel
theorem dX11_passes_6 : decode cX11_passes 6 = .ok (.aload_n 2, 1) := by decide +kernel
theorem dX11_passes_7 : decode cX11_passes 7 = .ok (.ifnonnull 7, 3) := by decide +kernel
theorem dX11_passes_10 : decode cX11_passes 10 = .ok (.iconst (-1), 1) := by decide +kernel
theorem dX11_passes_11 : decode cX11_passes 11 = .ok (.goto 16, 3) := by decide +kernel
theorem dX11_passes_14 : decode cX11_passes 14 = .ok (.aload_n 0, 1) := by decide +kernel
theorem dX11_passes_15 : decode cX11_passes 15 = .ok (.aload_n 0, 1) := by decide +kernel
theorem dX11_passes_16 : decode cX11_passes 16 = .ok (.aload_n 2, 1) := by decide +kernel
theorem dX11_passes_17 : decode cX11_passes 17 = .ok (.invokevirtual 160, 3) := by decide +kernel
theorem dX11_passes_20 : decode cX11_passes 20 = .ok (.aload_n 2, 1) := by decide +kernel
theorem dX11_passes_21 : decode cX11_passes 21 = .ok (.getfield 154, 3) := by decide +kernel
theorem dX11_passes_24 : decode cX11_passes 24 = .ok (.invokevirtual 163, 3) := by decide +kernel
theorem dX11_passes_27 : decode cX11_passes 27 = .ok (.ireturn, 1) := by decide +kernel
def f_X11_passes (S : HSt) (a0 : Nat) (a1 : Int32) : Option (Int32 × HSt) := if gC S a0 = some 11 then (bd2 (f_X11_planAt S a0 a1) fun b4 S3 => oC b4 (some ((-1), S3)) fun r5 => if gC S3 a0 = some 11 then (bd2 (f_X11_hitBits S3 a0 r5) fun v9 S8 => (gI S8 r5 7 9).bind fun v10 => if gC S8 a0 = some 11 then (bd2 (f_X11_passingMen S8 a0 v9 v10) fun v15 S14 => some (v15, S14)) else none) else none) else none
abbrev rm_X11_passes : Room := { frames := 6, cells := 0, slots := 0, locals := 143 }
abbrev w_X11_passes : List Cond := Cond.code yX11_passes cX11_passes 3 (Option.some FieldType.int) :: lwG
theorem yd_X11_passes : yX11_passes.cls ≠ "java/lang/invoke/MethodHandle" ∧ yX11_passes.cls ≠ "java/lang/invoke/VarHandle" ∧ (parseMethodDescriptor yX11_passes.desc).map (fun d => d.parameters.length) = some 1 := by decide +kernel
theorem ye_X11_passes : yX11_passes.cls = RX11 ∧ yX11_passes.cls ≠ "java/lang/invoke/MethodHandle" ∧ yX11_passes.cls ≠ "java/lang/invoke/VarHandle" ∧ (parseMethodDescriptor yX11_passes.desc).map (fun d => d.parameters.length) = some 1 := by decide +kernel
set_option maxHeartbeats 4000000 in
set_option maxRecDepth 100000 in
theorem c_X11_passes (l : Launch) (D : va_G) (kA ρ : Nat → Nat) (HB : Heap) (S : HSt) (a0 : Nat) (a1 : Int32) (res : Int32 × HSt) (h : f_X11_passes S a0 a1 = some res) : Met l yX11_passes w_X11_passes rm_X11_passes (hPc D kA ρ HB S [.ref a0, .int a1]) (hQi D kA HB S res) 0 0 (hFree HB) := by
  refine Met.ofW (cc := cX11_passes) (maxL := 3) (ret := (Option.some FieldType.int)) (by decide) rfl ?_
  intro p e s m args below meth c s₁ B hml hv
  obtain ⟨rfl, hE, h0⟩ := hv
  have hx := B.exec
  have hb := B.bytes
  have hr := B.returns
  have hts0 := atoms_spec (ws := w_X11_passes) B.pre
  have hts : ∀ w ∈ lwG, w.before _ s = true := fun w hw => hts0 w (List.mem_cons_of_mem _ hw)
  have hown : s.vm.findClass RX11 = some m.cls := findClass_of_methodNamed B.named
  have hlocks := B.notSynchronized
  have hI : hqX D kA HB S.2 S s.heap [] := ⟨h0, Nat.le_refl _, fun _ q => absurd q List.not_mem_nil⟩
  have hl := lv_entry ([.ref a0, .int a1]) (n := 3) (Nat.le_of_ble_eq_true rfl)
  rw [lg_entry_eq]
  generalize (lg_sl ([.ref a0, .int a1]) ++ List.replicate (3 - (lg_sl ([.ref a0, .int a1])).length) Slot.unset).toArray = ls at hl ⊢
  have hl : lv_has ls 3 [(0, .ref a0), (1, .int a1)] := hl
  unfold f_X11_passes at h
  refine lv_aload_n hx hb dX11_passes_0 rfl (lv_at hl 0 rfl) ?_
  refine lv_iload_n hx hb dX11_passes_1 rfl (lv_at hl 1 rfl) ?_
  obtain ⟨g2, h⟩ := hq_g h
  obtain ⟨b4, S3, g1, h⟩ := hq_bd2 h
  refine hq_callq hI (va_runV (As := [.int a1]) (rest := []) ⟨hx, hb, hml, hown, hts⟩ (c_X11_planAt l D kA ρ HB S a0 a1 _ g1) (cwV 1 hts (gdIn (List.forall_mem_cons.mpr ⟨kw_557, (List.forall_mem_cons.mpr ⟨kw_559, (List.forall_mem_cons.mpr ⟨ks_10, (List.forall_mem_cons.mpr ⟨kw_1, (fun _ h => absurd h List.not_mem_nil)⟩)⟩)⟩)⟩) kw_560) rfl rfl rfl ye_X11_planAt ⟨Nat.le_of_ble_eq_true rfl, Nat.le_of_ble_eq_true rfl⟩) (hq_preC hE hI g2 rfl _) rfl rfl hl.1 rfl (lv_room (Nat.le_of_ble_eq_true rfl)) dX11_passes_2 ⟨Nat.le_of_ble_eq_true rfl, Nat.le_of_ble_eq_true rfl⟩) (fun H locs hI => ?_)
  rcases b4 with _ | r5
  · have h := oC_n h
    refine lv_astore_nN (lv' := [(2, .null), (0, .ref a0), (1, .int a1)]) hx hb dX11_passes_5 rfl hl (by decide) rfl (fun ls hl => ?_)
    refine lv_aload_nN hx hb dX11_passes_6 rfl (lv_at hl 0 rfl) ?_
    refine lv_ifnonnullN hx hb dX11_passes_7 ?_
    refine lv_iconst (v := (-1)) hx hb dX11_passes_10 (by decide) ?_
    refine lv_goto (tgt := 27) hx hb dX11_passes_11 (by decide) ?_
    exact hq_iret hx hb hr hlocks h0 hI h dX11_passes_27
  · have h := oC_s h
    refine lv_astore_n (lv' := [(2, .ref r5), (0, .ref a0), (1, .int a1)]) hx hb dX11_passes_5 rfl hl (by decide) rfl (fun ls hl => ?_)
    refine lv_aload_n hx hb dX11_passes_6 rfl (lv_at hl 0 rfl) ?_
    refine lv_ifnonnull (tgt := 14) hx hb dX11_passes_7 (by decide) ?_
    refine lv_aload_n hx hb dX11_passes_14 rfl (lv_at hl 1 rfl) ?_
    refine lv_aload_n hx hb dX11_passes_15 rfl (lv_at hl 1 rfl) ?_
    refine lv_aload_n hx hb dX11_passes_16 rfl (lv_at hl 0 rfl) ?_
    obtain ⟨g7, h⟩ := hq_g h
    obtain ⟨v9, S8, g6, h⟩ := hq_bd2 h
    refine hq_calli hI (va_runV (As := [.ref r5]) (rest := [.ref a0]) ⟨hx, hb, hml, hown, hts⟩ (c_X11_hitBits l D kA ρ HB S3 a0 r5 _ g6) (cwV 1 hts (gdIn (List.forall_mem_cons.mpr ⟨kw_587, (List.forall_mem_cons.mpr ⟨kw_589, (List.forall_mem_cons.mpr ⟨ks_13, (List.forall_mem_cons.mpr ⟨kw_1, (fun _ h => absurd h List.not_mem_nil)⟩)⟩)⟩)⟩) kw_590) rfl rfl rfl ye_X11_hitBits ⟨Nat.le_of_ble_eq_true rfl, Nat.le_of_ble_eq_true rfl⟩) (hq_preC hE hI g7 rfl _) rfl rfl hl.1 rfl (lv_room (Nat.le_of_ble_eq_true rfl)) dX11_passes_17 ⟨Nat.le_of_ble_eq_true rfl, Nat.le_of_ble_eq_true rfl⟩) (fun H locs hI => ?_)
    refine lv_aload_n hx hb dX11_passes_20 rfl (lv_at hl 0 rfl) ?_
    obtain ⟨v10, g11, h⟩ := hq_bind h
    obtain ⟨fs_g11, hs_g11, hv_g11⟩ := gI_at g11
    refine hq_getN hx hb hts hown hE hI hs_g11 inG7 rfl 9 (by decide) kn_106 hv_g11 dX11_passes_21 ?_
    obtain ⟨g13, h⟩ := hq_g h
    obtain ⟨v15, S14, g12, h⟩ := hq_bd2 h
    refine hq_calli hI (va_runV (As := [.int v9, .int v10]) (rest := []) ⟨hx, hb, hml, hown, hts⟩ (c_X11_passingMen l D kA ρ HB S8 a0 v9 v10 _ g12) (cwV 2 hts (gdIn (List.forall_mem_cons.mpr ⟨kw_599, (List.forall_mem_cons.mpr ⟨kw_601, (List.forall_mem_cons.mpr ⟨ks_15, (List.forall_mem_cons.mpr ⟨kw_1, (fun _ h => absurd h List.not_mem_nil)⟩)⟩)⟩)⟩) kw_602) rfl rfl rfl ye_X11_passingMen ⟨Nat.le_of_ble_eq_true rfl, Nat.le_of_ble_eq_true rfl⟩) (hq_preC hE hI g13 rfl _) rfl rfl hl.1 rfl (lv_room (Nat.le_of_ble_eq_true rfl)) dX11_passes_24 ⟨Nat.le_of_ble_eq_true rfl, Nat.le_of_ble_eq_true rfl⟩) (fun H locs hI => ?_)
    exact hq_iret hx hb hr hlocks h0 hI h dX11_passes_27
-- RodDips.fixed(II)I
theorem dX11_fixed_0 : decode cX11_fixed 0 = .ok (.aload_n 0, 1) := by decide +kernel
theorem dX11_fixed_1 : decode cX11_fixed 1 = .ok (.iload_n 1, 1) := by decide +kernel
theorem dX11_fixed_2 : decode cX11_fixed 2 = .ok (.invokevirtual 147, 3) := by decide +kernel
theorem dX11_fixed_5 : decode cX11_fixed 5 = .ok (.astore_n 3, 1) := by decide +kernel
theorem dX11_fixed_6 : decode cX11_fixed 6 = .ok (.aload_n 3, 1) := by decide +kernel
theorem dX11_fixed_7 : decode cX11_fixed 7 = .ok (.ifnull 10, 3) := by decide +kernel
theorem dX11_fixed_10 : decode cX11_fixed 10 = .ok (.iload_n 2, 1) := by decide +kernel
theorem dX11_fixed_11 : decode cX11_fixed 11 = .ok (.invokestatic 89, 3) := by decide +kernel
theorem dX11_fixed_14 : decode cX11_fixed 14 = .ok (.ifCond .ne 5, 3) := by decide +kernel
theorem dX11_fixed_17 : decode cX11_fixed 17 = .ok (.iconst (-1), 1) := by decide +kernel
theorem dX11_fixed_18 : decode cX11_fixed 18 = .ok (.ireturn, 1) := by decide +kernel
theorem dX11_fixed_19 : decode cX11_fixed 19 = .ok (.aload_n 0, 1) := by decide +kernel
theorem dX11_fixed_20 : decode cX11_fixed 20 = .ok (.aload_n 3, 1) := by decide +kernel
theorem dX11_fixed_21 : decode cX11_fixed 21 = .ok (.invokevirtual 157, 3) := by decide +kernel
theorem dX11_fixed_24 : decode cX11_fixed 24 = .ok (.aload_n 0, 1) := by decide +kernel
theorem dX11_fixed_25 : decode cX11_fixed 25 = .ok (.iload_n 2, 1) := by decide +kernel
theorem dX11_fixed_26 : decode cX11_fixed 26 = .ok (.invokevirtual 212, 3) := by decide +kernel
theorem dX11_fixed_29 : decode cX11_fixed 29 = .ok (.iand, 1) := by decide +kernel
theorem dX11_fixed_30 : decode cX11_fixed 30 = .ok (.istore 4, 2) := by decide +kernel
theorem dX11_fixed_32 : decode cX11_fixed 32 = .ok (.iload 4, 2) := by decide +kernel
theorem dX11_fixed_34 : decode cX11_fixed 34 = .ok (.ifCond .ne 6, 3) := by decide +kernel
theorem dX11_fixed_37 : decode cX11_fixed 37 = .ok (.bipush (-5), 2) := by decide +kernel
theorem dX11_fixed_39 : decode cX11_fixed 39 = .ok (.ireturn, 1) := by decide +kernel
theorem dX11_fixed_40 : decode cX11_fixed 40 = .ok (.iconst 0, 1) := by decide +kernel
theorem dX11_fixed_41 : decode cX11_fixed 41 = .ok (.istore 5, 2) := by decide +kernel
theorem dX11_fixed_43 : decode cX11_fixed 43 = .ok (.aload_n 0, 1) := by decide +kernel
theorem dX11_fixed_44 : decode cX11_fixed 44 = .ok (.iload 4, 2) := by decide +kernel
theorem dX11_fixed_46 : decode cX11_fixed 46 = .ok (.iconst 0, 1) := by decide +kernel
theorem dX11_fixed_47 : decode cX11_fixed 47 = .ok (.invokevirtual 215, 3) := by decide +kernel
theorem dX11_fixed_50 : decode cX11_fixed 50 = .ok (.istore 6, 2) := by decide +kernel
theorem dX11_fixed_52 : decode cX11_fixed 52 = .ok (.iconst 1, 1) := by decide +kernel
theorem dX11_fixed_53 : decode cX11_fixed 53 = .ok (.istore 7, 2) := by decide +kernel
theorem dX11_fixed_55 : decode cX11_fixed 55 = .ok (.iload 7, 2) := by decide +kernel
theorem dX11_fixed_57 : decode cX11_fixed 57 = .ok (.aload_n 0, 1) := by decide +kernel
theorem dX11_fixed_58 : decode cX11_fixed 58 = .ok (.getfield 11, 3) := by decide +kernel
theorem dX11_fixed_61 : decode cX11_fixed 61 = .ok (.if_icmp .ge 34, 3) := by decide +kernel
theorem dX11_fixed_64 : decode cX11_fixed 64 = .ok (.aload_n 0, 1) := by decide +kernel
theorem dX11_fixed_65 : decode cX11_fixed 65 = .ok (.iload 4, 2) := by decide +kernel
theorem dX11_fixed_67 : decode cX11_fixed 67 = .ok (.iload 7, 2) := by decide +kernel
theorem dX11_fixed_69 : decode cX11_fixed 69 = .ok (.invokevirtual 215, 3) := by decide +kernel
theorem dX11_fixed_72 : decode cX11_fixed 72 = .ok (.istore 8, 2) := by decide +kernel
theorem dX11_fixed_74 : decode cX11_fixed 74 = .ok (.iload 8, 2) := by decide +kernel
theorem dX11_fixed_76 : decode cX11_fixed 76 = .ok (.iload 6, 2) := by decide +kernel
theorem dX11_fixed_78 : decode cX11_fixed 78 = .ok (.if_icmp .ge 11, 3) := by decide +kernel
theorem dX11_fixed_81 : decode cX11_fixed 81 = .ok (.iload 8, 2) := by decide +kernel
theorem dX11_fixed_83 : decode cX11_fixed 83 = .ok (.istore 6, 2) := by decide +kernel
theorem dX11_fixed_85 : decode cX11_fixed 85 = .ok (.iload 7, 2) := by decide +kernel
theorem dX11_fixed_87 : decode cX11_fixed 87 = .ok (.istore 5, 2) := by decide +kernel
theorem dX11_fixed_89 : decode cX11_fixed 89 = .ok (.iinc 7 1, 3) := by decide +kernel
theorem dX11_fixed_92 : decode cX11_fixed 92 = .ok (.goto (-37), 3) := by decide +kernel
theorem dX11_fixed_95 : decode cX11_fixed 95 = .ok (.iload 5, 2) := by decide +kernel
theorem dX11_fixed_97 : decode cX11_fixed 97 = .ok (.ireturn, 1) := by decide +kernel
def f_X11_fixed_K95 (x23 : Int32) (S24 : HSt) : Option (Int32 × HSt) := some (x23, S24)
def f_X11_fixed_B55 (a0 : Nat) (v13 : Int32) (v17 : Int32) (kx95 : (Int32 → HSt → Option (Int32 × HSt))) (kb55 : (Int32 → Int32 → Int32 → HSt → Option (Int32 × HSt))) (x25 : Int32) (x26 : Int32) (x27 : Int32) (S28 : HSt) : Option (Int32 × HSt) := (gI S28 a0 11 0).bind fun v29 => if v29 ≤ x27 then (kx95 x25 S28) else (if gC S28 a0 = some 11 then (bd2 (f_X11_sumOfNears S28 a0 (v13 &&& v17) x27) fun v35 S34 => if x26 ≤ v35 then (kb55 x25 x26 (x27 + 1) S34) else (kb55 x27 v35 (x27 + 1) S34)) else none)
def f_X11_fixed_L55 (a0 : Nat) (v13 : Int32) (v17 : Int32) (kx95 : (Int32 → HSt → Option (Int32 × HSt))) : Nat → Int32 → Int32 → Int32 → HSt → Option (Int32 × HSt)
  | 0, _, _, _, _ => none
  | n + 1, x25, x26, x27, S => f_X11_fixed_B55 a0 v13 v17 kx95 (f_X11_fixed_L55 a0 v13 v17 kx95 n) x25 x26 x27 S
def f_X11_fixed (S : HSt) (a0 : Nat) (a1 : Int32) (a2 : Int32) : Option (Int32 × HSt) := if gC S a0 = some 11 then (bd2 (f_X11_planAt S a0 a1) fun b4 S3 => oC b4 (some ((-1), S3)) fun r5 => bd2 (f_X11_isMan S3 a2) fun v8 S7 => if v8 = 0 then (some ((-1), S7)) else (if gC S7 a0 = some 11 then (bd2 (f_X11_countedBits S7 a0 r5) fun v13 S12 => if gC S12 a0 = some 11 then (bd2 (f_X11_bitsOfMan S12 a0 a2) fun v17 S16 => if (v13 &&& v17) = 0 then (some ((-5), S16)) else (if gC S16 a0 = some 11 then (bd2 (f_X11_sumOfNears S16 a0 (v13 &&& v17) 0) fun v22 S21 => (f_X11_fixed_L55 a0 v13 v17 f_X11_fixed_K95 FU) 0 v22 1 S21) else none)) else none) else none)) else none
abbrev rm_X11_fixed : Room := { frames := 5, cells := 0, slots := 0, locals := 122 }
abbrev w_X11_fixed : List Cond := Cond.code yX11_fixed cX11_fixed 9 (Option.some FieldType.int) :: lwG
theorem yd_X11_fixed : yX11_fixed.cls ≠ "java/lang/invoke/MethodHandle" ∧ yX11_fixed.cls ≠ "java/lang/invoke/VarHandle" ∧ (parseMethodDescriptor yX11_fixed.desc).map (fun d => d.parameters.length) = some 2 := by decide +kernel
theorem ye_X11_fixed : yX11_fixed.cls = RX11 ∧ yX11_fixed.cls ≠ "java/lang/invoke/MethodHandle" ∧ yX11_fixed.cls ≠ "java/lang/invoke/VarHandle" ∧ (parseMethodDescriptor yX11_fixed.desc).map (fun d => d.parameters.length) = some 2 := by decide +kernel
set_option maxHeartbeats 4000000 in
set_option maxRecDepth 100000 in
theorem c_X11_fixed (l : Launch) (D : va_G) (kA ρ : Nat → Nat) (HB : Heap) (S : HSt) (a0 : Nat) (a1 : Int32) (a2 : Int32) (res : Int32 × HSt) (h : f_X11_fixed S a0 a1 a2 = some res) : Met l yX11_fixed w_X11_fixed rm_X11_fixed (hPc D kA ρ HB S [.ref a0, .int a1, .int a2]) (hQi D kA HB S res) 0 0 (hFree HB) := by
  refine Met.ofW (cc := cX11_fixed) (maxL := 9) (ret := (Option.some FieldType.int)) (by decide) rfl ?_
  intro p e s m args below meth c s₁ B hml hv
  obtain ⟨rfl, hE, h0⟩ := hv
  have hx := B.exec
  have hb := B.bytes
  have hr := B.returns
  have hts0 := atoms_spec (ws := w_X11_fixed) B.pre
  have hts : ∀ w ∈ lwG, w.before _ s = true := fun w hw => hts0 w (List.mem_cons_of_mem _ hw)
  have hown : s.vm.findClass RX11 = some m.cls := findClass_of_methodNamed B.named
  have hlocks := B.notSynchronized
  have hI : hqX D kA HB S.2 S s.heap [] := ⟨h0, Nat.le_refl _, fun _ q => absurd q List.not_mem_nil⟩
  have hl := lv_entry ([.ref a0, .int a1, .int a2]) (n := 9) (Nat.le_of_ble_eq_true rfl)
  rw [lg_entry_eq]
  generalize (lg_sl ([.ref a0, .int a1, .int a2]) ++ List.replicate (9 - (lg_sl ([.ref a0, .int a1, .int a2])).length) Slot.unset).toArray = ls at hl ⊢
  have hl : lv_has ls 9 [(0, .ref a0), (1, .int a1), (2, .int a2)] := hl
  unfold f_X11_fixed at h
  refine lv_aload_n hx hb dX11_fixed_0 rfl (lv_at hl 0 rfl) ?_
  refine lv_iload_n hx hb dX11_fixed_1 rfl (lv_at hl 1 rfl) ?_
  obtain ⟨g2, h⟩ := hq_g h
  obtain ⟨b4, S3, g1, h⟩ := hq_bd2 h
  refine hq_callq hI (va_runV (As := [.int a1]) (rest := []) ⟨hx, hb, hml, hown, hts⟩ (c_X11_planAt l D kA ρ HB S a0 a1 _ g1) (cwV 1 hts (gdIn (List.forall_mem_cons.mpr ⟨kw_557, (List.forall_mem_cons.mpr ⟨kw_559, (List.forall_mem_cons.mpr ⟨ks_10, (List.forall_mem_cons.mpr ⟨kw_1, (fun _ h => absurd h List.not_mem_nil)⟩)⟩)⟩)⟩) kw_560) rfl rfl rfl ye_X11_planAt ⟨Nat.le_of_ble_eq_true rfl, Nat.le_of_ble_eq_true rfl⟩) (hq_preC hE hI g2 rfl _) rfl rfl hl.1 rfl (lv_room (Nat.le_of_ble_eq_true rfl)) dX11_fixed_2 ⟨Nat.le_of_ble_eq_true rfl, Nat.le_of_ble_eq_true rfl⟩) (fun H locs hI => ?_)
  rcases b4 with _ | r5
  · have h := oC_n h
    refine lv_astore_nN (lv' := [(3, .null), (0, .ref a0), (1, .int a1), (2, .int a2)]) hx hb dX11_fixed_5 rfl hl (by decide) rfl (fun ls hl => ?_)
    refine lv_aload_nN hx hb dX11_fixed_6 rfl (lv_at hl 0 rfl) ?_
    refine lv_ifnullN (tgt := 17) hx hb dX11_fixed_7 (by decide) ?_
    refine lv_iconst (v := (-1)) hx hb dX11_fixed_17 (by decide) ?_
    exact hq_iret hx hb hr hlocks h0 hI h dX11_fixed_18
  · have h := oC_s h
    refine lv_astore_n (lv' := [(3, .ref r5), (0, .ref a0), (1, .int a1), (2, .int a2)]) hx hb dX11_fixed_5 rfl hl (by decide) rfl (fun ls hl => ?_)
    refine lv_aload_n hx hb dX11_fixed_6 rfl (lv_at hl 0 rfl) ?_
    refine lv_ifnull hx hb dX11_fixed_7 ?_
    refine lv_iload_n hx hb dX11_fixed_10 rfl (lv_at hl 3 rfl) ?_
    obtain ⟨v8, S7, g6, h⟩ := hq_bd2 h
    refine hq_calli hI (va_runS (As := [.int a2]) (rest := []) ⟨hx, hb, hml, hown, hts⟩ (c_X11_isMan l D kA ρ HB S3 a2 _ g6) (va_cwS 1 hts (gdIn (List.forall_mem_cons.mpr ⟨kw_195, (List.forall_mem_cons.mpr ⟨kw_196, (List.forall_mem_cons.mpr ⟨kw_1, (fun _ h => absurd h List.not_mem_nil)⟩)⟩)⟩) kw_197) rfl rfl rfl yd_X11_isMan ⟨Nat.le_of_ble_eq_true rfl, Nat.le_of_ble_eq_true rfl⟩) (hq_preS hE hI _) rfl rfl hl.1 rfl (lv_room (Nat.le_of_ble_eq_true rfl)) dX11_fixed_11 ⟨Nat.le_of_ble_eq_true rfl, Nat.le_of_ble_eq_true rfl⟩) (fun H locs hI => ?_)
    refine lv_if_ne (tgt := 19) hx hb dX11_fixed_14 (by decide) (fun c9 => ?_) (fun c9 => ?_)
    · have h := hq_f h c9
      refine lv_aload_n hx hb dX11_fixed_19 rfl (lv_at hl 1 rfl) ?_
      refine lv_aload_n hx hb dX11_fixed_20 rfl (lv_at hl 0 rfl) ?_
      obtain ⟨g11, h⟩ := hq_g h
      obtain ⟨v13, S12, g10, h⟩ := hq_bd2 h
      refine hq_calli hI (va_runV (As := [.ref r5]) (rest := []) ⟨hx, hb, hml, hown, hts⟩ (c_X11_countedBits l D kA ρ HB S7 a0 r5 _ g10) (cwV 1 hts (gdIn (List.forall_mem_cons.mpr ⟨kw_561, (List.forall_mem_cons.mpr ⟨kw_563, (List.forall_mem_cons.mpr ⟨ks_11, (List.forall_mem_cons.mpr ⟨kw_1, (fun _ h => absurd h List.not_mem_nil)⟩)⟩)⟩)⟩) kw_564) rfl rfl rfl ye_X11_countedBits ⟨Nat.le_of_ble_eq_true rfl, Nat.le_of_ble_eq_true rfl⟩) (hq_preC hE hI g11 rfl _) rfl rfl hl.1 rfl (lv_room (Nat.le_of_ble_eq_true rfl)) dX11_fixed_21 ⟨Nat.le_of_ble_eq_true rfl, Nat.le_of_ble_eq_true rfl⟩) (fun H locs hI => ?_)
      refine lv_aload_n hx hb dX11_fixed_24 rfl (lv_at hl 1 rfl) ?_
      refine lv_iload_n hx hb dX11_fixed_25 rfl (lv_at hl 3 rfl) ?_
      obtain ⟨g15, h⟩ := hq_g h
      obtain ⟨v17, S16, g14, h⟩ := hq_bd2 h
      refine hq_calli hI (va_runV (As := [.int a2]) (rest := [.int v13]) ⟨hx, hb, hml, hown, hts⟩ (c_X11_bitsOfMan l D kA ρ HB S12 a0 a2 _ g14) (cwV 1 hts (gdIn (List.forall_mem_cons.mpr ⟨kw_603, (List.forall_mem_cons.mpr ⟨kw_605, (List.forall_mem_cons.mpr ⟨ks_16, (List.forall_mem_cons.mpr ⟨kw_1, (fun _ h => absurd h List.not_mem_nil)⟩)⟩)⟩)⟩) kw_606) rfl rfl rfl ye_X11_bitsOfMan ⟨Nat.le_of_ble_eq_true rfl, Nat.le_of_ble_eq_true rfl⟩) (hq_preC hE hI g15 rfl _) rfl rfl hl.1 rfl (lv_room (Nat.le_of_ble_eq_true rfl)) dX11_fixed_26 ⟨Nat.le_of_ble_eq_true rfl, Nat.le_of_ble_eq_true rfl⟩) (fun H locs hI => ?_)
      refine lv_iand hx hb dX11_fixed_29 ?_
      refine lv_istore (lv' := [(4, .int (v13 &&& v17)), (3, .ref r5), (0, .ref a0), (1, .int a1), (2, .int a2)]) hx hb dX11_fixed_30 hl (by decide) rfl (fun ls hl => ?_)
      refine lv_iload hx hb dX11_fixed_32 (lv_at hl 0 rfl) ?_
      refine lv_if_ne (tgt := 40) hx hb dX11_fixed_34 (by decide) (fun c18 => ?_) (fun c18 => ?_)
      · have h := hq_f h c18
        refine lv_iconst (v := 0) hx hb dX11_fixed_40 (by decide) ?_
        refine lv_istore (lv' := [(5, .int 0), (4, .int (v13 &&& v17)), (3, .ref r5), (0, .ref a0), (1, .int a1), (2, .int a2)]) hx hb dX11_fixed_41 hl (by decide) rfl (fun ls hl => ?_)
        refine lv_aload_n hx hb dX11_fixed_43 rfl (lv_at hl 3 rfl) ?_
        refine lv_iload hx hb dX11_fixed_44 (lv_at hl 1 rfl) ?_
        refine lv_iconst (v := 0) hx hb dX11_fixed_46 (by decide) ?_
        obtain ⟨g20, h⟩ := hq_g h
        obtain ⟨v22, S21, g19, h⟩ := hq_bd2 h
        refine hq_calli hI (va_runV (As := [.int (v13 &&& v17), .int 0]) (rest := []) ⟨hx, hb, hml, hown, hts⟩ (c_X11_sumOfNears l D kA ρ HB S16 a0 (v13 &&& v17) 0 _ g19) (cwV 2 hts (gdIn (List.forall_mem_cons.mpr ⟨kw_689, (List.forall_mem_cons.mpr ⟨kw_691, (List.forall_mem_cons.mpr ⟨ks_22, (List.forall_mem_cons.mpr ⟨kw_1, (fun _ h => absurd h List.not_mem_nil)⟩)⟩)⟩)⟩) kw_692) rfl rfl rfl ye_X11_sumOfNears ⟨Nat.le_of_ble_eq_true rfl, Nat.le_of_ble_eq_true rfl⟩) (hq_preC hE hI g20 rfl _) rfl rfl hl.1 rfl (lv_room (Nat.le_of_ble_eq_true rfl)) dX11_fixed_47 ⟨Nat.le_of_ble_eq_true rfl, Nat.le_of_ble_eq_true rfl⟩) (fun H locs hI => ?_)
        refine lv_istore (lv' := [(6, .int v22), (5, .int 0), (4, .int (v13 &&& v17)), (3, .ref r5), (0, .ref a0), (1, .int a1), (2, .int a2)]) hx hb dX11_fixed_50 hl (by decide) rfl (fun ls hl => ?_)
        refine lv_iconst (v := 1) hx hb dX11_fixed_52 (by decide) ?_
        refine lv_istore (lv' := [(7, .int 1), (6, .int v22), (5, .int 0), (4, .int (v13 &&& v17)), (3, .ref r5), (0, .ref a0), (1, .int a1), (2, .int a2)]) hx hb dX11_fixed_53 hl (by decide) rfl (fun ls hl => ?_)
        have hK95 : ∀ (x23 : Int32) (S24 : HSt) (H : Heap) (locs : List Loc) (ls : Array Slot), f_X11_fixed_K95 x23 S24 = some res → hqX D kA HB S.2 S24 H locs → lv_has ls 9 [(5, .int x23)] → W p l e rm_X11_fixed s m ([.ref a0, .int a1, .int a2] : List Value).toArray below meth c H locs 0 0 (MQ below (hQi D kA HB S res) ([.ref a0, .int a1, .int a2] : List Value).toArray s 0 0 (hFree HB)) (F0 m 95 ls []) := by
          intro x23 S24 H locs ls h hI hl
          unfold f_X11_fixed_K95 at h
          refine lv_iload hx hb dX11_fixed_95 (lv_at hl 0 rfl) ?_
          exact hq_iret hx hb hr hlocks h0 hI h dX11_fixed_97
        have hL55 : ∀ (n55 : Nat) (x25 : Int32) (x26 : Int32) (x27 : Int32) (S28 : HSt) (H : Heap) (locs : List Loc) (ls : Array Slot), (f_X11_fixed_L55 a0 v13 v17 f_X11_fixed_K95 n55) x25 x26 x27 S28 = some res → hqX D kA HB S.2 S28 H locs → lv_has ls 9 [(0, .ref a0), (4, .int (v13 &&& v17)), (5, .int x25), (6, .int x26), (7, .int x27)] → W p l e rm_X11_fixed s m ([.ref a0, .int a1, .int a2] : List Value).toArray below meth c H locs 0 0 (MQ below (hQi D kA HB S res) ([.ref a0, .int a1, .int a2] : List Value).toArray s 0 0 (hFree HB)) (F0 m 55 ls []) := by
          intro n55
          induction n55 with
          | zero =>
            intro x25 x26 x27 S28 H locs ls h
            have h : (none : Option (Int32 × HSt)) = some res := h
            cases h
          | succ n55 ih55 =>
            intro x25 x26 x27 S28 H locs ls h hI hl
            have h : f_X11_fixed_B55 a0 v13 v17 f_X11_fixed_K95 (f_X11_fixed_L55 a0 v13 v17 f_X11_fixed_K95 n55) x25 x26 x27 S28 = some res := h
            unfold f_X11_fixed_B55 at h
            refine lv_iload hx hb dX11_fixed_55 (lv_at hl 4 rfl) ?_
            refine lv_aload_n hx hb dX11_fixed_57 rfl (lv_at hl 0 rfl) ?_
            obtain ⟨v29, g30, h⟩ := hq_bind h
            obtain ⟨fs_g30, hs_g30, hv_g30⟩ := gI_at g30
            refine hq_get hx hb hts hown hE hI hs_g30 inG11 rfl 0 (by decide) kw_132 hv_g30 dX11_fixed_58 ?_
            refine lv_icmp_ge (tgt := 95) hx hb dX11_fixed_61 (by decide) (fun c31 => ?_) (fun c31 => ?_)
            · have h := hq_t h c31
              exact hK95 x25 S28 _ _ _ h hI (lv_sub hl [2] rfl)
            · have h := hq_f h c31
              refine lv_aload_n hx hb dX11_fixed_64 rfl (lv_at hl 0 rfl) ?_
              refine lv_iload hx hb dX11_fixed_65 (lv_at hl 1 rfl) ?_
              refine lv_iload hx hb dX11_fixed_67 (lv_at hl 4 rfl) ?_
              obtain ⟨g33, h⟩ := hq_g h
              obtain ⟨v35, S34, g32, h⟩ := hq_bd2 h
              refine hq_calli hI (va_runV (As := [.int (v13 &&& v17), .int x27]) (rest := []) ⟨hx, hb, hml, hown, hts⟩ (c_X11_sumOfNears l D kA ρ HB S28 a0 (v13 &&& v17) x27 _ g32) (cwV 2 hts (gdIn (List.forall_mem_cons.mpr ⟨kw_689, (List.forall_mem_cons.mpr ⟨kw_691, (List.forall_mem_cons.mpr ⟨ks_22, (List.forall_mem_cons.mpr ⟨kw_1, (fun _ h => absurd h List.not_mem_nil)⟩)⟩)⟩)⟩) kw_692) rfl rfl rfl ye_X11_sumOfNears ⟨Nat.le_of_ble_eq_true rfl, Nat.le_of_ble_eq_true rfl⟩) (hq_preC hE hI g33 rfl _) rfl rfl hl.1 rfl (lv_room (Nat.le_of_ble_eq_true rfl)) dX11_fixed_69 ⟨Nat.le_of_ble_eq_true rfl, Nat.le_of_ble_eq_true rfl⟩) (fun H locs hI => ?_)
              refine lv_istore (lv' := [(8, .int v35), (0, .ref a0), (4, .int (v13 &&& v17)), (5, .int x25), (6, .int x26), (7, .int x27)]) hx hb dX11_fixed_72 hl (by decide) rfl (fun ls hl => ?_)
              refine lv_iload hx hb dX11_fixed_74 (lv_at hl 0 rfl) ?_
              refine lv_iload hx hb dX11_fixed_76 (lv_at hl 4 rfl) ?_
              refine lv_icmp_ge (tgt := 89) hx hb dX11_fixed_78 (by decide) (fun c36 => ?_) (fun c36 => ?_)
              · have h := hq_t h c36
                refine lv_iinc (v := (x27 + 1)) (lv' := [(7, .int (x27 + 1)), (8, .int v35), (0, .ref a0), (4, .int (v13 &&& v17)), (5, .int x25), (6, .int x26)]) hx hb dX11_fixed_89 hl (k := 5) rfl rfl (by decide) rfl (fun ls hl => ?_)
                refine lv_goto (tgt := 55) hx hb dX11_fixed_92 (by decide) ?_
                exact ih55 x25 x26 (x27 + 1) S34 _ _ _ h hI (lv_sub hl [2, 3, 4, 5, 0] rfl)
              · have h := hq_f h c36
                refine lv_iload hx hb dX11_fixed_81 (lv_at hl 0 rfl) ?_
                refine lv_istore (lv' := [(6, .int v35), (8, .int v35), (0, .ref a0), (4, .int (v13 &&& v17)), (5, .int x25), (7, .int x27)]) hx hb dX11_fixed_83 hl (by decide) rfl (fun ls hl => ?_)
                refine lv_iload hx hb dX11_fixed_85 (lv_at hl 5 rfl) ?_
                refine lv_istore (lv' := [(5, .int x27), (6, .int v35), (8, .int v35), (0, .ref a0), (4, .int (v13 &&& v17)), (7, .int x27)]) hx hb dX11_fixed_87 hl (by decide) rfl (fun ls hl => ?_)
                refine lv_iinc (v := (x27 + 1)) (lv' := [(7, .int (x27 + 1)), (5, .int x27), (6, .int v35), (8, .int v35), (0, .ref a0), (4, .int (v13 &&& v17))]) hx hb dX11_fixed_89 hl (k := 5) rfl rfl (by decide) rfl (fun ls hl => ?_)
                refine lv_goto (tgt := 55) hx hb dX11_fixed_92 (by decide) ?_
                exact ih55 x27 v35 (x27 + 1) S34 _ _ _ h hI (lv_sub hl [4, 5, 1, 2, 0] rfl)
        exact hL55 FU 0 v22 1 S21 _ _ _ h hI (lv_sub hl [5, 3, 2, 1, 0] rfl)
      · have h := hq_t h c18
        refine lv_bipush (v := (-5)) hx hb dX11_fixed_37 (by decide) ?_
        exact hq_iret hx hb hr hlocks h0 hI h dX11_fixed_39
    · have h := hq_t h c9
      refine lv_iconst (v := (-1)) hx hb dX11_fixed_17 (by decide) ?_
      exact hq_iret hx hb hr hlocks h0 hI h dX11_fixed_18
-- RodDips.beats(I)I
theorem dX11_beats_0 : decode cX11_beats 0 = .ok (.aload_n 0, 1) := by decide +kernel
theorem dX11_beats_1 : decode cX11_beats 1 = .ok (.iload_n 1, 1) := by decide +kernel
theorem dX11_beats_2 : decode cX11_beats 2 = .ok (.invokevirtual 147, 3) := by decide +kernel
theorem dX11_beats_5 : decode cX11_beats 5 = .ok (.astore_n 2, 1) := by decide +kernel
theorem dX11_beats_6 : decode cX11_beats 6 = .ok (.aload_n 2, 1) := by decide +kernel
theorem dX11_beats_7 : decode cX11_beats 7 = .ok (.ifnonnull 5, 3) := by decide +kernel
theorem dX11_beats_10 : decode cX11_beats 10 = .ok (.iconst (-1), 1) := by decide +kernel
theorem dX11_beats_11 : decode cX11_beats 11 = .ok (.ireturn, 1) := by decide +kernel
theorem dX11_beats_12 : decode cX11_beats 12 = .ok (.aload_n 0, 1) := by decide +kernel
theorem dX11_beats_13 : decode cX11_beats 13 = .ok (.aload_n 2, 1) := by decide +kernel
theorem dX11_beats_14 : decode cX11_beats 14 = .ok (.invokevirtual 157, 3) := by decide +kernel
theorem dX11_beats_17 : decode cX11_beats 17 = .ok (.istore_n 3, 1) := by decide +kernel
theorem dX11_beats_18 : decode cX11_beats 18 = .ok (.iconst 0, 1) := by decide +kernel
theorem dX11_beats_19 : decode cX11_beats 19 = .ok (.istore 4, 2) := by decide +kernel
theorem dX11_beats_21 : decode cX11_beats 21 = .ok (.iconst 0, 1) := by decide +kernel
theorem dX11_beats_22 : decode cX11_beats 22 = .ok (.istore 5, 2) := by decide +kernel
theorem dX11_beats_24 : decode cX11_beats 24 = .ok (.iload 5, 2) := by decide +kernel
theorem dX11_beats_26 : decode cX11_beats 26 = .ok (.bipush 6, 2) := by decide +kernel
theorem dX11_beats_28 : decode cX11_beats 28 = .ok (.if_icmp .ge 49, 3) := by decide +kernel
theorem dX11_beats_31 : decode cX11_beats 31 = .ok (.iload_n 3, 1) := by decide +kernel
theorem dX11_beats_32 : decode cX11_beats 32 = .ok (.aload_n 0, 1) := by decide +kernel
theorem dX11_beats_33 : decode cX11_beats 33 = .ok (.iload 5, 2) := by decide +kernel
theorem dX11_beats_35 : decode cX11_beats 35 = .ok (.invokevirtual 212, 3) := by decide +kernel
theorem dX11_beats_38 : decode cX11_beats 38 = .ok (.iand, 1) := by decide +kernel
theorem dX11_beats_39 : decode cX11_beats 39 = .ok (.istore 6, 2) := by decide +kernel
theorem dX11_beats_41 : decode cX11_beats 41 = .ok (.aload_n 0, 1) := by decide +kernel
theorem dX11_beats_42 : decode cX11_beats 42 = .ok (.iload 6, 2) := by decide +kernel
theorem dX11_beats_44 : decode cX11_beats 44 = .ok (.invokevirtual 218, 3) := by decide +kernel
theorem dX11_beats_47 : decode cX11_beats 47 = .ok (.aload_n 0, 1) := by decide +kernel
theorem dX11_beats_48 : decode cX11_beats 48 = .ok (.iload 6, 2) := by decide +kernel
theorem dX11_beats_50 : decode cX11_beats 50 = .ok (.aload_n 0, 1) := by decide +kernel
theorem dX11_beats_51 : decode cX11_beats 51 = .ok (.getfield 11, 3) := by decide +kernel
theorem dX11_beats_54 : decode cX11_beats 54 = .ok (.iconst 2, 1) := by decide +kernel
theorem dX11_beats_55 : decode cX11_beats 55 = .ok (.idiv, 1) := by decide +kernel
theorem dX11_beats_56 : decode cX11_beats 56 = .ok (.invokevirtual 215, 3) := by decide +kernel
theorem dX11_beats_59 : decode cX11_beats 59 = .ok (.if_icmp .ge 12, 3) := by decide +kernel
theorem dX11_beats_62 : decode cX11_beats 62 = .ok (.iload 4, 2) := by decide +kernel
theorem dX11_beats_64 : decode cX11_beats 64 = .ok (.iconst 1, 1) := by decide +kernel
theorem dX11_beats_65 : decode cX11_beats 65 = .ok (.iload 5, 2) := by decide +kernel
theorem dX11_beats_67 : decode cX11_beats 67 = .ok (.ishl, 1) := by decide +kernel
theorem dX11_beats_68 : decode cX11_beats 68 = .ok (.ior, 1) := by decide +kernel
theorem dX11_beats_69 : decode cX11_beats 69 = .ok (.istore 4, 2) := by decide +kernel
theorem dX11_beats_71 : decode cX11_beats 71 = .ok (.iinc 5 1, 3) := by decide +kernel
theorem dX11_beats_74 : decode cX11_beats 74 = .ok (.goto (-50), 3) := by decide +kernel
theorem dX11_beats_77 : decode cX11_beats 77 = .ok (.iload 4, 2) := by decide +kernel
theorem dX11_beats_79 : decode cX11_beats 79 = .ok (.ireturn, 1) := by decide +kernel
def f_X11_beats_K77 (x10 : Int32) (S11 : HSt) : Option (Int32 × HSt) := some (x10, S11)
def f_X11_beats_B24 (a0 : Nat) (v9 : Int32) (kx77 : (Int32 → HSt → Option (Int32 × HSt))) (kb24 : (Int32 → Int32 → HSt → Option (Int32 × HSt))) (x12 : Int32) (x13 : Int32) (S14 : HSt) : Option (Int32 × HSt) := if 6 ≤ x13 then (kx77 x12 S14) else (if gC S14 a0 = some 11 then (bd2 (f_X11_bitsOfMan S14 a0 x13) fun v19 S18 => if gC S18 a0 = some 11 then (bd2 (f_X11_sumOfOwnNears S18 a0 (v9 &&& v19)) fun v23 S22 => (gI S22 a0 11 0).bind fun v24 => if gC S22 a0 = some 11 then (bd2 (f_X11_sumOfNears S22 a0 (v9 &&& v19) (v24 / 2)) fun v29 S28 => if v29 ≤ v23 then (kb24 x12 (x13 + 1) S28) else (kb24 (x12 ||| (1 <<< (x13 &&& 31))) (x13 + 1) S28)) else none) else none) else none)
def f_X11_beats_L24 (a0 : Nat) (v9 : Int32) (kx77 : (Int32 → HSt → Option (Int32 × HSt))) : Nat → Int32 → Int32 → HSt → Option (Int32 × HSt)
  | 0, _, _, _ => none
  | n + 1, x12, x13, S => f_X11_beats_B24 a0 v9 kx77 (f_X11_beats_L24 a0 v9 kx77 n) x12 x13 S
def f_X11_beats (S : HSt) (a0 : Nat) (a1 : Int32) : Option (Int32 × HSt) := if gC S a0 = some 11 then (bd2 (f_X11_planAt S a0 a1) fun b4 S3 => oC b4 (some ((-1), S3)) fun r5 => if gC S3 a0 = some 11 then (bd2 (f_X11_countedBits S3 a0 r5) fun v9 S8 => (f_X11_beats_L24 a0 v9 f_X11_beats_K77 FU) 0 0 S8) else none) else none
abbrev rm_X11_beats : Room := { frames := 5, cells := 0, slots := 0, locals := 122 }
abbrev w_X11_beats : List Cond := Cond.code yX11_beats cX11_beats 7 (Option.some FieldType.int) :: lwG
theorem yd_X11_beats : yX11_beats.cls ≠ "java/lang/invoke/MethodHandle" ∧ yX11_beats.cls ≠ "java/lang/invoke/VarHandle" ∧ (parseMethodDescriptor yX11_beats.desc).map (fun d => d.parameters.length) = some 1 := by decide +kernel
theorem ye_X11_beats : yX11_beats.cls = RX11 ∧ yX11_beats.cls ≠ "java/lang/invoke/MethodHandle" ∧ yX11_beats.cls ≠ "java/lang/invoke/VarHandle" ∧ (parseMethodDescriptor yX11_beats.desc).map (fun d => d.parameters.length) = some 1 := by decide +kernel
set_option maxHeartbeats 4000000 in
set_option maxRecDepth 100000 in
theorem c_X11_beats (l : Launch) (D : va_G) (kA ρ : Nat → Nat) (HB : Heap) (S : HSt) (a0 : Nat) (a1 : Int32) (res : Int32 × HSt) (h : f_X11_beats S a0 a1 = some res) : Met l yX11_beats w_X11_beats rm_X11_beats (hPc D kA ρ HB S [.ref a0, .int a1]) (hQi D kA HB S res) 0 0 (hFree HB) := by
  refine Met.ofW (cc := cX11_beats) (maxL := 7) (ret := (Option.some FieldType.int)) (by decide) rfl ?_
  intro p e s m args below meth c s₁ B hml hv
  obtain ⟨rfl, hE, h0⟩ := hv
  have hx := B.exec
  have hb := B.bytes
  have hr := B.returns
  have hts0 := atoms_spec (ws := w_X11_beats) B.pre
  have hts : ∀ w ∈ lwG, w.before _ s = true := fun w hw => hts0 w (List.mem_cons_of_mem _ hw)
  have hown : s.vm.findClass RX11 = some m.cls := findClass_of_methodNamed B.named
  have hlocks := B.notSynchronized
  have hI : hqX D kA HB S.2 S s.heap [] := ⟨h0, Nat.le_refl _, fun _ q => absurd q List.not_mem_nil⟩
  have hl := lv_entry ([.ref a0, .int a1]) (n := 7) (Nat.le_of_ble_eq_true rfl)
  rw [lg_entry_eq]
  generalize (lg_sl ([.ref a0, .int a1]) ++ List.replicate (7 - (lg_sl ([.ref a0, .int a1])).length) Slot.unset).toArray = ls at hl ⊢
  have hl : lv_has ls 7 [(0, .ref a0), (1, .int a1)] := hl
  unfold f_X11_beats at h
  refine lv_aload_n hx hb dX11_beats_0 rfl (lv_at hl 0 rfl) ?_
  refine lv_iload_n hx hb dX11_beats_1 rfl (lv_at hl 1 rfl) ?_
  obtain ⟨g2, h⟩ := hq_g h
  obtain ⟨b4, S3, g1, h⟩ := hq_bd2 h
  refine hq_callq hI (va_runV (As := [.int a1]) (rest := []) ⟨hx, hb, hml, hown, hts⟩ (c_X11_planAt l D kA ρ HB S a0 a1 _ g1) (cwV 1 hts (gdIn (List.forall_mem_cons.mpr ⟨kw_557, (List.forall_mem_cons.mpr ⟨kw_559, (List.forall_mem_cons.mpr ⟨ks_10, (List.forall_mem_cons.mpr ⟨kw_1, (fun _ h => absurd h List.not_mem_nil)⟩)⟩)⟩)⟩) kw_560) rfl rfl rfl ye_X11_planAt ⟨Nat.le_of_ble_eq_true rfl, Nat.le_of_ble_eq_true rfl⟩) (hq_preC hE hI g2 rfl _) rfl rfl hl.1 rfl (lv_room (Nat.le_of_ble_eq_true rfl)) dX11_beats_2 ⟨Nat.le_of_ble_eq_true rfl, Nat.le_of_ble_eq_true rfl⟩) (fun H locs hI => ?_)
  rcases b4 with _ | r5
  · have h := oC_n h
    refine lv_astore_nN (lv' := [(2, .null), (0, .ref a0), (1, .int a1)]) hx hb dX11_beats_5 rfl hl (by decide) rfl (fun ls hl => ?_)
    refine lv_aload_nN hx hb dX11_beats_6 rfl (lv_at hl 0 rfl) ?_
    refine lv_ifnonnullN hx hb dX11_beats_7 ?_
    refine lv_iconst (v := (-1)) hx hb dX11_beats_10 (by decide) ?_
    exact hq_iret hx hb hr hlocks h0 hI h dX11_beats_11
  · have h := oC_s h
    refine lv_astore_n (lv' := [(2, .ref r5), (0, .ref a0), (1, .int a1)]) hx hb dX11_beats_5 rfl hl (by decide) rfl (fun ls hl => ?_)
    refine lv_aload_n hx hb dX11_beats_6 rfl (lv_at hl 0 rfl) ?_
    refine lv_ifnonnull (tgt := 12) hx hb dX11_beats_7 (by decide) ?_
    refine lv_aload_n hx hb dX11_beats_12 rfl (lv_at hl 1 rfl) ?_
    refine lv_aload_n hx hb dX11_beats_13 rfl (lv_at hl 0 rfl) ?_
    obtain ⟨g7, h⟩ := hq_g h
    obtain ⟨v9, S8, g6, h⟩ := hq_bd2 h
    refine hq_calli hI (va_runV (As := [.ref r5]) (rest := []) ⟨hx, hb, hml, hown, hts⟩ (c_X11_countedBits l D kA ρ HB S3 a0 r5 _ g6) (cwV 1 hts (gdIn (List.forall_mem_cons.mpr ⟨kw_561, (List.forall_mem_cons.mpr ⟨kw_563, (List.forall_mem_cons.mpr ⟨ks_11, (List.forall_mem_cons.mpr ⟨kw_1, (fun _ h => absurd h List.not_mem_nil)⟩)⟩)⟩)⟩) kw_564) rfl rfl rfl ye_X11_countedBits ⟨Nat.le_of_ble_eq_true rfl, Nat.le_of_ble_eq_true rfl⟩) (hq_preC hE hI g7 rfl _) rfl rfl hl.1 rfl (lv_room (Nat.le_of_ble_eq_true rfl)) dX11_beats_14 ⟨Nat.le_of_ble_eq_true rfl, Nat.le_of_ble_eq_true rfl⟩) (fun H locs hI => ?_)
    refine lv_istore_n (lv' := [(3, .int v9), (2, .ref r5), (0, .ref a0), (1, .int a1)]) hx hb dX11_beats_17 rfl hl (by decide) rfl (fun ls hl => ?_)
    refine lv_iconst (v := 0) hx hb dX11_beats_18 (by decide) ?_
    refine lv_istore (lv' := [(4, .int 0), (3, .int v9), (2, .ref r5), (0, .ref a0), (1, .int a1)]) hx hb dX11_beats_19 hl (by decide) rfl (fun ls hl => ?_)
    refine lv_iconst (v := 0) hx hb dX11_beats_21 (by decide) ?_
    refine lv_istore (lv' := [(5, .int 0), (4, .int 0), (3, .int v9), (2, .ref r5), (0, .ref a0), (1, .int a1)]) hx hb dX11_beats_22 hl (by decide) rfl (fun ls hl => ?_)
    have hK77 : ∀ (x10 : Int32) (S11 : HSt) (H : Heap) (locs : List Loc) (ls : Array Slot), f_X11_beats_K77 x10 S11 = some res → hqX D kA HB S.2 S11 H locs → lv_has ls 7 [(4, .int x10)] → W p l e rm_X11_beats s m ([.ref a0, .int a1] : List Value).toArray below meth c H locs 0 0 (MQ below (hQi D kA HB S res) ([.ref a0, .int a1] : List Value).toArray s 0 0 (hFree HB)) (F0 m 77 ls []) := by
      intro x10 S11 H locs ls h hI hl
      unfold f_X11_beats_K77 at h
      refine lv_iload hx hb dX11_beats_77 (lv_at hl 0 rfl) ?_
      exact hq_iret hx hb hr hlocks h0 hI h dX11_beats_79
    have hL24 : ∀ (n24 : Nat) (x12 : Int32) (x13 : Int32) (S14 : HSt) (H : Heap) (locs : List Loc) (ls : Array Slot), (f_X11_beats_L24 a0 v9 f_X11_beats_K77 n24) x12 x13 S14 = some res → hqX D kA HB S.2 S14 H locs → lv_has ls 7 [(0, .ref a0), (3, .int v9), (4, .int x12), (5, .int x13)] → W p l e rm_X11_beats s m ([.ref a0, .int a1] : List Value).toArray below meth c H locs 0 0 (MQ below (hQi D kA HB S res) ([.ref a0, .int a1] : List Value).toArray s 0 0 (hFree HB)) (F0 m 24 ls []) := by
      intro n24
      induction n24 with
      | zero =>
        intro x12 x13 S14 H locs ls h
        have h : (none : Option (Int32 × HSt)) = some res := h
        cases h
      | succ n24 ih24 =>
        intro x12 x13 S14 H locs ls h hI hl
        have h : f_X11_beats_B24 a0 v9 f_X11_beats_K77 (f_X11_beats_L24 a0 v9 f_X11_beats_K77 n24) x12 x13 S14 = some res := h
        unfold f_X11_beats_B24 at h
        refine lv_iload hx hb dX11_beats_24 (lv_at hl 3 rfl) ?_
        refine lv_bipush (v := 6) hx hb dX11_beats_26 (by decide) ?_
        refine lv_icmp_ge (tgt := 77) hx hb dX11_beats_28 (by decide) (fun c15 => ?_) (fun c15 => ?_)
        · have h := hq_t h c15
          exact hK77 x12 S14 _ _ _ h hI (lv_sub hl [2] rfl)
        · have h := hq_f h c15
          refine lv_iload_n hx hb dX11_beats_31 rfl (lv_at hl 1 rfl) ?_
          refine lv_aload_n hx hb dX11_beats_32 rfl (lv_at hl 0 rfl) ?_
          refine lv_iload hx hb dX11_beats_33 (lv_at hl 3 rfl) ?_
          obtain ⟨g17, h⟩ := hq_g h
          obtain ⟨v19, S18, g16, h⟩ := hq_bd2 h
          refine hq_calli hI (va_runV (As := [.int x13]) (rest := [.int v9]) ⟨hx, hb, hml, hown, hts⟩ (c_X11_bitsOfMan l D kA ρ HB S14 a0 x13 _ g16) (cwV 1 hts (gdIn (List.forall_mem_cons.mpr ⟨kw_603, (List.forall_mem_cons.mpr ⟨kw_605, (List.forall_mem_cons.mpr ⟨ks_16, (List.forall_mem_cons.mpr ⟨kw_1, (fun _ h => absurd h List.not_mem_nil)⟩)⟩)⟩)⟩) kw_606) rfl rfl rfl ye_X11_bitsOfMan ⟨Nat.le_of_ble_eq_true rfl, Nat.le_of_ble_eq_true rfl⟩) (hq_preC hE hI g17 rfl _) rfl rfl hl.1 rfl (lv_room (Nat.le_of_ble_eq_true rfl)) dX11_beats_35 ⟨Nat.le_of_ble_eq_true rfl, Nat.le_of_ble_eq_true rfl⟩) (fun H locs hI => ?_)
          refine lv_iand hx hb dX11_beats_38 ?_
          refine lv_istore (lv' := [(6, .int (v9 &&& v19)), (0, .ref a0), (3, .int v9), (4, .int x12), (5, .int x13)]) hx hb dX11_beats_39 hl (by decide) rfl (fun ls hl => ?_)
          refine lv_aload_n hx hb dX11_beats_41 rfl (lv_at hl 1 rfl) ?_
          refine lv_iload hx hb dX11_beats_42 (lv_at hl 0 rfl) ?_
          obtain ⟨g21, h⟩ := hq_g h
          obtain ⟨v23, S22, g20, h⟩ := hq_bd2 h
          refine hq_calli hI (va_runV (As := [.int (v9 &&& v19)]) (rest := []) ⟨hx, hb, hml, hown, hts⟩ (c_X11_sumOfOwnNears l D kA ρ HB S18 a0 (v9 &&& v19) _ g20) (cwV 1 hts (gdIn (List.forall_mem_cons.mpr ⟨kw_697, (List.forall_mem_cons.mpr ⟨kw_699, (List.forall_mem_cons.mpr ⟨ks_23, (List.forall_mem_cons.mpr ⟨kw_1, (fun _ h => absurd h List.not_mem_nil)⟩)⟩)⟩)⟩) kw_700) rfl rfl rfl ye_X11_sumOfOwnNears ⟨Nat.le_of_ble_eq_true rfl, Nat.le_of_ble_eq_true rfl⟩) (hq_preC hE hI g21 rfl _) rfl rfl hl.1 rfl (lv_room (Nat.le_of_ble_eq_true rfl)) dX11_beats_44 ⟨Nat.le_of_ble_eq_true rfl, Nat.le_of_ble_eq_true rfl⟩) (fun H locs hI => ?_)
          refine lv_aload_n hx hb dX11_beats_47 rfl (lv_at hl 1 rfl) ?_
          refine lv_iload hx hb dX11_beats_48 (lv_at hl 0 rfl) ?_
          refine lv_aload_n hx hb dX11_beats_50 rfl (lv_at hl 1 rfl) ?_
          obtain ⟨v24, g25, h⟩ := hq_bind h
          obtain ⟨fs_g25, hs_g25, hv_g25⟩ := gI_at g25
          refine hq_get hx hb hts hown hE hI hs_g25 inG11 rfl 0 (by decide) kw_132 hv_g25 dX11_beats_51 ?_
          refine lv_iconst (v := 2) hx hb dX11_beats_54 (by decide) ?_
          refine lv_idiv hx hb dX11_beats_55 (by decide) ?_
          obtain ⟨g27, h⟩ := hq_g h
          obtain ⟨v29, S28, g26, h⟩ := hq_bd2 h
          refine hq_calli hI (va_runV (As := [.int (v9 &&& v19), .int (v24 / 2)]) (rest := [.int v23]) ⟨hx, hb, hml, hown, hts⟩ (c_X11_sumOfNears l D kA ρ HB S22 a0 (v9 &&& v19) (v24 / 2) _ g26) (cwV 2 hts (gdIn (List.forall_mem_cons.mpr ⟨kw_689, (List.forall_mem_cons.mpr ⟨kw_691, (List.forall_mem_cons.mpr ⟨ks_22, (List.forall_mem_cons.mpr ⟨kw_1, (fun _ h => absurd h List.not_mem_nil)⟩)⟩)⟩)⟩) kw_692) rfl rfl rfl ye_X11_sumOfNears ⟨Nat.le_of_ble_eq_true rfl, Nat.le_of_ble_eq_true rfl⟩) (hq_preC hE hI g27 rfl _) rfl rfl hl.1 rfl (lv_room (Nat.le_of_ble_eq_true rfl)) dX11_beats_56 ⟨Nat.le_of_ble_eq_true rfl, Nat.le_of_ble_eq_true rfl⟩) (fun H locs hI => ?_)
          refine lv_icmp_ge (tgt := 71) hx hb dX11_beats_59 (by decide) (fun c30 => ?_) (fun c30 => ?_)
          · have h := hq_t h c30
            refine lv_iinc (v := (x13 + 1)) (lv' := [(5, .int (x13 + 1)), (6, .int (v9 &&& v19)), (0, .ref a0), (3, .int v9), (4, .int x12)]) hx hb dX11_beats_71 hl (k := 4) rfl rfl (by decide) rfl (fun ls hl => ?_)
            refine lv_goto (tgt := 24) hx hb dX11_beats_74 (by decide) ?_
            exact ih24 x12 (x13 + 1) S28 _ _ _ h hI (lv_sub hl [2, 3, 4, 0] rfl)
          · have h := hq_f h c30
            refine lv_iload hx hb dX11_beats_62 (lv_at hl 3 rfl) ?_
            refine lv_iconst (v := 1) hx hb dX11_beats_64 (by decide) ?_
            refine lv_iload hx hb dX11_beats_65 (lv_at hl 4 rfl) ?_
            refine lv_ishl hx hb dX11_beats_67 ?_
            refine lv_ior hx hb dX11_beats_68 ?_
            refine lv_istore (lv' := [(4, .int (x12 ||| (1 <<< (x13 &&& 31)))), (6, .int (v9 &&& v19)), (0, .ref a0), (3, .int v9), (5, .int x13)]) hx hb dX11_beats_69 hl (by decide) rfl (fun ls hl => ?_)
            refine lv_iinc (v := (x13 + 1)) (lv' := [(5, .int (x13 + 1)), (4, .int (x12 ||| (1 <<< (x13 &&& 31)))), (6, .int (v9 &&& v19)), (0, .ref a0), (3, .int v9)]) hx hb dX11_beats_71 hl (k := 4) rfl rfl (by decide) rfl (fun ls hl => ?_)
            refine lv_goto (tgt := 24) hx hb dX11_beats_74 (by decide) ?_
            exact ih24 (x12 ||| (1 <<< (x13 &&& 31))) (x13 + 1) S28 _ _ _ h hI (lv_sub hl [3, 4, 1, 0] rfl)
    exact hL24 FU 0 0 S8 _ _ _ h hI (lv_sub hl [4, 2, 1, 0] rfl)
-- RodDips.otherwise(I)I
theorem dX11_otherwise_0 : decode cX11_otherwise 0 = .ok (.aload_n 0, 1) := by decide +kernel
theorem dX11_otherwise_1 : decode cX11_otherwise 1 = .ok (.iload_n 1, 1) := by decide +kernel
theorem dX11_otherwise_2 : decode cX11_otherwise 2 = .ok (.invokevirtual 147, 3) := by decide +kernel
theorem dX11_otherwise_5 : decode cX11_otherwise 5 = .ok (.astore_n 2, 1) := by decide +kernel
theorem dX11_otherwise_6 : decode cX11_otherwise 6 = .ok (.aload_n 2, 1) := by decide +kernel
theorem dX11_otherwise_7 : decode cX11_otherwise 7 = .ok (.ifnonnull 5, 3) := by decide +kernel
theorem dX11_otherwise_10 : decode cX11_otherwise 10 = .ok (.iconst (-1), 1) := by decide +kernel
theorem dX11_otherwise_11 : decode cX11_otherwise 11 = .ok (.ireturn, 1) := by decide +kernel
theorem dX11_otherwise_12 : decode cX11_otherwise 12 = .ok (.aload_n 0, 1) := by decide +kernel
theorem dX11_otherwise_13 : decode cX11_otherwise 13 = .ok (.aload_n 2, 1) := by decide +kernel
theorem dX11_otherwise_14 : decode cX11_otherwise 14 = .ok (.invokevirtual 157, 3) := by decide +kernel
theorem dX11_otherwise_17 : decode cX11_otherwise 17 = .ok (.istore_n 3, 1) := by decide +kernel
theorem dX11_otherwise_18 : decode cX11_otherwise 18 = .ok (.iload_n 3, 1) := by decide +kernel
theorem dX11_otherwise_19 : decode cX11_otherwise 19 = .ok (.ifCond .ne 6, 3) := by decide +kernel
theorem dX11_otherwise_22 : decode cX11_otherwise 22 = .ok (.bipush (-5), 2) := by decide +kernel
theorem dX11_otherwise_24 : decode cX11_otherwise 24 = .ok (.ireturn, 1) := by decide +kernel
theorem dX11_otherwise_25 : decode cX11_otherwise 25 = .ok (.iconst 0, 1) := by decide +kernel
theorem dX11_otherwise_26 : decode cX11_otherwise 26 = .ok (.istore 4, 2) := by decide +kernel
theorem dX11_otherwise_28 : decode cX11_otherwise 28 = .ok (.aload_n 0, 1) := by decide +kernel
theorem dX11_otherwise_29 : decode cX11_otherwise 29 = .ok (.iload_n 3, 1) := by decide +kernel
theorem dX11_otherwise_30 : decode cX11_otherwise 30 = .ok (.aload_n 2, 1) := by decide +kernel
theorem dX11_otherwise_31 : decode cX11_otherwise 31 = .ok (.getfield 151, 3) := by decide +kernel
theorem dX11_otherwise_34 : decode cX11_otherwise 34 = .ok (.iconst 0, 1) := by decide +kernel
theorem dX11_otherwise_35 : decode cX11_otherwise 35 = .ok (.invokevirtual 221, 3) := by decide +kernel
theorem dX11_otherwise_38 : decode cX11_otherwise 38 = .ok (.istore 5, 2) := by decide +kernel
theorem dX11_otherwise_40 : decode cX11_otherwise 40 = .ok (.iconst 1, 1) := by decide +kernel
theorem dX11_otherwise_41 : decode cX11_otherwise 41 = .ok (.istore 6, 2) := by decide +kernel
theorem dX11_otherwise_43 : decode cX11_otherwise 43 = .ok (.iload 6, 2) := by decide +kernel
theorem dX11_otherwise_45 : decode cX11_otherwise 45 = .ok (.aload_n 0, 1) := by decide +kernel
theorem dX11_otherwise_46 : decode cX11_otherwise 46 = .ok (.getfield 11, 3) := by decide +kernel
theorem dX11_otherwise_49 : decode cX11_otherwise 49 = .ok (.if_icmp .ge 37, 3) := by decide +kernel
theorem dX11_otherwise_52 : decode cX11_otherwise 52 = .ok (.aload_n 0, 1) := by decide +kernel
theorem dX11_otherwise_53 : decode cX11_otherwise 53 = .ok (.iload_n 3, 1) := by decide +kernel
theorem dX11_otherwise_54 : decode cX11_otherwise 54 = .ok (.aload_n 2, 1) := by decide +kernel
theorem dX11_otherwise_55 : decode cX11_otherwise 55 = .ok (.getfield 151, 3) := by decide +kernel
theorem dX11_otherwise_58 : decode cX11_otherwise 58 = .ok (.iload 6, 2) := by decide +kernel
theorem dX11_otherwise_60 : decode cX11_otherwise 60 = .ok (.invokevirtual 221, 3) := by decide +kernel
theorem dX11_otherwise_63 : decode cX11_otherwise 63 = .ok (.istore 7, 2) := by decide +kernel
theorem dX11_otherwise_65 : decode cX11_otherwise 65 = .ok (.iload 7, 2) := by decide +kernel
theorem dX11_otherwise_67 : decode cX11_otherwise 67 = .ok (.iload 5, 2) := by decide +kernel
theorem dX11_otherwise_69 : decode cX11_otherwise 69 = .ok (.if_icmp .le 11, 3) := by decide +kernel
theorem dX11_otherwise_72 : decode cX11_otherwise 72 = .ok (.iload 7, 2) := by decide +kernel
theorem dX11_otherwise_74 : decode cX11_otherwise 74 = .ok (.istore 5, 2) := by decide +kernel
theorem dX11_otherwise_76 : decode cX11_otherwise 76 = .ok (.iload 6, 2) := by decide +kernel
theorem dX11_otherwise_78 : decode cX11_otherwise 78 = .ok (.istore 4, 2) := by decide +kernel
theorem dX11_otherwise_80 : decode cX11_otherwise 80 = .ok (.iinc 6 1, 3) := by decide +kernel
theorem dX11_otherwise_83 : decode cX11_otherwise 83 = .ok (.goto (-40), 3) := by decide +kernel
theorem dX11_otherwise_86 : decode cX11_otherwise 86 = .ok (.iload 4, 2) := by decide +kernel
theorem dX11_otherwise_88 : decode cX11_otherwise 88 = .ok (.ireturn, 1) := by decide +kernel
def f_X11_otherwise_K86 (x17 : Int32) (S18 : HSt) : Option (Int32 × HSt) := some (x17, S18)
def f_X11_otherwise_B43 (a0 : Nat) (r5 : Nat) (v9 : Int32) (kx86 : (Int32 → HSt → Option (Int32 × HSt))) (kb43 : (Int32 → Int32 → Int32 → HSt → Option (Int32 × HSt))) (x19 : Int32) (x20 : Int32) (x21 : Int32) (S22 : HSt) : Option (Int32 × HSt) := (gI S22 a0 11 0).bind fun v23 => if v23 ≤ x21 then (kx86 x19 S22) else ((gI S22 r5 7 8).bind fun v26 => if gC S22 a0 = some 11 then (bd2 (f_X11_hitsBySaying S22 a0 v9 v26 x21) fun v31 S30 => if v31 ≤ x20 then (kb43 x19 x20 (x21 + 1) S30) else (kb43 x21 v31 (x21 + 1) S30)) else none)
def f_X11_otherwise_L43 (a0 : Nat) (r5 : Nat) (v9 : Int32) (kx86 : (Int32 → HSt → Option (Int32 × HSt))) : Nat → Int32 → Int32 → Int32 → HSt → Option (Int32 × HSt)
  | 0, _, _, _, _ => none
  | n + 1, x19, x20, x21, S => f_X11_otherwise_B43 a0 r5 v9 kx86 (f_X11_otherwise_L43 a0 r5 v9 kx86 n) x19 x20 x21 S
def f_X11_otherwise (S : HSt) (a0 : Nat) (a1 : Int32) : Option (Int32 × HSt) := if gC S a0 = some 11 then (bd2 (f_X11_planAt S a0 a1) fun b4 S3 => oC b4 (some ((-1), S3)) fun r5 => if gC S3 a0 = some 11 then (bd2 (f_X11_countedBits S3 a0 r5) fun v9 S8 => if v9 = 0 then (some ((-5), S8)) else ((gI S8 r5 7 8).bind fun v11 => if gC S8 a0 = some 11 then (bd2 (f_X11_hitsBySaying S8 a0 v9 v11 0) fun v16 S15 => (f_X11_otherwise_L43 a0 r5 v9 f_X11_otherwise_K86 FU) 0 v16 1 S15) else none)) else none) else none
abbrev rm_X11_otherwise : Room := { frames := 5, cells := 0, slots := 0, locals := 122 }
abbrev w_X11_otherwise : List Cond := Cond.code yX11_otherwise cX11_otherwise 8 (Option.some FieldType.int) :: lwG
theorem yd_X11_otherwise : yX11_otherwise.cls ≠ "java/lang/invoke/MethodHandle" ∧ yX11_otherwise.cls ≠ "java/lang/invoke/VarHandle" ∧ (parseMethodDescriptor yX11_otherwise.desc).map (fun d => d.parameters.length) = some 1 := by decide +kernel
theorem ye_X11_otherwise : yX11_otherwise.cls = RX11 ∧ yX11_otherwise.cls ≠ "java/lang/invoke/MethodHandle" ∧ yX11_otherwise.cls ≠ "java/lang/invoke/VarHandle" ∧ (parseMethodDescriptor yX11_otherwise.desc).map (fun d => d.parameters.length) = some 1 := by decide +kernel
set_option maxHeartbeats 4000000 in
set_option maxRecDepth 100000 in
theorem c_X11_otherwise (l : Launch) (D : va_G) (kA ρ : Nat → Nat) (HB : Heap) (S : HSt) (a0 : Nat) (a1 : Int32) (res : Int32 × HSt) (h : f_X11_otherwise S a0 a1 = some res) : Met l yX11_otherwise w_X11_otherwise rm_X11_otherwise (hPc D kA ρ HB S [.ref a0, .int a1]) (hQi D kA HB S res) 0 0 (hFree HB) := by
  refine Met.ofW (cc := cX11_otherwise) (maxL := 8) (ret := (Option.some FieldType.int)) (by decide) rfl ?_
  intro p e s m args below meth c s₁ B hml hv
  obtain ⟨rfl, hE, h0⟩ := hv
  have hx := B.exec
  have hb := B.bytes
  have hr := B.returns
  have hts0 := atoms_spec (ws := w_X11_otherwise) B.pre
  have hts : ∀ w ∈ lwG, w.before _ s = true := fun w hw => hts0 w (List.mem_cons_of_mem _ hw)
  have hown : s.vm.findClass RX11 = some m.cls := findClass_of_methodNamed B.named
  have hlocks := B.notSynchronized
  have hI : hqX D kA HB S.2 S s.heap [] := ⟨h0, Nat.le_refl _, fun _ q => absurd q List.not_mem_nil⟩
  have hl := lv_entry ([.ref a0, .int a1]) (n := 8) (Nat.le_of_ble_eq_true rfl)
  rw [lg_entry_eq]
  generalize (lg_sl ([.ref a0, .int a1]) ++ List.replicate (8 - (lg_sl ([.ref a0, .int a1])).length) Slot.unset).toArray = ls at hl ⊢
  have hl : lv_has ls 8 [(0, .ref a0), (1, .int a1)] := hl
  unfold f_X11_otherwise at h
  refine lv_aload_n hx hb dX11_otherwise_0 rfl (lv_at hl 0 rfl) ?_
  refine lv_iload_n hx hb dX11_otherwise_1 rfl (lv_at hl 1 rfl) ?_
  obtain ⟨g2, h⟩ := hq_g h
  obtain ⟨b4, S3, g1, h⟩ := hq_bd2 h
  refine hq_callq hI (va_runV (As := [.int a1]) (rest := []) ⟨hx, hb, hml, hown, hts⟩ (c_X11_planAt l D kA ρ HB S a0 a1 _ g1) (cwV 1 hts (gdIn (List.forall_mem_cons.mpr ⟨kw_557, (List.forall_mem_cons.mpr ⟨kw_559, (List.forall_mem_cons.mpr ⟨ks_10, (List.forall_mem_cons.mpr ⟨kw_1, (fun _ h => absurd h List.not_mem_nil)⟩)⟩)⟩)⟩) kw_560) rfl rfl rfl ye_X11_planAt ⟨Nat.le_of_ble_eq_true rfl, Nat.le_of_ble_eq_true rfl⟩) (hq_preC hE hI g2 rfl _) rfl rfl hl.1 rfl (lv_room (Nat.le_of_ble_eq_true rfl)) dX11_otherwise_2 ⟨Nat.le_of_ble_eq_true rfl, Nat.le_of_ble_eq_true rfl⟩) (fun H locs hI => ?_)
  rcases b4 with _ | r5
  · have h := oC_n h
    refine lv_astore_nN (lv' := [(2, .null), (0, .ref a0), (1, .int a1)]) hx hb dX11_otherwise_5 rfl hl (by decide) rfl (fun ls hl => ?_)
    refine lv_aload_nN hx hb dX11_otherwise_6 rfl (lv_at hl 0 rfl) ?_
    refine lv_ifnonnullN hx hb dX11_otherwise_7 ?_
    refine lv_iconst (v := (-1)) hx hb dX11_otherwise_10 (by decide) ?_
    exact hq_iret hx hb hr hlocks h0 hI h dX11_otherwise_11
  · have h := oC_s h
    refine lv_astore_n (lv' := [(2, .ref r5), (0, .ref a0), (1, .int a1)]) hx hb dX11_otherwise_5 rfl hl (by decide) rfl (fun ls hl => ?_)
    refine lv_aload_n hx hb dX11_otherwise_6 rfl (lv_at hl 0 rfl) ?_
    refine lv_ifnonnull (tgt := 12) hx hb dX11_otherwise_7 (by decide) ?_
    refine lv_aload_n hx hb dX11_otherwise_12 rfl (lv_at hl 1 rfl) ?_
    refine lv_aload_n hx hb dX11_otherwise_13 rfl (lv_at hl 0 rfl) ?_
    obtain ⟨g7, h⟩ := hq_g h
    obtain ⟨v9, S8, g6, h⟩ := hq_bd2 h
    refine hq_calli hI (va_runV (As := [.ref r5]) (rest := []) ⟨hx, hb, hml, hown, hts⟩ (c_X11_countedBits l D kA ρ HB S3 a0 r5 _ g6) (cwV 1 hts (gdIn (List.forall_mem_cons.mpr ⟨kw_561, (List.forall_mem_cons.mpr ⟨kw_563, (List.forall_mem_cons.mpr ⟨ks_11, (List.forall_mem_cons.mpr ⟨kw_1, (fun _ h => absurd h List.not_mem_nil)⟩)⟩)⟩)⟩) kw_564) rfl rfl rfl ye_X11_countedBits ⟨Nat.le_of_ble_eq_true rfl, Nat.le_of_ble_eq_true rfl⟩) (hq_preC hE hI g7 rfl _) rfl rfl hl.1 rfl (lv_room (Nat.le_of_ble_eq_true rfl)) dX11_otherwise_14 ⟨Nat.le_of_ble_eq_true rfl, Nat.le_of_ble_eq_true rfl⟩) (fun H locs hI => ?_)
    refine lv_istore_n (lv' := [(3, .int v9), (2, .ref r5), (0, .ref a0), (1, .int a1)]) hx hb dX11_otherwise_17 rfl hl (by decide) rfl (fun ls hl => ?_)
    refine lv_iload_n hx hb dX11_otherwise_18 rfl (lv_at hl 0 rfl) ?_
    refine lv_if_ne (tgt := 25) hx hb dX11_otherwise_19 (by decide) (fun c10 => ?_) (fun c10 => ?_)
    · have h := hq_f h c10
      refine lv_iconst (v := 0) hx hb dX11_otherwise_25 (by decide) ?_
      refine lv_istore (lv' := [(4, .int 0), (3, .int v9), (2, .ref r5), (0, .ref a0), (1, .int a1)]) hx hb dX11_otherwise_26 hl (by decide) rfl (fun ls hl => ?_)
      refine lv_aload_n hx hb dX11_otherwise_28 rfl (lv_at hl 3 rfl) ?_
      refine lv_iload_n hx hb dX11_otherwise_29 rfl (lv_at hl 1 rfl) ?_
      refine lv_aload_n hx hb dX11_otherwise_30 rfl (lv_at hl 2 rfl) ?_
      obtain ⟨v11, g12, h⟩ := hq_bind h
      obtain ⟨fs_g12, hs_g12, hv_g12⟩ := gI_at g12
      refine hq_getN hx hb hts hown hE hI hs_g12 inG7 rfl 8 (by decide) kn_104 hv_g12 dX11_otherwise_31 ?_
      refine lv_iconst (v := 0) hx hb dX11_otherwise_34 (by decide) ?_
      obtain ⟨g14, h⟩ := hq_g h
      obtain ⟨v16, S15, g13, h⟩ := hq_bd2 h
      refine hq_calli hI (va_runV (As := [.int v9, .int v11, .int 0]) (rest := []) ⟨hx, hb, hml, hown, hts⟩ (c_X11_hitsBySaying l D kA ρ HB S8 a0 v9 v11 0 _ g13) (cwV 3 hts (gdIn (List.forall_mem_cons.mpr ⟨kw_705, (List.forall_mem_cons.mpr ⟨kw_707, (List.forall_mem_cons.mpr ⟨ks_24, (List.forall_mem_cons.mpr ⟨kw_1, (fun _ h => absurd h List.not_mem_nil)⟩)⟩)⟩)⟩) kw_708) rfl rfl rfl ye_X11_hitsBySaying ⟨Nat.le_of_ble_eq_true rfl, Nat.le_of_ble_eq_true rfl⟩) (hq_preC hE hI g14 rfl _) rfl rfl hl.1 rfl (lv_room (Nat.le_of_ble_eq_true rfl)) dX11_otherwise_35 ⟨Nat.le_of_ble_eq_true rfl, Nat.le_of_ble_eq_true rfl⟩) (fun H locs hI => ?_)
      refine lv_istore (lv' := [(5, .int v16), (4, .int 0), (3, .int v9), (2, .ref r5), (0, .ref a0), (1, .int a1)]) hx hb dX11_otherwise_38 hl (by decide) rfl (fun ls hl => ?_)
      refine lv_iconst (v := 1) hx hb dX11_otherwise_40 (by decide) ?_
      refine lv_istore (lv' := [(6, .int 1), (5, .int v16), (4, .int 0), (3, .int v9), (2, .ref r5), (0, .ref a0), (1, .int a1)]) hx hb dX11_otherwise_41 hl (by decide) rfl (fun ls hl => ?_)
      have hK86 : ∀ (x17 : Int32) (S18 : HSt) (H : Heap) (locs : List Loc) (ls : Array Slot), f_X11_otherwise_K86 x17 S18 = some res → hqX D kA HB S.2 S18 H locs → lv_has ls 8 [(4, .int x17)] → W p l e rm_X11_otherwise s m ([.ref a0, .int a1] : List Value).toArray below meth c H locs 0 0 (MQ below (hQi D kA HB S res) ([.ref a0, .int a1] : List Value).toArray s 0 0 (hFree HB)) (F0 m 86 ls []) := by
        intro x17 S18 H locs ls h hI hl
        unfold f_X11_otherwise_K86 at h
        refine lv_iload hx hb dX11_otherwise_86 (lv_at hl 0 rfl) ?_
        exact hq_iret hx hb hr hlocks h0 hI h dX11_otherwise_88
      have hL43 : ∀ (n43 : Nat) (x19 : Int32) (x20 : Int32) (x21 : Int32) (S22 : HSt) (H : Heap) (locs : List Loc) (ls : Array Slot), (f_X11_otherwise_L43 a0 r5 v9 f_X11_otherwise_K86 n43) x19 x20 x21 S22 = some res → hqX D kA HB S.2 S22 H locs → lv_has ls 8 [(0, .ref a0), (2, .ref r5), (3, .int v9), (4, .int x19), (5, .int x20), (6, .int x21)] → W p l e rm_X11_otherwise s m ([.ref a0, .int a1] : List Value).toArray below meth c H locs 0 0 (MQ below (hQi D kA HB S res) ([.ref a0, .int a1] : List Value).toArray s 0 0 (hFree HB)) (F0 m 43 ls []) := by
        intro n43
        induction n43 with
        | zero =>
          intro x19 x20 x21 S22 H locs ls h
          have h : (none : Option (Int32 × HSt)) = some res := h
          cases h
        | succ n43 ih43 =>
          intro x19 x20 x21 S22 H locs ls h hI hl
          have h : f_X11_otherwise_B43 a0 r5 v9 f_X11_otherwise_K86 (f_X11_otherwise_L43 a0 r5 v9 f_X11_otherwise_K86 n43) x19 x20 x21 S22 = some res := h
          unfold f_X11_otherwise_B43 at h
          refine lv_iload hx hb dX11_otherwise_43 (lv_at hl 5 rfl) ?_
          refine lv_aload_n hx hb dX11_otherwise_45 rfl (lv_at hl 0 rfl) ?_
          obtain ⟨v23, g24, h⟩ := hq_bind h
          obtain ⟨fs_g24, hs_g24, hv_g24⟩ := gI_at g24
          refine hq_get hx hb hts hown hE hI hs_g24 inG11 rfl 0 (by decide) kw_132 hv_g24 dX11_otherwise_46 ?_
          refine lv_icmp_ge (tgt := 86) hx hb dX11_otherwise_49 (by decide) (fun c25 => ?_) (fun c25 => ?_)
          · have h := hq_t h c25
            exact hK86 x19 S22 _ _ _ h hI (lv_sub hl [3] rfl)
          · have h := hq_f h c25
            refine lv_aload_n hx hb dX11_otherwise_52 rfl (lv_at hl 0 rfl) ?_
            refine lv_iload_n hx hb dX11_otherwise_53 rfl (lv_at hl 2 rfl) ?_
            refine lv_aload_n hx hb dX11_otherwise_54 rfl (lv_at hl 1 rfl) ?_
            obtain ⟨v26, g27, h⟩ := hq_bind h
            obtain ⟨fs_g27, hs_g27, hv_g27⟩ := gI_at g27
            refine hq_getN hx hb hts hown hE hI hs_g27 inG7 rfl 8 (by decide) kn_104 hv_g27 dX11_otherwise_55 ?_
            refine lv_iload hx hb dX11_otherwise_58 (lv_at hl 5 rfl) ?_
            obtain ⟨g29, h⟩ := hq_g h
            obtain ⟨v31, S30, g28, h⟩ := hq_bd2 h
            refine hq_calli hI (va_runV (As := [.int v9, .int v26, .int x21]) (rest := []) ⟨hx, hb, hml, hown, hts⟩ (c_X11_hitsBySaying l D kA ρ HB S22 a0 v9 v26 x21 _ g28) (cwV 3 hts (gdIn (List.forall_mem_cons.mpr ⟨kw_705, (List.forall_mem_cons.mpr ⟨kw_707, (List.forall_mem_cons.mpr ⟨ks_24, (List.forall_mem_cons.mpr ⟨kw_1, (fun _ h => absurd h List.not_mem_nil)⟩)⟩)⟩)⟩) kw_708) rfl rfl rfl ye_X11_hitsBySaying ⟨Nat.le_of_ble_eq_true rfl, Nat.le_of_ble_eq_true rfl⟩) (hq_preC hE hI g29 rfl _) rfl rfl hl.1 rfl (lv_room (Nat.le_of_ble_eq_true rfl)) dX11_otherwise_60 ⟨Nat.le_of_ble_eq_true rfl, Nat.le_of_ble_eq_true rfl⟩) (fun H locs hI => ?_)
            refine lv_istore (lv' := [(7, .int v31), (0, .ref a0), (2, .ref r5), (3, .int v9), (4, .int x19), (5, .int x20), (6, .int x21)]) hx hb dX11_otherwise_63 hl (by decide) rfl (fun ls hl => ?_)
            refine lv_iload hx hb dX11_otherwise_65 (lv_at hl 0 rfl) ?_
            refine lv_iload hx hb dX11_otherwise_67 (lv_at hl 5 rfl) ?_
            refine lv_icmp_le (tgt := 80) hx hb dX11_otherwise_69 (by decide) (fun c32 => ?_) (fun c32 => ?_)
            · have h := hq_t h c32
              refine lv_iinc (v := (x21 + 1)) (lv' := [(6, .int (x21 + 1)), (7, .int v31), (0, .ref a0), (2, .ref r5), (3, .int v9), (4, .int x19), (5, .int x20)]) hx hb dX11_otherwise_80 hl (k := 6) rfl rfl (by decide) rfl (fun ls hl => ?_)
              refine lv_goto (tgt := 43) hx hb dX11_otherwise_83 (by decide) ?_
              exact ih43 x19 x20 (x21 + 1) S30 _ _ _ h hI (lv_sub hl [2, 3, 4, 5, 6, 0] rfl)
            · have h := hq_f h c32
              refine lv_iload hx hb dX11_otherwise_72 (lv_at hl 0 rfl) ?_
              refine lv_istore (lv' := [(5, .int v31), (7, .int v31), (0, .ref a0), (2, .ref r5), (3, .int v9), (4, .int x19), (6, .int x21)]) hx hb dX11_otherwise_74 hl (by decide) rfl (fun ls hl => ?_)
              refine lv_iload hx hb dX11_otherwise_76 (lv_at hl 6 rfl) ?_
              refine lv_istore (lv' := [(4, .int x21), (5, .int v31), (7, .int v31), (0, .ref a0), (2, .ref r5), (3, .int v9), (6, .int x21)]) hx hb dX11_otherwise_78 hl (by decide) rfl (fun ls hl => ?_)
              refine lv_iinc (v := (x21 + 1)) (lv' := [(6, .int (x21 + 1)), (4, .int x21), (5, .int v31), (7, .int v31), (0, .ref a0), (2, .ref r5), (3, .int v9)]) hx hb dX11_otherwise_80 hl (k := 6) rfl rfl (by decide) rfl (fun ls hl => ?_)
              refine lv_goto (tgt := 43) hx hb dX11_otherwise_83 (by decide) ?_
              exact ih43 x21 v31 (x21 + 1) S30 _ _ _ h hI (lv_sub hl [4, 5, 6, 1, 2, 0] rfl)
      exact hL43 FU 0 v16 1 S15 _ _ _ h hI (lv_sub hl [5, 4, 3, 2, 1, 0] rfl)
    · have h := hq_t h c10
      refine lv_bipush (v := (-5)) hx hb dX11_otherwise_22 (by decide) ?_
      exact hq_iret hx hb hr hlocks h0 hI h dX11_otherwise_24
-- RodDips.afterwards(II)I
theorem dX11_afterwards_0 : decode cX11_afterwards 0 = .ok (.aload_n 0, 1) := by decide +kernel
theorem dX11_afterwards_1 : decode cX11_afterwards 1 = .ok (.iload_n 1, 1) := by decide +kernel
theorem dX11_afterwards_2 : decode cX11_afterwards 2 = .ok (.invokevirtual 147, 3) := by decide +kernel
theorem dX11_afterwards_5 : decode cX11_afterwards 5 = .ok (.astore_n 3, 1) := by decide +kernel
theorem dX11_afterwards_6 : decode cX11_afterwards 6 = .ok (.aload_n 3, 1) := by decide +kernel
theorem dX11_afterwards_7 : decode cX11_afterwards 7 = .ok (.ifnull 10, 3) := by decide +kernel
theorem dX11_afterwards_10 : decode cX11_afterwards 10 = .ok (.iload_n 2, 1) := by decide +kernel
theorem dX11_afterwards_11 : decode cX11_afterwards 11 = .ok (.invokestatic 89, 3) := by decide +kernel
theorem dX11_afterwards_14 : decode cX11_afterwards 14 = .ok (.ifCond .ne 5, 3) := by decide +kernel
theorem dX11_afterwards_17 : decode cX11_afterwards 17 = .ok (.iconst (-1), 1) := by decide +kernel
theorem dX11_afterwards_18 : decode cX11_afterwards 18 = .ok (.ireturn, 1) := by decide +kernel
theorem dX11_afterwards_19 : decode cX11_afterwards 19 = .ok (.aload_n 0, 1) := by decide +kernel
theorem dX11_afterwards_20 : decode cX11_afterwards 20 = .ok (.aload_n 3, 1) := by decide +kernel
theorem dX11_afterwards_21 : decode cX11_afterwards 21 = .ok (.invokevirtual 157, 3) := by decide +kernel
theorem dX11_afterwards_24 : decode cX11_afterwards 24 = .ok (.aload_n 0, 1) := by decide +kernel
theorem dX11_afterwards_25 : decode cX11_afterwards 25 = .ok (.iload_n 2, 1) := by decide +kernel
theorem dX11_afterwards_26 : decode cX11_afterwards 26 = .ok (.invokevirtual 212, 3) := by decide +kernel
theorem dX11_afterwards_29 : decode cX11_afterwards 29 = .ok (.iand, 1) := by decide +kernel
theorem dX11_afterwards_30 : decode cX11_afterwards 30 = .ok (.istore 4, 2) := by decide +kernel
theorem dX11_afterwards_32 : decode cX11_afterwards 32 = .ok (.iload 4, 2) := by decide +kernel
theorem dX11_afterwards_34 : decode cX11_afterwards 34 = .ok (.ifCond .eq 13, 3) := by decide +kernel
theorem dX11_afterwards_37 : decode cX11_afterwards 37 = .ok (.iload 4, 2) := by decide +kernel
theorem dX11_afterwards_39 : decode cX11_afterwards 39 = .ok (.invokestatic 185, 3) := by decide +kernel
theorem dX11_afterwards_42 : decode cX11_afterwards 42 = .ok (.bipush 9, 2) := by decide +kernel
theorem dX11_afterwards_44 : decode cX11_afterwards 44 = .ok (.if_icmp .le 6, 3) := by decide +kernel
theorem dX11_afterwards_47 : decode cX11_afterwards 47 = .ok (.bipush (-5), 2) := by decide +kernel
theorem dX11_afterwards_49 : decode cX11_afterwards 49 = .ok (.ireturn, 1) := by decide +kernel
theorem dX11_afterwards_50 : decode cX11_afterwards 50 = .ok (.iconst 0, 1) := by decide +kernel
theorem dX11_afterwards_51 : decode cX11_afterwards 51 = .ok (.istore 5, 2) := by decide +kernel
theorem dX11_afterwards_53 : decode cX11_afterwards 53 = .ok (.aload_n 0, 1) := by decide +kernel
theorem dX11_afterwards_54 : decode cX11_afterwards 54 = .ok (.iload 4, 2) := by decide +kernel
theorem dX11_afterwards_56 : decode cX11_afterwards 56 = .ok (.iconst 0, 1) := by decide +kernel
theorem dX11_afterwards_57 : decode cX11_afterwards 57 = .ok (.invokevirtual 225, 3) := by decide +kernel
theorem dX11_afterwards_60 : decode cX11_afterwards 60 = .ok (.lstore 6, 2) := by decide +kernel
theorem dX11_afterwards_62 : decode cX11_afterwards 62 = .ok (.iconst 1, 1) := by decide +kernel
theorem dX11_afterwards_63 : decode cX11_afterwards 63 = .ok (.istore 8, 2) := by decide +kernel
theorem dX11_afterwards_65 : decode cX11_afterwards 65 = .ok (.iload 8, 2) := by decide +kernel
theorem dX11_afterwards_67 : decode cX11_afterwards 67 = .ok (.bipush 9, 2) := by decide +kernel
theorem dX11_afterwards_69 : decode cX11_afterwards 69 = .ok (.if_icmp .gt 35, 3) := by decide +kernel
theorem dX11_afterwards_72 : decode cX11_afterwards 72 = .ok (.aload_n 0, 1) := by decide +kernel
theorem dX11_afterwards_73 : decode cX11_afterwards 73 = .ok (.iload 4, 2) := by decide +kernel
theorem dX11_afterwards_75 : decode cX11_afterwards 75 = .ok (.iload 8, 2) := by decide +kernel
theorem dX11_afterwards_77 : decode cX11_afterwards 77 = .ok (.invokevirtual 225, 3) := by decide +kernel
theorem dX11_afterwards_80 : decode cX11_afterwards 80 = .ok (.lstore 9, 2) := by decide +kernel
theorem dX11_afterwards_82 : decode cX11_afterwards 82 = .ok (.lload 9, 2) := by decide +kernel
theorem dX11_afterwards_84 : decode cX11_afterwards 84 = .ok (.lload 6, 2) := by decide +kernel
theorem dX11_afterwards_86 : decode cX11_afterwards 86 = .ok (.lcmp, 1) := by decide +kernel
theorem dX11_afterwards_87 : decode cX11_afterwards 87 = .ok (.ifCond .ge 11, 3) := by decide +kernel
theorem dX11_afterwards_90 : decode cX11_afterwards 90 = .ok (.lload 9, 2) := by decide +kernel
theorem dX11_afterwards_92 : decode cX11_afterwards 92 = .ok (.lstore 6, 2) := by decide +kernel
theorem dX11_afterwards_94 : decode cX11_afterwards 94 = .ok (.iload 8, 2) := by decide +kernel
theorem dX11_afterwards_96 : decode cX11_afterwards 96 = .ok (.istore 5, 2) := by decide +kernel
theorem dX11_afterwards_98 : decode cX11_afterwards 98 = .ok (.iinc 8 1, 3) := by decide +kernel
theorem dX11_afterwards_101 : decode cX11_afterwards 101 = .ok (.goto (-36), 3) := by decide +kernel
theorem dX11_afterwards_104 : decode cX11_afterwards 104 = .ok (.iload 5, 2) := by decide +kernel
theorem dX11_afterwards_106 : decode cX11_afterwards 106 = .ok (.ireturn, 1) := by decide +kernel
def f_X11_afterwards_K104 (x27 : Int32) (S28 : HSt) : Option (Int32 × HSt) := some (x27, S28)
def f_X11_afterwards_B65 (a0 : Nat) (v13 : Int32) (v17 : Int32) (kx104 : (Int32 → HSt → Option (Int32 × HSt))) (kb65 : (Int32 → Int64 → Int32 → HSt → Option (Int32 × HSt))) (x29 : Int32) (x30 : Int64) (x31 : Int32) (S32 : HSt) : Option (Int32 × HSt) := if 9 < x31 then (kx104 x29 S32) else (if gC S32 a0 = some 11 then (bd2 (f_X11_waysAsGood S32 a0 (v13 &&& v17) x31) fun v37 S36 => if 0 ≤ (lg_cmp v37 x30) then (kb65 x29 x30 (x31 + 1) S36) else (kb65 x31 v37 (x31 + 1) S36)) else none)
def f_X11_afterwards_L65 (a0 : Nat) (v13 : Int32) (v17 : Int32) (kx104 : (Int32 → HSt → Option (Int32 × HSt))) : Nat → Int32 → Int64 → Int32 → HSt → Option (Int32 × HSt)
  | 0, _, _, _, _ => none
  | n + 1, x29, x30, x31, S => f_X11_afterwards_B65 a0 v13 v17 kx104 (f_X11_afterwards_L65 a0 v13 v17 kx104 n) x29 x30 x31 S
def f_X11_afterwards (S : HSt) (a0 : Nat) (a1 : Int32) (a2 : Int32) : Option (Int32 × HSt) := if gC S a0 = some 11 then (bd2 (f_X11_planAt S a0 a1) fun b4 S3 => oC b4 (some ((-1), S3)) fun r5 => bd2 (f_X11_isMan S3 a2) fun v8 S7 => if v8 = 0 then (some ((-1), S7)) else (if gC S7 a0 = some 11 then (bd2 (f_X11_countedBits S7 a0 r5) fun v13 S12 => if gC S12 a0 = some 11 then (bd2 (f_X11_bitsOfMan S12 a0 a2) fun v17 S16 => if (v13 &&& v17) = 0 then (some ((-5), S16)) else (bd2 (f_J6_bitCount_0f7a4 S16 (v13 &&& v17)) fun v21 S20 => if v21 ≤ 9 then (if gC S20 a0 = some 11 then (bd2 (f_X11_waysAsGood S20 a0 (v13 &&& v17) 0) fun v26 S25 => (f_X11_afterwards_L65 a0 v13 v17 f_X11_afterwards_K104 FU) 0 v26 1 S25) else none) else (some ((-5), S20)))) else none) else none)) else none
abbrev rm_X11_afterwards : Room := { frames := 5, cells := 0, slots := 0, locals := 122 }
abbrev w_X11_afterwards : List Cond := Cond.code yX11_afterwards cX11_afterwards 11 (Option.some FieldType.int) :: lwG
theorem yd_X11_afterwards : yX11_afterwards.cls ≠ "java/lang/invoke/MethodHandle" ∧ yX11_afterwards.cls ≠ "java/lang/invoke/VarHandle" ∧ (parseMethodDescriptor yX11_afterwards.desc).map (fun d => d.parameters.length) = some 2 := by decide +kernel
theorem ye_X11_afterwards : yX11_afterwards.cls = RX11 ∧ yX11_afterwards.cls ≠ "java/lang/invoke/MethodHandle" ∧ yX11_afterwards.cls ≠ "java/lang/invoke/VarHandle" ∧ (parseMethodDescriptor yX11_afterwards.desc).map (fun d => d.parameters.length) = some 2 := by decide +kernel
set_option maxHeartbeats 4000000 in
set_option maxRecDepth 100000 in
theorem c_X11_afterwards (l : Launch) (D : va_G) (kA ρ : Nat → Nat) (HB : Heap) (S : HSt) (a0 : Nat) (a1 : Int32) (a2 : Int32) (res : Int32 × HSt) (h : f_X11_afterwards S a0 a1 a2 = some res) : Met l yX11_afterwards w_X11_afterwards rm_X11_afterwards (hPc D kA ρ HB S [.ref a0, .int a1, .int a2]) (hQi D kA HB S res) 0 0 (hFree HB) := by
  refine Met.ofW (cc := cX11_afterwards) (maxL := 11) (ret := (Option.some FieldType.int)) (by decide) rfl ?_
  intro p e s m args below meth c s₁ B hml hv
  obtain ⟨rfl, hE, h0⟩ := hv
  have hx := B.exec
  have hb := B.bytes
  have hr := B.returns
  have hts0 := atoms_spec (ws := w_X11_afterwards) B.pre
  have hts : ∀ w ∈ lwG, w.before _ s = true := fun w hw => hts0 w (List.mem_cons_of_mem _ hw)
  have hown : s.vm.findClass RX11 = some m.cls := findClass_of_methodNamed B.named
  have hlocks := B.notSynchronized
  have hI : hqX D kA HB S.2 S s.heap [] := ⟨h0, Nat.le_refl _, fun _ q => absurd q List.not_mem_nil⟩
  have hl := lv_entry ([.ref a0, .int a1, .int a2]) (n := 11) (Nat.le_of_ble_eq_true rfl)
  rw [lg_entry_eq]
  generalize (lg_sl ([.ref a0, .int a1, .int a2]) ++ List.replicate (11 - (lg_sl ([.ref a0, .int a1, .int a2])).length) Slot.unset).toArray = ls at hl ⊢
  have hl : lv_has ls 11 [(0, .ref a0), (1, .int a1), (2, .int a2)] := hl
  unfold f_X11_afterwards at h
  refine lv_aload_n hx hb dX11_afterwards_0 rfl (lv_at hl 0 rfl) ?_
  refine lv_iload_n hx hb dX11_afterwards_1 rfl (lv_at hl 1 rfl) ?_
  obtain ⟨g2, h⟩ := hq_g h
  obtain ⟨b4, S3, g1, h⟩ := hq_bd2 h
  refine hq_callq hI (va_runV (As := [.int a1]) (rest := []) ⟨hx, hb, hml, hown, hts⟩ (c_X11_planAt l D kA ρ HB S a0 a1 _ g1) (cwV 1 hts (gdIn (List.forall_mem_cons.mpr ⟨kw_557, (List.forall_mem_cons.mpr ⟨kw_559, (List.forall_mem_cons.mpr ⟨ks_10, (List.forall_mem_cons.mpr ⟨kw_1, (fun _ h => absurd h List.not_mem_nil)⟩)⟩)⟩)⟩) kw_560) rfl rfl rfl ye_X11_planAt ⟨Nat.le_of_ble_eq_true rfl, Nat.le_of_ble_eq_true rfl⟩) (hq_preC hE hI g2 rfl _) rfl rfl hl.1 rfl (lv_room (Nat.le_of_ble_eq_true rfl)) dX11_afterwards_2 ⟨Nat.le_of_ble_eq_true rfl, Nat.le_of_ble_eq_true rfl⟩) (fun H locs hI => ?_)
  rcases b4 with _ | r5
  · have h := oC_n h
    refine lv_astore_nN (lv' := [(3, .null), (0, .ref a0), (1, .int a1), (2, .int a2)]) hx hb dX11_afterwards_5 rfl hl (by decide) rfl (fun ls hl => ?_)
    refine lv_aload_nN hx hb dX11_afterwards_6 rfl (lv_at hl 0 rfl) ?_
    refine lv_ifnullN (tgt := 17) hx hb dX11_afterwards_7 (by decide) ?_
    refine lv_iconst (v := (-1)) hx hb dX11_afterwards_17 (by decide) ?_
    exact hq_iret hx hb hr hlocks h0 hI h dX11_afterwards_18
  · have h := oC_s h
    refine lv_astore_n (lv' := [(3, .ref r5), (0, .ref a0), (1, .int a1), (2, .int a2)]) hx hb dX11_afterwards_5 rfl hl (by decide) rfl (fun ls hl => ?_)
    refine lv_aload_n hx hb dX11_afterwards_6 rfl (lv_at hl 0 rfl) ?_
    refine lv_ifnull hx hb dX11_afterwards_7 ?_
    refine lv_iload_n hx hb dX11_afterwards_10 rfl (lv_at hl 3 rfl) ?_
    obtain ⟨v8, S7, g6, h⟩ := hq_bd2 h
    refine hq_calli hI (va_runS (As := [.int a2]) (rest := []) ⟨hx, hb, hml, hown, hts⟩ (c_X11_isMan l D kA ρ HB S3 a2 _ g6) (va_cwS 1 hts (gdIn (List.forall_mem_cons.mpr ⟨kw_195, (List.forall_mem_cons.mpr ⟨kw_196, (List.forall_mem_cons.mpr ⟨kw_1, (fun _ h => absurd h List.not_mem_nil)⟩)⟩)⟩) kw_197) rfl rfl rfl yd_X11_isMan ⟨Nat.le_of_ble_eq_true rfl, Nat.le_of_ble_eq_true rfl⟩) (hq_preS hE hI _) rfl rfl hl.1 rfl (lv_room (Nat.le_of_ble_eq_true rfl)) dX11_afterwards_11 ⟨Nat.le_of_ble_eq_true rfl, Nat.le_of_ble_eq_true rfl⟩) (fun H locs hI => ?_)
    refine lv_if_ne (tgt := 19) hx hb dX11_afterwards_14 (by decide) (fun c9 => ?_) (fun c9 => ?_)
    · have h := hq_f h c9
      refine lv_aload_n hx hb dX11_afterwards_19 rfl (lv_at hl 1 rfl) ?_
      refine lv_aload_n hx hb dX11_afterwards_20 rfl (lv_at hl 0 rfl) ?_
      obtain ⟨g11, h⟩ := hq_g h
      obtain ⟨v13, S12, g10, h⟩ := hq_bd2 h
      refine hq_calli hI (va_runV (As := [.ref r5]) (rest := []) ⟨hx, hb, hml, hown, hts⟩ (c_X11_countedBits l D kA ρ HB S7 a0 r5 _ g10) (cwV 1 hts (gdIn (List.forall_mem_cons.mpr ⟨kw_561, (List.forall_mem_cons.mpr ⟨kw_563, (List.forall_mem_cons.mpr ⟨ks_11, (List.forall_mem_cons.mpr ⟨kw_1, (fun _ h => absurd h List.not_mem_nil)⟩)⟩)⟩)⟩) kw_564) rfl rfl rfl ye_X11_countedBits ⟨Nat.le_of_ble_eq_true rfl, Nat.le_of_ble_eq_true rfl⟩) (hq_preC hE hI g11 rfl _) rfl rfl hl.1 rfl (lv_room (Nat.le_of_ble_eq_true rfl)) dX11_afterwards_21 ⟨Nat.le_of_ble_eq_true rfl, Nat.le_of_ble_eq_true rfl⟩) (fun H locs hI => ?_)
      refine lv_aload_n hx hb dX11_afterwards_24 rfl (lv_at hl 1 rfl) ?_
      refine lv_iload_n hx hb dX11_afterwards_25 rfl (lv_at hl 3 rfl) ?_
      obtain ⟨g15, h⟩ := hq_g h
      obtain ⟨v17, S16, g14, h⟩ := hq_bd2 h
      refine hq_calli hI (va_runV (As := [.int a2]) (rest := [.int v13]) ⟨hx, hb, hml, hown, hts⟩ (c_X11_bitsOfMan l D kA ρ HB S12 a0 a2 _ g14) (cwV 1 hts (gdIn (List.forall_mem_cons.mpr ⟨kw_603, (List.forall_mem_cons.mpr ⟨kw_605, (List.forall_mem_cons.mpr ⟨ks_16, (List.forall_mem_cons.mpr ⟨kw_1, (fun _ h => absurd h List.not_mem_nil)⟩)⟩)⟩)⟩) kw_606) rfl rfl rfl ye_X11_bitsOfMan ⟨Nat.le_of_ble_eq_true rfl, Nat.le_of_ble_eq_true rfl⟩) (hq_preC hE hI g15 rfl _) rfl rfl hl.1 rfl (lv_room (Nat.le_of_ble_eq_true rfl)) dX11_afterwards_26 ⟨Nat.le_of_ble_eq_true rfl, Nat.le_of_ble_eq_true rfl⟩) (fun H locs hI => ?_)
      refine lv_iand hx hb dX11_afterwards_29 ?_
      refine lv_istore (lv' := [(4, .int (v13 &&& v17)), (3, .ref r5), (0, .ref a0), (1, .int a1), (2, .int a2)]) hx hb dX11_afterwards_30 hl (by decide) rfl (fun ls hl => ?_)
      refine lv_iload hx hb dX11_afterwards_32 (lv_at hl 0 rfl) ?_
      refine lv_if_eq (tgt := 47) hx hb dX11_afterwards_34 (by decide) (fun c18 => ?_) (fun c18 => ?_)
      · have h := hq_t h c18
        refine lv_bipush (v := (-5)) hx hb dX11_afterwards_47 (by decide) ?_
        exact hq_iret hx hb hr hlocks h0 hI h dX11_afterwards_49
      · have h := hq_f h c18
        refine lv_iload hx hb dX11_afterwards_37 (lv_at hl 0 rfl) ?_
        obtain ⟨v21, S20, g19, h⟩ := hq_bd2 h
        refine hq_calli hI (va_runS (As := [.int (v13 &&& v17)]) (rest := []) ⟨hx, hb, hml, hown, hts⟩ (c_J6_bitCount_0f7a4 l D kA ρ HB S16 (v13 &&& v17) _ g19) (va_cwS 1 hts (gdIn (List.forall_mem_cons.mpr ⟨kw_607, (List.forall_mem_cons.mpr ⟨kw_608, (List.forall_mem_cons.mpr ⟨kw_20, (fun _ h => absurd h List.not_mem_nil)⟩)⟩)⟩) kw_609) rfl rfl rfl yd_J6_bitCount_0f7a4 ⟨Nat.le_of_ble_eq_true rfl, Nat.le_of_ble_eq_true rfl⟩) (hq_preS hE hI _) rfl rfl hl.1 rfl (lv_room (Nat.le_of_ble_eq_true rfl)) dX11_afterwards_39 ⟨Nat.le_of_ble_eq_true rfl, Nat.le_of_ble_eq_true rfl⟩) (fun H locs hI => ?_)
        refine lv_bipush (v := 9) hx hb dX11_afterwards_42 (by decide) ?_
        refine lv_icmp_le (tgt := 50) hx hb dX11_afterwards_44 (by decide) (fun c22 => ?_) (fun c22 => ?_)
        · have h := hq_t h c22
          refine lv_iconst (v := 0) hx hb dX11_afterwards_50 (by decide) ?_
          refine lv_istore (lv' := [(5, .int 0), (4, .int (v13 &&& v17)), (3, .ref r5), (0, .ref a0), (1, .int a1), (2, .int a2)]) hx hb dX11_afterwards_51 hl (by decide) rfl (fun ls hl => ?_)
          refine lv_aload_n hx hb dX11_afterwards_53 rfl (lv_at hl 3 rfl) ?_
          refine lv_iload hx hb dX11_afterwards_54 (lv_at hl 1 rfl) ?_
          refine lv_iconst (v := 0) hx hb dX11_afterwards_56 (by decide) ?_
          obtain ⟨g24, h⟩ := hq_g h
          obtain ⟨v26, S25, g23, h⟩ := hq_bd2 h
          refine hq_calll hI (va_runV (As := [.int (v13 &&& v17), .int 0]) (rest := []) ⟨hx, hb, hml, hown, hts⟩ (c_X11_waysAsGood l D kA ρ HB S20 a0 (v13 &&& v17) 0 _ g23) (cwV 2 hts (gdIn (List.forall_mem_cons.mpr ⟨kw_713, (List.forall_mem_cons.mpr ⟨kw_715, (List.forall_mem_cons.mpr ⟨ks_25, (List.forall_mem_cons.mpr ⟨kw_1, (fun _ h => absurd h List.not_mem_nil)⟩)⟩)⟩)⟩) kw_716) rfl rfl rfl ye_X11_waysAsGood ⟨Nat.le_of_ble_eq_true rfl, Nat.le_of_ble_eq_true rfl⟩) (hq_preC hE hI g24 rfl _) rfl rfl hl.1 rfl (lv_room (Nat.le_of_ble_eq_true rfl)) dX11_afterwards_57 ⟨Nat.le_of_ble_eq_true rfl, Nat.le_of_ble_eq_true rfl⟩) (fun H locs hI => ?_)
          refine lv_lstore (lv' := [(6, .long v26), (5, .int 0), (4, .int (v13 &&& v17)), (3, .ref r5), (0, .ref a0), (1, .int a1), (2, .int a2)]) hx hb dX11_afterwards_60 hl (by decide) rfl (fun ls hl => ?_)
          refine lv_iconst (v := 1) hx hb dX11_afterwards_62 (by decide) ?_
          refine lv_istore (lv' := [(8, .int 1), (6, .long v26), (5, .int 0), (4, .int (v13 &&& v17)), (3, .ref r5), (0, .ref a0), (1, .int a1), (2, .int a2)]) hx hb dX11_afterwards_63 hl (by decide) rfl (fun ls hl => ?_)
          have hK104 : ∀ (x27 : Int32) (S28 : HSt) (H : Heap) (locs : List Loc) (ls : Array Slot), f_X11_afterwards_K104 x27 S28 = some res → hqX D kA HB S.2 S28 H locs → lv_has ls 11 [(5, .int x27)] → W p l e rm_X11_afterwards s m ([.ref a0, .int a1, .int a2] : List Value).toArray below meth c H locs 0 0 (MQ below (hQi D kA HB S res) ([.ref a0, .int a1, .int a2] : List Value).toArray s 0 0 (hFree HB)) (F0 m 104 ls []) := by
            intro x27 S28 H locs ls h hI hl
            unfold f_X11_afterwards_K104 at h
            refine lv_iload hx hb dX11_afterwards_104 (lv_at hl 0 rfl) ?_
            exact hq_iret hx hb hr hlocks h0 hI h dX11_afterwards_106
          have hL65 : ∀ (n65 : Nat) (x29 : Int32) (x30 : Int64) (x31 : Int32) (S32 : HSt) (H : Heap) (locs : List Loc) (ls : Array Slot), (f_X11_afterwards_L65 a0 v13 v17 f_X11_afterwards_K104 n65) x29 x30 x31 S32 = some res → hqX D kA HB S.2 S32 H locs → lv_has ls 11 [(0, .ref a0), (4, .int (v13 &&& v17)), (5, .int x29), (6, .long x30), (8, .int x31)] → W p l e rm_X11_afterwards s m ([.ref a0, .int a1, .int a2] : List Value).toArray below meth c H locs 0 0 (MQ below (hQi D kA HB S res) ([.ref a0, .int a1, .int a2] : List Value).toArray s 0 0 (hFree HB)) (F0 m 65 ls []) := by
            intro n65
            induction n65 with
            | zero =>
              intro x29 x30 x31 S32 H locs ls h
              have h : (none : Option (Int32 × HSt)) = some res := h
              cases h
            | succ n65 ih65 =>
              intro x29 x30 x31 S32 H locs ls h hI hl
              have h : f_X11_afterwards_B65 a0 v13 v17 f_X11_afterwards_K104 (f_X11_afterwards_L65 a0 v13 v17 f_X11_afterwards_K104 n65) x29 x30 x31 S32 = some res := h
              unfold f_X11_afterwards_B65 at h
              refine lv_iload hx hb dX11_afterwards_65 (lv_at hl 4 rfl) ?_
              refine lv_bipush (v := 9) hx hb dX11_afterwards_67 (by decide) ?_
              refine lv_icmp_gt (tgt := 104) hx hb dX11_afterwards_69 (by decide) (fun c33 => ?_) (fun c33 => ?_)
              · have h := hq_t h c33
                exact hK104 x29 S32 _ _ _ h hI (lv_sub hl [2] rfl)
              · have h := hq_f h c33
                refine lv_aload_n hx hb dX11_afterwards_72 rfl (lv_at hl 0 rfl) ?_
                refine lv_iload hx hb dX11_afterwards_73 (lv_at hl 1 rfl) ?_
                refine lv_iload hx hb dX11_afterwards_75 (lv_at hl 4 rfl) ?_
                obtain ⟨g35, h⟩ := hq_g h
                obtain ⟨v37, S36, g34, h⟩ := hq_bd2 h
                refine hq_calll hI (va_runV (As := [.int (v13 &&& v17), .int x31]) (rest := []) ⟨hx, hb, hml, hown, hts⟩ (c_X11_waysAsGood l D kA ρ HB S32 a0 (v13 &&& v17) x31 _ g34) (cwV 2 hts (gdIn (List.forall_mem_cons.mpr ⟨kw_713, (List.forall_mem_cons.mpr ⟨kw_715, (List.forall_mem_cons.mpr ⟨ks_25, (List.forall_mem_cons.mpr ⟨kw_1, (fun _ h => absurd h List.not_mem_nil)⟩)⟩)⟩)⟩) kw_716) rfl rfl rfl ye_X11_waysAsGood ⟨Nat.le_of_ble_eq_true rfl, Nat.le_of_ble_eq_true rfl⟩) (hq_preC hE hI g35 rfl _) rfl rfl hl.1 rfl (lv_room (Nat.le_of_ble_eq_true rfl)) dX11_afterwards_77 ⟨Nat.le_of_ble_eq_true rfl, Nat.le_of_ble_eq_true rfl⟩) (fun H locs hI => ?_)
                refine lv_lstore (lv' := [(9, .long v37), (0, .ref a0), (4, .int (v13 &&& v17)), (5, .int x29), (6, .long x30), (8, .int x31)]) hx hb dX11_afterwards_80 hl (by decide) rfl (fun ls hl => ?_)
                refine lv_lload hx hb dX11_afterwards_82 (lv_at hl 0 rfl) ?_
                refine lv_lload hx hb dX11_afterwards_84 (lv_at hl 4 rfl) ?_
                refine W.lcmp hx hb dX11_afterwards_86 ?_
                refine lv_if_ge (tgt := 98) hx hb dX11_afterwards_87 (by decide) (fun c38 => ?_) (fun c38 => ?_)
                · have h := hq_t h c38
                  refine lv_iinc (v := (x31 + 1)) (lv' := [(8, .int (x31 + 1)), (9, .long v37), (0, .ref a0), (4, .int (v13 &&& v17)), (5, .int x29), (6, .long x30)]) hx hb dX11_afterwards_98 hl (k := 5) rfl rfl (by decide) rfl (fun ls hl => ?_)
                  refine lv_goto (tgt := 65) hx hb dX11_afterwards_101 (by decide) ?_
                  exact ih65 x29 x30 (x31 + 1) S36 _ _ _ h hI (lv_sub hl [2, 3, 4, 5, 0] rfl)
                · have h := hq_f h c38
                  refine lv_lload hx hb dX11_afterwards_90 (lv_at hl 0 rfl) ?_
                  refine lv_lstore (lv' := [(6, .long v37), (9, .long v37), (0, .ref a0), (4, .int (v13 &&& v17)), (5, .int x29), (8, .int x31)]) hx hb dX11_afterwards_92 hl (by decide) rfl (fun ls hl => ?_)
                  refine lv_iload hx hb dX11_afterwards_94 (lv_at hl 5 rfl) ?_
                  refine lv_istore (lv' := [(5, .int x31), (6, .long v37), (9, .long v37), (0, .ref a0), (4, .int (v13 &&& v17)), (8, .int x31)]) hx hb dX11_afterwards_96 hl (by decide) rfl (fun ls hl => ?_)
                  refine lv_iinc (v := (x31 + 1)) (lv' := [(8, .int (x31 + 1)), (5, .int x31), (6, .long v37), (9, .long v37), (0, .ref a0), (4, .int (v13 &&& v17))]) hx hb dX11_afterwards_98 hl (k := 5) rfl rfl (by decide) rfl (fun ls hl => ?_)
                  refine lv_goto (tgt := 65) hx hb dX11_afterwards_101 (by decide) ?_
                  exact ih65 x31 v37 (x31 + 1) S36 _ _ _ h hI (lv_sub hl [4, 5, 1, 2, 0] rfl)
          exact hL65 FU 0 v26 1 S25 _ _ _ h hI (lv_sub hl [5, 3, 2, 1, 0] rfl)
        · have h := hq_f h c22
          refine lv_bipush (v := (-5)) hx hb dX11_afterwards_47 (by decide) ?_
          exact hq_iret hx hb hr hlocks h0 hI h dX11_afterwards_49
    · have h := hq_t h c9
      refine lv_iconst (v := (-1)) hx hb dX11_afterwards_17 (by decide) ?_
      exact hq_iret hx hb hr hlocks h0 hI h dX11_afterwards_18
-- RodDips.says(II)I
theorem dX11_says_0 : decode cX11_says 0 = .ok (.aload_n 0, 1) := by decide +kernel
theorem dX11_says_1 : decode cX11_says 1 = .ok (.iload_n 1, 1) := by decide +kernel
theorem dX11_says_2 : decode cX11_says 2 = .ok (.invokevirtual 229, 3) := by decide +kernel
theorem dX11_says_5 : decode cX11_says 5 = .ok (.astore_n 3, 1) := by decide +kernel
theorem dX11_says_6 : decode cX11_says 6 = .ok (.aload_n 0, 1) := by decide +kernel
theorem dX11_says_7 : decode cX11_says 7 = .ok (.iload_n 2, 1) := by decide +kernel
theorem dX11_says_8 : decode cX11_says 8 = .ok (.invokevirtual 130, 3) := by decide +kernel
theorem dX11_says_11 : decode cX11_says 11 = .ok (.astore 4, 2) := by decide +kernel
theorem dX11_says_13 : decode cX11_says 13 = .ok (.aload_n 3, 1) := by decide +kernel
theorem dX11_says_14 : decode cX11_says 14 = .ok (.ifnull 8, 3) := by decide +kernel
theorem dX11_says_17 : decode cX11_says 17 = .ok (.aload 4, 2) := by decide +kernel
theorem dX11_says_19 : decode cX11_says 19 = .ok (.ifnonnull 5, 3) := by decide +kernel
theorem dX11_says_22 : decode cX11_says 22 = .ok (.iconst (-1), 1) := by decide +kernel
theorem dX11_says_23 : decode cX11_says 23 = .ok (.ireturn, 1) := by decide +kernel
theorem dX11_says_24 : decode cX11_says 24 = .ok (.aload_n 3, 1) := by decide +kernel
theorem dX11_says_25 : decode cX11_says 25 = .ok (.aload 4, 2) := by decide +kernel
theorem dX11_says_27 : decode cX11_says 27 = .ok (.aload_n 0, 1) := by decide +kernel
theorem dX11_says_28 : decode cX11_says 28 = .ok (.aload 4, 2) := by decide +kernel
theorem dX11_says_30 : decode cX11_says 30 = .ok (.invokevirtual 232, 3) := by decide +kernel
theorem dX11_says_33 : decode cX11_says 33 = .ok (.aload_n 0, 1) := by decide +kernel
theorem dX11_says_34 : decode cX11_says 34 = .ok (.getfield 11, 3) := by decide +kernel
theorem dX11_says_37 : decode cX11_says 37 = .ok (.invokevirtual 236, 3) := by decide +kernel
theorem dX11_says_40 : decode cX11_says 40 = .ok (.ireturn, 1) := by decide +kernel
def f_X11_says (S : HSt) (a0 : Nat) (a1 : Int32) (a2 : Int32) : Option (Int32 × HSt) := if gC S a0 = some 11 then (bd2 (f_X11_lawAt S a0 a1) fun b4 S3 => oC b4 (if gC S3 a0 = some 11 then (bd2 (f_X11_tryAt S3 a0 a2) fun b9 S8 => oC b9 (some ((-1), S8)) fun r10 => some ((-1), S8)) else none) fun r5 => if gC S3 a0 = some 11 then (bd2 (f_X11_tryAt S3 a0 a2) fun b14 S13 => oC b14 (some ((-1), S13)) fun r15 => if gC S13 a0 = some 11 then (bd2 (f_X11_saidBefore S13 a0 r15) fun v19 S18 => (gI S18 a0 11 0).bind fun v20 => if gC S18 r5 = some 7 then (bd2 (f_X7_lawful S18 r5 r15 v19 v20) fun v25 S24 => some (v25, S24)) else none) else none) else none) else none
abbrev rm_X11_says : Room := { frames := 4, cells := 0, slots := 0, locals := 98 }
abbrev w_X11_says : List Cond := Cond.code yX11_says cX11_says 5 (Option.some FieldType.int) :: lwG
theorem yd_X11_says : yX11_says.cls ≠ "java/lang/invoke/MethodHandle" ∧ yX11_says.cls ≠ "java/lang/invoke/VarHandle" ∧ (parseMethodDescriptor yX11_says.desc).map (fun d => d.parameters.length) = some 2 := by decide +kernel
theorem ye_X11_says : yX11_says.cls = RX11 ∧ yX11_says.cls ≠ "java/lang/invoke/MethodHandle" ∧ yX11_says.cls ≠ "java/lang/invoke/VarHandle" ∧ (parseMethodDescriptor yX11_says.desc).map (fun d => d.parameters.length) = some 2 := by decide +kernel
set_option maxHeartbeats 4000000 in
set_option maxRecDepth 100000 in
theorem c_X11_says (l : Launch) (D : va_G) (kA ρ : Nat → Nat) (HB : Heap) (S : HSt) (a0 : Nat) (a1 : Int32) (a2 : Int32) (res : Int32 × HSt) (h : f_X11_says S a0 a1 a2 = some res) : Met l yX11_says w_X11_says rm_X11_says (hPc D kA ρ HB S [.ref a0, .int a1, .int a2]) (hQi D kA HB S res) 0 0 (hFree HB) := by
  refine Met.ofW (cc := cX11_says) (maxL := 5) (ret := (Option.some FieldType.int)) (by decide) rfl ?_
  intro p e s m args below meth c s₁ B hml hv
  obtain ⟨rfl, hE, h0⟩ := hv
  have hx := B.exec
  have hb := B.bytes
  have hr := B.returns
  have hts0 := atoms_spec (ws := w_X11_says) B.pre
  have hts : ∀ w ∈ lwG, w.before _ s = true := fun w hw => hts0 w (List.mem_cons_of_mem _ hw)
  have hown : s.vm.findClass RX11 = some m.cls := findClass_of_methodNamed B.named
  have hlocks := B.notSynchronized
  have hI : hqX D kA HB S.2 S s.heap [] := ⟨h0, Nat.le_refl _, fun _ q => absurd q List.not_mem_nil⟩
  have hl := lv_entry ([.ref a0, .int a1, .int a2]) (n := 5) (Nat.le_of_ble_eq_true rfl)
  rw [lg_entry_eq]
  generalize (lg_sl ([.ref a0, .int a1, .int a2]) ++ List.replicate (5 - (lg_sl ([.ref a0, .int a1, .int a2])).length) Slot.unset).toArray = ls at hl ⊢
  have hl : lv_has ls 5 [(0, .ref a0), (1, .int a1), (2, .int a2)] := hl
  unfold f_X11_says at h
  refine lv_aload_n hx hb dX11_says_0 rfl (lv_at hl 0 rfl) ?_
  refine lv_iload_n hx hb dX11_says_1 rfl (lv_at hl 1 rfl) ?_
  obtain ⟨g2, h⟩ := hq_g h
  obtain ⟨b4, S3, g1, h⟩ := hq_bd2 h
  refine hq_callq hI (va_runV (As := [.int a1]) (rest := []) ⟨hx, hb, hml, hown, hts⟩ (c_X11_lawAt l D kA ρ HB S a0 a1 _ g1) (cwV 1 hts (gdIn (List.forall_mem_cons.mpr ⟨kw_725, (List.forall_mem_cons.mpr ⟨kw_727, (List.forall_mem_cons.mpr ⟨ks_26, (List.forall_mem_cons.mpr ⟨kw_1, (fun _ h => absurd h List.not_mem_nil)⟩)⟩)⟩)⟩) kw_728) rfl rfl rfl ye_X11_lawAt ⟨Nat.le_of_ble_eq_true rfl, Nat.le_of_ble_eq_true rfl⟩) (hq_preC hE hI g2 rfl _) rfl rfl hl.1 rfl (lv_room (Nat.le_of_ble_eq_true rfl)) dX11_says_2 ⟨Nat.le_of_ble_eq_true rfl, Nat.le_of_ble_eq_true rfl⟩) (fun H locs hI => ?_)
  rcases b4 with _ | r5
  · have h := oC_n h
    refine lv_astore_nN (lv' := [(3, .null), (0, .ref a0), (1, .int a1), (2, .int a2)]) hx hb dX11_says_5 rfl hl (by decide) rfl (fun ls hl => ?_)
    refine lv_aload_n hx hb dX11_says_6 rfl (lv_at hl 1 rfl) ?_
    refine lv_iload_n hx hb dX11_says_7 rfl (lv_at hl 3 rfl) ?_
    obtain ⟨g7, h⟩ := hq_g h
    obtain ⟨b9, S8, g6, h⟩ := hq_bd2 h
    refine hq_callq hI (va_runV (As := [.int a2]) (rest := []) ⟨hx, hb, hml, hown, hts⟩ (c_X11_tryAt l D kA ρ HB S3 a0 a2 _ g6) (cwV 1 hts (gdIn (List.forall_mem_cons.mpr ⟨kw_354, (List.forall_mem_cons.mpr ⟨kw_356, (List.forall_mem_cons.mpr ⟨ks_2, (List.forall_mem_cons.mpr ⟨kw_1, (fun _ h => absurd h List.not_mem_nil)⟩)⟩)⟩)⟩) kw_357) rfl rfl rfl ye_X11_tryAt ⟨Nat.le_of_ble_eq_true rfl, Nat.le_of_ble_eq_true rfl⟩) (hq_preC hE hI g7 rfl _) rfl rfl hl.1 rfl (lv_room (Nat.le_of_ble_eq_true rfl)) dX11_says_8 ⟨Nat.le_of_ble_eq_true rfl, Nat.le_of_ble_eq_true rfl⟩) (fun H locs hI => ?_)
    rcases b9 with _ | r10
    · have h := oC_n h
      refine lv_astoreN (lv' := [(4, .null), (3, .null), (0, .ref a0), (1, .int a1), (2, .int a2)]) hx hb dX11_says_11 hl (by decide) rfl (fun ls hl => ?_)
      refine lv_aload_nN hx hb dX11_says_13 rfl (lv_at hl 1 rfl) ?_
      refine lv_ifnullN (tgt := 22) hx hb dX11_says_14 (by decide) ?_
      refine lv_iconst (v := (-1)) hx hb dX11_says_22 (by decide) ?_
      exact hq_iret hx hb hr hlocks h0 hI h dX11_says_23
    · have h := oC_s h
      refine lv_astore (lv' := [(4, .ref r10), (3, .null), (0, .ref a0), (1, .int a1), (2, .int a2)]) hx hb dX11_says_11 hl (by decide) rfl (fun ls hl => ?_)
      refine lv_aload_nN hx hb dX11_says_13 rfl (lv_at hl 1 rfl) ?_
      refine lv_ifnullN (tgt := 22) hx hb dX11_says_14 (by decide) ?_
      refine lv_iconst (v := (-1)) hx hb dX11_says_22 (by decide) ?_
      exact hq_iret hx hb hr hlocks h0 hI h dX11_says_23
  · have h := oC_s h
    refine lv_astore_n (lv' := [(3, .ref r5), (0, .ref a0), (1, .int a1), (2, .int a2)]) hx hb dX11_says_5 rfl hl (by decide) rfl (fun ls hl => ?_)
    refine lv_aload_n hx hb dX11_says_6 rfl (lv_at hl 1 rfl) ?_
    refine lv_iload_n hx hb dX11_says_7 rfl (lv_at hl 3 rfl) ?_
    obtain ⟨g12, h⟩ := hq_g h
    obtain ⟨b14, S13, g11, h⟩ := hq_bd2 h
    refine hq_callq hI (va_runV (As := [.int a2]) (rest := []) ⟨hx, hb, hml, hown, hts⟩ (c_X11_tryAt l D kA ρ HB S3 a0 a2 _ g11) (cwV 1 hts (gdIn (List.forall_mem_cons.mpr ⟨kw_354, (List.forall_mem_cons.mpr ⟨kw_356, (List.forall_mem_cons.mpr ⟨ks_2, (List.forall_mem_cons.mpr ⟨kw_1, (fun _ h => absurd h List.not_mem_nil)⟩)⟩)⟩)⟩) kw_357) rfl rfl rfl ye_X11_tryAt ⟨Nat.le_of_ble_eq_true rfl, Nat.le_of_ble_eq_true rfl⟩) (hq_preC hE hI g12 rfl _) rfl rfl hl.1 rfl (lv_room (Nat.le_of_ble_eq_true rfl)) dX11_says_8 ⟨Nat.le_of_ble_eq_true rfl, Nat.le_of_ble_eq_true rfl⟩) (fun H locs hI => ?_)
    rcases b14 with _ | r15
    · have h := oC_n h
      refine lv_astoreN (lv' := [(4, .null), (3, .ref r5), (0, .ref a0), (1, .int a1), (2, .int a2)]) hx hb dX11_says_11 hl (by decide) rfl (fun ls hl => ?_)
      refine lv_aload_n hx hb dX11_says_13 rfl (lv_at hl 1 rfl) ?_
      refine lv_ifnull hx hb dX11_says_14 ?_
      refine lv_aloadN hx hb dX11_says_17 (lv_at hl 0 rfl) ?_
      refine lv_ifnonnullN hx hb dX11_says_19 ?_
      refine lv_iconst (v := (-1)) hx hb dX11_says_22 (by decide) ?_
      exact hq_iret hx hb hr hlocks h0 hI h dX11_says_23
    · have h := oC_s h
      refine lv_astore (lv' := [(4, .ref r15), (3, .ref r5), (0, .ref a0), (1, .int a1), (2, .int a2)]) hx hb dX11_says_11 hl (by decide) rfl (fun ls hl => ?_)
      refine lv_aload_n hx hb dX11_says_13 rfl (lv_at hl 1 rfl) ?_
      refine lv_ifnull hx hb dX11_says_14 ?_
      refine lv_aload hx hb dX11_says_17 (lv_at hl 0 rfl) ?_
      refine lv_ifnonnull (tgt := 24) hx hb dX11_says_19 (by decide) ?_
      refine lv_aload_n hx hb dX11_says_24 rfl (lv_at hl 1 rfl) ?_
      refine lv_aload hx hb dX11_says_25 (lv_at hl 0 rfl) ?_
      refine lv_aload_n hx hb dX11_says_27 rfl (lv_at hl 2 rfl) ?_
      refine lv_aload hx hb dX11_says_28 (lv_at hl 0 rfl) ?_
      obtain ⟨g17, h⟩ := hq_g h
      obtain ⟨v19, S18, g16, h⟩ := hq_bd2 h
      refine hq_calli hI (va_runV (As := [.ref r15]) (rest := [.ref r15, .ref r5]) ⟨hx, hb, hml, hown, hts⟩ (c_X11_saidBefore l D kA ρ HB S13 a0 r15 _ g16) (cwV 1 hts (gdIn (List.forall_mem_cons.mpr ⟨kw_729, (List.forall_mem_cons.mpr ⟨kw_731, (List.forall_mem_cons.mpr ⟨ks_27, (List.forall_mem_cons.mpr ⟨kw_1, (fun _ h => absurd h List.not_mem_nil)⟩)⟩)⟩)⟩) kw_732) rfl rfl rfl ye_X11_saidBefore ⟨Nat.le_of_ble_eq_true rfl, Nat.le_of_ble_eq_true rfl⟩) (hq_preC hE hI g17 rfl _) rfl rfl hl.1 rfl (lv_room (Nat.le_of_ble_eq_true rfl)) dX11_says_30 ⟨Nat.le_of_ble_eq_true rfl, Nat.le_of_ble_eq_true rfl⟩) (fun H locs hI => ?_)
      refine lv_aload_n hx hb dX11_says_33 rfl (lv_at hl 2 rfl) ?_
      obtain ⟨v20, g21, h⟩ := hq_bind h
      obtain ⟨fs_g21, hs_g21, hv_g21⟩ := gI_at g21
      refine hq_get hx hb hts hown hE hI hs_g21 inG11 rfl 0 (by decide) kw_132 hv_g21 dX11_says_34 ?_
      obtain ⟨g23, h⟩ := hq_g h
      obtain ⟨v25, S24, g22, h⟩ := hq_bd2 h
      refine hq_calli hI (va_runV (As := [.ref r15, .int v19, .int v20]) (rest := []) ⟨hx, hb, hml, hown, hts⟩ (c_X7_lawful l D kA ρ HB S18 r5 r15 v19 v20 _ g22) (cwV 3 hts (gdIn (List.forall_mem_cons.mpr ⟨kw_733, (List.forall_mem_cons.mpr ⟨kw_734, (List.forall_mem_cons.mpr ⟨kw_735, (List.forall_mem_cons.mpr ⟨kw_5, (fun _ h => absurd h List.not_mem_nil)⟩)⟩)⟩)⟩) kw_736) rfl rfl rfl ye_X7_lawful ⟨Nat.le_of_ble_eq_true rfl, Nat.le_of_ble_eq_true rfl⟩) (hq_preC hE hI g23 rfl _) rfl rfl hl.1 rfl (lv_room (Nat.le_of_ble_eq_true rfl)) dX11_says_37 ⟨Nat.le_of_ble_eq_true rfl, Nat.le_of_ble_eq_true rfl⟩) (fun H locs hI => ?_)
      exact hq_iret hx hb hr hlocks h0 hI h dX11_says_40
-- RodDips.fair(IIIII)I
theorem dX11_fair_0 : decode cX11_fair 0 = .ok (.aload_n 0, 1) := by decide +kernel
theorem dX11_fair_1 : decode cX11_fair 1 = .ok (.iload_n 2, 1) := by decide +kernel
theorem dX11_fair_2 : decode cX11_fair 2 = .ok (.invokevirtual 96, 3) := by decide +kernel
theorem dX11_fair_5 : decode cX11_fair 5 = .ok (.ifCond .ne 5, 3) := by decide +kernel
theorem dX11_fair_8 : decode cX11_fair 8 = .ok (.iconst (-1), 1) := by decide +kernel
theorem dX11_fair_9 : decode cX11_fair 9 = .ok (.ireturn, 1) := by decide +kernel
theorem dX11_fair_10 : decode cX11_fair 10 = .ok (.iload_n 1, 1) := by decide +kernel
theorem dX11_fair_11 : decode cX11_fair 11 = .ok (.ifCond .lt 32, 3) := by decide +kernel
theorem dX11_fair_14 : decode cX11_fair 14 = .ok (.iload_n 1, 1) := by decide +kernel
theorem dX11_fair_15 : decode cX11_fair 15 = .ok (.bipush 100, 2) := by decide +kernel
theorem dX11_fair_17 : decode cX11_fair 17 = .ok (.if_icmp .ge 26, 3) := by decide +kernel
theorem dX11_fair_20 : decode cX11_fair 20 = .ok (.iload_n 3, 1) := by decide +kernel
theorem dX11_fair_21 : decode cX11_fair 21 = .ok (.invokestatic 243, 3) := by decide +kernel
theorem dX11_fair_24 : decode cX11_fair 24 = .ok (.ifCond .eq 19, 3) := by decide +kernel
theorem dX11_fair_27 : decode cX11_fair 27 = .ok (.iload 4, 2) := by decide +kernel
theorem dX11_fair_29 : decode cX11_fair 29 = .ok (.invokestatic 243, 3) := by decide +kernel
theorem dX11_fair_32 : decode cX11_fair 32 = .ok (.ifCond .eq 11, 3) := by decide +kernel
theorem dX11_fair_35 : decode cX11_fair 35 = .ok (.iload 5, 2) := by decide +kernel
theorem dX11_fair_37 : decode cX11_fair 37 = .ok (.invokestatic 243, 3) := by decide +kernel
theorem dX11_fair_40 : decode cX11_fair 40 = .ok (.ifCond .ne 6, 3) := by decide +kernel
theorem dX11_fair_43 : decode cX11_fair 43 = .ok (.bipush (-2), 2) := by decide +kernel
theorem dX11_fair_45 : decode cX11_fair 45 = .ok (.ireturn, 1) := by decide +kernel
theorem dX11_fair_46 : decode cX11_fair 46 = .ok (.aload_n 0, 1) := by decide +kernel
theorem dX11_fair_47 : decode cX11_fair 47 = .ok (.getfield 53, 3) := by decide +kernel
theorem dX11_fair_50 : decode cX11_fair 50 = .ok (.invokevirtual 246, 3) := by decide +kernel
theorem dX11_fair_53 : decode cX11_fair 53 = .ok (.aload_n 0, 1) := by decide +kernel
theorem dX11_fair_54 : decode cX11_fair 54 = .ok (.getfield 49, 3) := by decide +kernel
theorem dX11_fair_57 : decode cX11_fair 57 = .ok (.invokevirtual 246, 3) := by decide +kernel
theorem dX11_fair_60 : decode cX11_fair 60 = .ok (.iconst 1, 1) := by decide +kernel
theorem dX11_fair_61 : decode cX11_fair 61 = .ok (.istore 6, 2) := by decide +kernel
theorem dX11_fair_63 : decode cX11_fair 63 = .ok (.iload 6, 2) := by decide +kernel
theorem dX11_fair_65 : decode cX11_fair 65 = .ok (.bipush 6, 2) := by decide +kernel
theorem dX11_fair_67 : decode cX11_fair 67 = .ok (.if_icmp .gt 145, 3) := by decide +kernel
theorem dX11_fair_70 : decode cX11_fair 70 = .ok (.aload_n 0, 1) := by decide +kernel
theorem dX11_fair_71 : decode cX11_fair 71 = .ok (.getfield 53, 3) := by decide +kernel
theorem dX11_fair_74 : decode cX11_fair 74 = .ok (.iload_n 3, 1) := by decide +kernel
theorem dX11_fair_75 : decode cX11_fair 75 = .ok (.i2l, 1) := by decide +kernel
theorem dX11_fair_76 : decode cX11_fair 76 = .ok (.ldc2_w 249, 3) := by decide +kernel
theorem dX11_fair_79 : decode cX11_fair 79 = .ok (.invokevirtual 251, 3) := by decide +kernel
theorem dX11_fair_82 : decode cX11_fair 82 = .ok (.aload_n 0, 1) := by decide +kernel
theorem dX11_fair_83 : decode cX11_fair 83 = .ok (.getfield 49, 3) := by decide +kernel
theorem dX11_fair_86 : decode cX11_fair 86 = .ok (.aload_n 0, 1) := by decide +kernel
theorem dX11_fair_87 : decode cX11_fair 87 = .ok (.iload_n 2, 1) := by decide +kernel
theorem dX11_fair_88 : decode cX11_fair 88 = .ok (.iload_n 1, 1) := by decide +kernel
theorem dX11_fair_89 : decode cX11_fair 89 = .ok (.invokevirtual 169, 3) := by decide +kernel
theorem dX11_fair_92 : decode cX11_fair 92 = .ok (.i2l, 1) := by decide +kernel
theorem dX11_fair_93 : decode cX11_fair 93 = .ok (.aload_n 0, 1) := by decide +kernel
theorem dX11_fair_94 : decode cX11_fair 94 = .ok (.getfield 11, 3) := by decide +kernel
theorem dX11_fair_97 : decode cX11_fair 97 = .ok (.i2l, 1) := by decide +kernel
theorem dX11_fair_98 : decode cX11_fair 98 = .ok (.invokevirtual 251, 3) := by decide +kernel
theorem dX11_fair_101 : decode cX11_fair 101 = .ok (.iconst 0, 1) := by decide +kernel
theorem dX11_fair_102 : decode cX11_fair 102 = .ok (.istore 7, 2) := by decide +kernel
theorem dX11_fair_104 : decode cX11_fair 104 = .ok (.iload 7, 2) := by decide +kernel
theorem dX11_fair_106 : decode cX11_fair 106 = .ok (.iload 6, 2) := by decide +kernel
theorem dX11_fair_108 : decode cX11_fair 108 = .ok (.if_icmp .gt 98, 3) := by decide +kernel
theorem dX11_fair_111 : decode cX11_fair 111 = .ok (.aload_n 0, 1) := by decide +kernel
theorem dX11_fair_112 : decode cX11_fair 112 = .ok (.getfield 53, 3) := by decide +kernel
theorem dX11_fair_115 : decode cX11_fair 115 = .ok (.iload 7, 2) := by decide +kernel
theorem dX11_fair_117 : decode cX11_fair 117 = .ok (.invokevirtual 254, 3) := by decide +kernel
theorem dX11_fair_120 : decode cX11_fair 120 = .ok (.ldc2_w 249, 3) := by decide +kernel
theorem dX11_fair_123 : decode cX11_fair 123 = .ok (.lmul, 1) := by decide +kernel
theorem dX11_fair_124 : decode cX11_fair 124 = .ok (.iload 4, 2) := by decide +kernel
theorem dX11_fair_126 : decode cX11_fair 126 = .ok (.i2l, 1) := by decide +kernel
theorem dX11_fair_127 : decode cX11_fair 127 = .ok (.aload_n 0, 1) := by decide +kernel
theorem dX11_fair_128 : decode cX11_fair 128 = .ok (.getfield 53, 3) := by decide +kernel
theorem dX11_fair_131 : decode cX11_fair 131 = .ok (.getfield 201, 3) := by decide +kernel
theorem dX11_fair_134 : decode cX11_fair 134 = .ok (.lmul, 1) := by decide +kernel
theorem dX11_fair_135 : decode cX11_fair 135 = .ok (.lcmp, 1) := by decide +kernel
theorem dX11_fair_136 : decode cX11_fair 136 = .ok (.ifCond .gt 7, 3) := by decide +kernel
theorem dX11_fair_139 : decode cX11_fair 139 = .ok (.iconst 1, 1) := by decide +kernel
theorem dX11_fair_140 : decode cX11_fair 140 = .ok (.goto 4, 3) := by decide +kernel
theorem dX11_fair_143 : decode cX11_fair 143 = .ok (.iconst 0, 1) := by decide +kernel
theorem dX11_fair_144 : decode cX11_fair 144 = .ok (.istore 8, 2) := by decide +kernel
theorem dX11_fair_146 : decode cX11_fair 146 = .ok (.aload_n 0, 1) := by decide +kernel
theorem dX11_fair_147 : decode cX11_fair 147 = .ok (.getfield 49, 3) := by decide +kernel
theorem dX11_fair_150 : decode cX11_fair 150 = .ok (.iload 7, 2) := by decide +kernel
theorem dX11_fair_152 : decode cX11_fair 152 = .ok (.invokevirtual 194, 3) := by decide +kernel
theorem dX11_fair_155 : decode cX11_fair 155 = .ok (.ldc2_w 249, 3) := by decide +kernel
theorem dX11_fair_158 : decode cX11_fair 158 = .ok (.lmul, 1) := by decide +kernel
theorem dX11_fair_159 : decode cX11_fair 159 = .ok (.iload 5, 2) := by decide +kernel
theorem dX11_fair_161 : decode cX11_fair 161 = .ok (.i2l, 1) := by decide +kernel
theorem dX11_fair_162 : decode cX11_fair 162 = .ok (.aload_n 0, 1) := by decide +kernel
theorem dX11_fair_163 : decode cX11_fair 163 = .ok (.getfield 49, 3) := by decide +kernel
theorem dX11_fair_166 : decode cX11_fair 166 = .ok (.getfield 201, 3) := by decide +kernel
theorem dX11_fair_169 : decode cX11_fair 169 = .ok (.lmul, 1) := by decide +kernel
theorem dX11_fair_170 : decode cX11_fair 170 = .ok (.lcmp, 1) := by decide +kernel
theorem dX11_fair_171 : decode cX11_fair 171 = .ok (.ifCond .gt 7, 3) := by decide +kernel
theorem dX11_fair_174 : decode cX11_fair 174 = .ok (.iconst 1, 1) := by decide +kernel
theorem dX11_fair_175 : decode cX11_fair 175 = .ok (.goto 4, 3) := by decide +kernel
theorem dX11_fair_178 : decode cX11_fair 178 = .ok (.iconst 0, 1) := by decide +kernel
theorem dX11_fair_179 : decode cX11_fair 179 = .ok (.istore 9, 2) := by decide +kernel
theorem dX11_fair_181 : decode cX11_fair 181 = .ok (.iload 8, 2) := by decide +kernel
theorem dX11_fair_183 : decode cX11_fair 183 = .ok (.ifCond .eq 17, 3) := by decide +kernel
theorem dX11_fair_186 : decode cX11_fair 186 = .ok (.iload 9, 2) := by decide +kernel
theorem dX11_fair_188 : decode cX11_fair 188 = .ok (.ifCond .eq 12, 3) := by decide +kernel
theorem dX11_fair_191 : decode cX11_fair 191 = .ok (.bipush 10, 2) := by decide +kernel
theorem dX11_fair_193 : decode cX11_fair 193 = .ok (.iload 6, 2) := by decide +kernel
theorem dX11_fair_195 : decode cX11_fair 195 = .ok (.imul, 1) := by decide +kernel
theorem dX11_fair_196 : decode cX11_fair 196 = .ok (.iload 7, 2) := by decide +kernel
theorem dX11_fair_198 : decode cX11_fair 198 = .ok (.iadd, 1) := by decide +kernel
theorem dX11_fair_199 : decode cX11_fair 199 = .ok (.ireturn, 1) := by decide +kernel
theorem dX11_fair_200 : decode cX11_fair 200 = .ok (.iinc 7 1, 3) := by decide +kernel
theorem dX11_fair_203 : decode cX11_fair 203 = .ok (.goto (-99), 3) := by decide +kernel
theorem dX11_fair_206 : decode cX11_fair 206 = .ok (.iinc 6 1, 3) := by decide +kernel
theorem dX11_fair_209 : decode cX11_fair 209 = .ok (.goto (-146), 3) := by decide +kernel
theorem dX11_fair_212 : decode cX11_fair 212 = .ok (.bipush (-5), 2) := by decide +kernel
theorem dX11_fair_214 : decode cX11_fair 214 = .ok (.ireturn, 1) := by decide +kernel
def f_X11_fair_K212 (S30 : HSt) : Option (Int32 × HSt) := some ((-5), S30)
def f_X11_fair_K206 (kb63 : (Int32 → HSt → Option (Int32 × HSt))) (x31 : Int32) (S50 : HSt) : Option (Int32 × HSt) := kb63 (x31 + 1) S50
def f_X11_fair_J179 (kb104 : (Int32 → HSt → Option (Int32 × HSt))) (x31 : Int32) (x51 : Int32) (y64 : Int32) (y76 : Int32) (S77 : HSt) : Option (Int32 × HSt) := if y64 = 0 then (kb104 (x51 + 1) S77) else (if y76 = 0 then (kb104 (x51 + 1) S77) else (some ((10 * x31) + x51, S77)))
def f_X11_fair_J144 (a0 : Nat) (a5 : Int32) (kb104 : (Int32 → HSt → Option (Int32 × HSt))) (x31 : Int32) (x51 : Int32) (y64 : Int32) (S65 : HSt) : Option (Int32 × HSt) := (gR S65 a0 11 8).bind fun b66 => if gC S65 b66 = some 4 then (bd2 (f_X4_orMore S65 b66 x51) fun v71 S70 => (gR S70 a0 11 8).bind fun b72 => (gL S70 b72 4 2).bind fun v74 => if 0 < (lg_cmp (v71 * 100) ((Int32.toInt64 a5) * v74)) then ((f_X11_fair_J179 kb104 x31 x51 y64) 0 S70) else ((f_X11_fair_J179 kb104 x31 x51 y64) 1 S70)) else none
def f_X11_fair_B104 (a0 : Nat) (a4 : Int32) (a5 : Int32) (x31 : Int32) (kx206 : (HSt → Option (Int32 × HSt))) (kb104 : (Int32 → HSt → Option (Int32 × HSt))) (x51 : Int32) (S52 : HSt) : Option (Int32 × HSt) := if x31 < x51 then (kx206 S52) else ((gR S52 a0 11 9).bind fun b54 => if gC S52 b54 = some 4 then (bd2 (f_X4_fewer S52 b54 x51) fun v59 S58 => (gR S58 a0 11 9).bind fun b60 => (gL S58 b60 4 2).bind fun v62 => if 0 < (lg_cmp (v59 * 100) ((Int32.toInt64 a4) * v62)) then ((f_X11_fair_J144 a0 a5 kb104 x31 x51) 0 S58) else ((f_X11_fair_J144 a0 a5 kb104 x31 x51) 1 S58)) else none)
def f_X11_fair_L104 (a0 : Nat) (a4 : Int32) (a5 : Int32) (x31 : Int32) (kx206 : (HSt → Option (Int32 × HSt))) : Nat → Int32 → HSt → Option (Int32 × HSt)
  | 0, _, _ => none
  | n + 1, x51, S => f_X11_fair_B104 a0 a4 a5 x31 kx206 (f_X11_fair_L104 a0 a4 a5 x31 kx206 n) x51 S
def f_X11_fair_B63 (a0 : Nat) (a1 : Int32) (a2 : Int32) (a3 : Int32) (a4 : Int32) (a5 : Int32) (kx212 : (HSt → Option (Int32 × HSt))) (kb63 : (Int32 → HSt → Option (Int32 × HSt))) (x31 : Int32) (S32 : HSt) : Option (Int32 × HSt) := if 6 < x31 then (kx212 S32) else ((gR S32 a0 11 9).bind fun b34 => if gC S32 b34 = some 4 then ((f_X4_add S32 b34 (Int32.toInt64 a3) 100).bind fun S38 => (gR S38 a0 11 8).bind fun b39 => if gC S38 a0 = some 11 then (bd2 (f_X11_placesWithin S38 a0 a2 a1) fun v44 S43 => (gI S43 a0 11 0).bind fun v45 => if gC S43 b39 = some 4 then ((f_X4_add S43 b39 (Int32.toInt64 v44) (Int32.toInt64 v45)).bind fun S49 => (f_X11_fair_L104 a0 a4 a5 x31 (f_X11_fair_K206 kb63 x31) FU) 0 S49) else none) else none) else none)
def f_X11_fair_L63 (a0 : Nat) (a1 : Int32) (a2 : Int32) (a3 : Int32) (a4 : Int32) (a5 : Int32) (kx212 : (HSt → Option (Int32 × HSt))) : Nat → Int32 → HSt → Option (Int32 × HSt)
  | 0, _, _ => none
  | n + 1, x31, S => f_X11_fair_B63 a0 a1 a2 a3 a4 a5 kx212 (f_X11_fair_L63 a0 a1 a2 a3 a4 a5 kx212 n) x31 S
def f_X11_fair (S : HSt) (a0 : Nat) (a1 : Int32) (a2 : Int32) (a3 : Int32) (a4 : Int32) (a5 : Int32) : Option (Int32 × HSt) := if gC S a0 = some 11 then (bd2 (f_X11_isPlace S a0 a2) fun v4 S3 => if v4 = 0 then (some ((-1), S3)) else (if a1 < 0 then (some ((-2), S3)) else (if 100 ≤ a1 then (some ((-2), S3)) else (bd2 (f_X11_isPercent S3 a3) fun v10 S9 => if v10 = 0 then (some ((-2), S9)) else (bd2 (f_X11_isPercent S9 a4) fun v14 S13 => if v14 = 0 then (some ((-2), S13)) else (bd2 (f_X11_isPercent S13 a5) fun v18 S17 => if v18 = 0 then (some ((-2), S17)) else ((gR S17 a0 11 9).bind fun b20 => if gC S17 b20 = some 4 then ((f_X4_start S17 b20).bind fun S24 => (gR S24 a0 11 8).bind fun b25 => if gC S24 b25 = some 4 then ((f_X4_start S24 b25).bind fun S29 => (f_X11_fair_L63 a0 a1 a2 a3 a4 a5 f_X11_fair_K212 FU) 1 S29) else none) else none))))))) else none
abbrev rm_X11_fair : Room := { frames := 3, cells := 0, slots := 0, locals := 66 }
abbrev w_X11_fair : List Cond := Cond.code yX11_fair cX11_fair 10 (Option.some FieldType.int) :: lwG
theorem yd_X11_fair : yX11_fair.cls ≠ "java/lang/invoke/MethodHandle" ∧ yX11_fair.cls ≠ "java/lang/invoke/VarHandle" ∧ (parseMethodDescriptor yX11_fair.desc).map (fun d => d.parameters.length) = some 5 := by decide +kernel
theorem ye_X11_fair : yX11_fair.cls = RX11 ∧ yX11_fair.cls ≠ "java/lang/invoke/MethodHandle" ∧ yX11_fair.cls ≠ "java/lang/invoke/VarHandle" ∧ (parseMethodDescriptor yX11_fair.desc).map (fun d => d.parameters.length) = some 5 := by decide +kernel
set_option maxHeartbeats 4000000 in
set_option maxRecDepth 100000 in
theorem c_X11_fair (l : Launch) (D : va_G) (kA ρ : Nat → Nat) (HB : Heap) (S : HSt) (a0 : Nat) (a1 : Int32) (a2 : Int32) (a3 : Int32) (a4 : Int32) (a5 : Int32) (res : Int32 × HSt) (h : f_X11_fair S a0 a1 a2 a3 a4 a5 = some res) : Met l yX11_fair w_X11_fair rm_X11_fair (hPc D kA ρ HB S [.ref a0, .int a1, .int a2, .int a3, .int a4, .int a5]) (hQi D kA HB S res) 0 0 (hFree HB) := by
  refine Met.ofW (cc := cX11_fair) (maxL := 10) (ret := (Option.some FieldType.int)) (by decide) rfl ?_
  intro p e s m args below meth c s₁ B hml hv
  obtain ⟨rfl, hE, h0⟩ := hv
  have hx := B.exec
  have hb := B.bytes
  have hr := B.returns
  have hts0 := atoms_spec (ws := w_X11_fair) B.pre
  have hts : ∀ w ∈ lwG, w.before _ s = true := fun w hw => hts0 w (List.mem_cons_of_mem _ hw)
  have hown : s.vm.findClass RX11 = some m.cls := findClass_of_methodNamed B.named
  have hlocks := B.notSynchronized
  have hI : hqX D kA HB S.2 S s.heap [] := ⟨h0, Nat.le_refl _, fun _ q => absurd q List.not_mem_nil⟩
  have hl := lv_entry ([.ref a0, .int a1, .int a2, .int a3, .int a4, .int a5]) (n := 10) (Nat.le_of_ble_eq_true rfl)
  rw [lg_entry_eq]
  generalize (lg_sl ([.ref a0, .int a1, .int a2, .int a3, .int a4, .int a5]) ++ List.replicate (10 - (lg_sl ([.ref a0, .int a1, .int a2, .int a3, .int a4, .int a5])).length) Slot.unset).toArray = ls at hl ⊢
  have hl : lv_has ls 10 [(0, .ref a0), (1, .int a1), (2, .int a2), (3, .int a3), (4, .int a4), (5, .int a5)] := hl
  unfold f_X11_fair at h
  refine lv_aload_n hx hb dX11_fair_0 rfl (lv_at hl 0 rfl) ?_
  refine lv_iload_n hx hb dX11_fair_1 rfl (lv_at hl 2 rfl) ?_
  obtain ⟨g2, h⟩ := hq_g h
  obtain ⟨v4, S3, g1, h⟩ := hq_bd2 h
  refine hq_calli hI (va_runV (As := [.int a2]) (rest := []) ⟨hx, hb, hml, hown, hts⟩ (c_X11_isPlace l D kA ρ HB S a0 a2 _ g1) (cwV 1 hts (gdIn (List.forall_mem_cons.mpr ⟨kw_201, (List.forall_mem_cons.mpr ⟨kw_203, (List.forall_mem_cons.mpr ⟨ks_0, (List.forall_mem_cons.mpr ⟨kw_1, (fun _ h => absurd h List.not_mem_nil)⟩)⟩)⟩)⟩) kw_204) rfl rfl rfl ye_X11_isPlace ⟨Nat.le_of_ble_eq_true rfl, Nat.le_of_ble_eq_true rfl⟩) (hq_preC hE hI g2 rfl _) rfl rfl hl.1 rfl (lv_room (Nat.le_of_ble_eq_true rfl)) dX11_fair_2 ⟨Nat.le_of_ble_eq_true rfl, Nat.le_of_ble_eq_true rfl⟩) (fun H locs hI => ?_)
  refine lv_if_ne (tgt := 10) hx hb dX11_fair_5 (by decide) (fun c5 => ?_) (fun c5 => ?_)
  · have h := hq_f h c5
    refine lv_iload_n hx hb dX11_fair_10 rfl (lv_at hl 1 rfl) ?_
    refine lv_if_lt (tgt := 43) hx hb dX11_fair_11 (by decide) (fun c6 => ?_) (fun c6 => ?_)
    · have h := hq_t h c6
      refine lv_bipush (v := (-2)) hx hb dX11_fair_43 (by decide) ?_
      exact hq_iret hx hb hr hlocks h0 hI h dX11_fair_45
    · have h := hq_f h c6
      refine lv_iload_n hx hb dX11_fair_14 rfl (lv_at hl 1 rfl) ?_
      refine lv_bipush (v := 100) hx hb dX11_fair_15 (by decide) ?_
      refine lv_icmp_ge (tgt := 43) hx hb dX11_fair_17 (by decide) (fun c7 => ?_) (fun c7 => ?_)
      · have h := hq_t h c7
        refine lv_bipush (v := (-2)) hx hb dX11_fair_43 (by decide) ?_
        exact hq_iret hx hb hr hlocks h0 hI h dX11_fair_45
      · have h := hq_f h c7
        refine lv_iload_n hx hb dX11_fair_20 rfl (lv_at hl 3 rfl) ?_
        obtain ⟨v10, S9, g8, h⟩ := hq_bd2 h
        refine hq_calli hI (va_runS (As := [.int a3]) (rest := []) ⟨hx, hb, hml, hown, hts⟩ (c_X11_isPercent l D kA ρ HB S3 a3 _ g8) (va_cwS 1 hts (gdIn (List.forall_mem_cons.mpr ⟨kw_759, (List.forall_mem_cons.mpr ⟨kw_760, (List.forall_mem_cons.mpr ⟨kw_1, (fun _ h => absurd h List.not_mem_nil)⟩)⟩)⟩) kw_761) rfl rfl rfl yd_X11_isPercent ⟨Nat.le_of_ble_eq_true rfl, Nat.le_of_ble_eq_true rfl⟩) (hq_preS hE hI _) rfl rfl hl.1 rfl (lv_room (Nat.le_of_ble_eq_true rfl)) dX11_fair_21 ⟨Nat.le_of_ble_eq_true rfl, Nat.le_of_ble_eq_true rfl⟩) (fun H locs hI => ?_)
        refine lv_if_eq (tgt := 43) hx hb dX11_fair_24 (by decide) (fun c11 => ?_) (fun c11 => ?_)
        · have h := hq_t h c11
          refine lv_bipush (v := (-2)) hx hb dX11_fair_43 (by decide) ?_
          exact hq_iret hx hb hr hlocks h0 hI h dX11_fair_45
        · have h := hq_f h c11
          refine lv_iload hx hb dX11_fair_27 (lv_at hl 4 rfl) ?_
          obtain ⟨v14, S13, g12, h⟩ := hq_bd2 h
          refine hq_calli hI (va_runS (As := [.int a4]) (rest := []) ⟨hx, hb, hml, hown, hts⟩ (c_X11_isPercent l D kA ρ HB S9 a4 _ g12) (va_cwS 1 hts (gdIn (List.forall_mem_cons.mpr ⟨kw_759, (List.forall_mem_cons.mpr ⟨kw_760, (List.forall_mem_cons.mpr ⟨kw_1, (fun _ h => absurd h List.not_mem_nil)⟩)⟩)⟩) kw_761) rfl rfl rfl yd_X11_isPercent ⟨Nat.le_of_ble_eq_true rfl, Nat.le_of_ble_eq_true rfl⟩) (hq_preS hE hI _) rfl rfl hl.1 rfl (lv_room (Nat.le_of_ble_eq_true rfl)) dX11_fair_29 ⟨Nat.le_of_ble_eq_true rfl, Nat.le_of_ble_eq_true rfl⟩) (fun H locs hI => ?_)
          refine lv_if_eq (tgt := 43) hx hb dX11_fair_32 (by decide) (fun c15 => ?_) (fun c15 => ?_)
          · have h := hq_t h c15
            refine lv_bipush (v := (-2)) hx hb dX11_fair_43 (by decide) ?_
            exact hq_iret hx hb hr hlocks h0 hI h dX11_fair_45
          · have h := hq_f h c15
            refine lv_iload hx hb dX11_fair_35 (lv_at hl 5 rfl) ?_
            obtain ⟨v18, S17, g16, h⟩ := hq_bd2 h
            refine hq_calli hI (va_runS (As := [.int a5]) (rest := []) ⟨hx, hb, hml, hown, hts⟩ (c_X11_isPercent l D kA ρ HB S13 a5 _ g16) (va_cwS 1 hts (gdIn (List.forall_mem_cons.mpr ⟨kw_759, (List.forall_mem_cons.mpr ⟨kw_760, (List.forall_mem_cons.mpr ⟨kw_1, (fun _ h => absurd h List.not_mem_nil)⟩)⟩)⟩) kw_761) rfl rfl rfl yd_X11_isPercent ⟨Nat.le_of_ble_eq_true rfl, Nat.le_of_ble_eq_true rfl⟩) (hq_preS hE hI _) rfl rfl hl.1 rfl (lv_room (Nat.le_of_ble_eq_true rfl)) dX11_fair_37 ⟨Nat.le_of_ble_eq_true rfl, Nat.le_of_ble_eq_true rfl⟩) (fun H locs hI => ?_)
            refine lv_if_ne (tgt := 46) hx hb dX11_fair_40 (by decide) (fun c19 => ?_) (fun c19 => ?_)
            · have h := hq_f h c19
              refine lv_aload_n hx hb dX11_fair_46 rfl (lv_at hl 0 rfl) ?_
              obtain ⟨b20, g21, h⟩ := hq_bind h
              obtain ⟨fs_g21, hs_g21, hv_g21⟩ := gR_at g21
              refine hq_get hx hb hts hown hE hI hs_g21 inG11 rfl 9 (by decide) kw_141 hv_g21 dX11_fair_47 ?_
              obtain ⟨g23, h⟩ := hq_g h
              obtain ⟨S24, g22, h⟩ := hq_bind h
              refine hq_callv hI (va_runV (As := []) (rest := []) ⟨hx, hb, hml, hown, hts⟩ (c_X4_start l D kA ρ HB S17 b20 _ g22) (cwV 0 hts (gdIn (List.forall_mem_cons.mpr ⟨kw_648, (List.forall_mem_cons.mpr ⟨kw_649, (List.forall_mem_cons.mpr ⟨kw_650, (List.forall_mem_cons.mpr ⟨kw_3, (fun _ h => absurd h List.not_mem_nil)⟩)⟩)⟩)⟩) kw_651) rfl rfl rfl ye_X4_start ⟨Nat.le_of_ble_eq_true rfl, Nat.le_of_ble_eq_true rfl⟩) (hq_preC hE hI g23 rfl _) rfl rfl hl.1 rfl (lv_room (Nat.le_of_ble_eq_true rfl)) dX11_fair_50 ⟨Nat.le_of_ble_eq_true rfl, Nat.le_of_ble_eq_true rfl⟩) (fun H locs hI => ?_)
              refine lv_aload_n hx hb dX11_fair_53 rfl (lv_at hl 0 rfl) ?_
              obtain ⟨b25, g26, h⟩ := hq_bind h
              obtain ⟨fs_g26, hs_g26, hv_g26⟩ := gR_at g26
              refine hq_get hx hb hts hown hE hI hs_g26 inG11 rfl 8 (by decide) kw_140 hv_g26 dX11_fair_54 ?_
              obtain ⟨g28, h⟩ := hq_g h
              obtain ⟨S29, g27, h⟩ := hq_bind h
              refine hq_callv hI (va_runV (As := []) (rest := []) ⟨hx, hb, hml, hown, hts⟩ (c_X4_start l D kA ρ HB S24 b25 _ g27) (cwV 0 hts (gdIn (List.forall_mem_cons.mpr ⟨kw_648, (List.forall_mem_cons.mpr ⟨kw_649, (List.forall_mem_cons.mpr ⟨kw_650, (List.forall_mem_cons.mpr ⟨kw_3, (fun _ h => absurd h List.not_mem_nil)⟩)⟩)⟩)⟩) kw_651) rfl rfl rfl ye_X4_start ⟨Nat.le_of_ble_eq_true rfl, Nat.le_of_ble_eq_true rfl⟩) (hq_preC hE hI g28 rfl _) rfl rfl hl.1 rfl (lv_room (Nat.le_of_ble_eq_true rfl)) dX11_fair_57 ⟨Nat.le_of_ble_eq_true rfl, Nat.le_of_ble_eq_true rfl⟩) (fun H locs hI => ?_)
              refine lv_iconst (v := 1) hx hb dX11_fair_60 (by decide) ?_
              refine lv_istore (lv' := [(6, .int 1), (0, .ref a0), (1, .int a1), (2, .int a2), (3, .int a3), (4, .int a4), (5, .int a5)]) hx hb dX11_fair_61 hl (by decide) rfl (fun ls hl => ?_)
              have hK212 : ∀ (S30 : HSt) (H : Heap) (locs : List Loc) (ls : Array Slot), f_X11_fair_K212 S30 = some res → hqX D kA HB S.2 S30 H locs → lv_has ls 10 [] → W p l e rm_X11_fair s m ([.ref a0, .int a1, .int a2, .int a3, .int a4, .int a5] : List Value).toArray below meth c H locs 0 0 (MQ below (hQi D kA HB S res) ([.ref a0, .int a1, .int a2, .int a3, .int a4, .int a5] : List Value).toArray s 0 0 (hFree HB)) (F0 m 212 ls []) := by
                intro S30 H locs ls h hI hl
                unfold f_X11_fair_K212 at h
                refine lv_bipush (v := (-5)) hx hb dX11_fair_212 (by decide) ?_
                exact hq_iret hx hb hr hlocks h0 hI h dX11_fair_214
              have hL63 : ∀ (n63 : Nat) (x31 : Int32) (S32 : HSt) (H : Heap) (locs : List Loc) (ls : Array Slot), (f_X11_fair_L63 a0 a1 a2 a3 a4 a5 f_X11_fair_K212 n63) x31 S32 = some res → hqX D kA HB S.2 S32 H locs → lv_has ls 10 [(0, .ref a0), (1, .int a1), (2, .int a2), (3, .int a3), (4, .int a4), (5, .int a5), (6, .int x31)] → W p l e rm_X11_fair s m ([.ref a0, .int a1, .int a2, .int a3, .int a4, .int a5] : List Value).toArray below meth c H locs 0 0 (MQ below (hQi D kA HB S res) ([.ref a0, .int a1, .int a2, .int a3, .int a4, .int a5] : List Value).toArray s 0 0 (hFree HB)) (F0 m 63 ls []) := by
                intro n63
                induction n63 with
                | zero =>
                  intro x31 S32 H locs ls h
                  have h : (none : Option (Int32 × HSt)) = some res := h
                  cases h
                | succ n63 ih63 =>
                  intro x31 S32 H locs ls h hI hl
                  have h : f_X11_fair_B63 a0 a1 a2 a3 a4 a5 f_X11_fair_K212 (f_X11_fair_L63 a0 a1 a2 a3 a4 a5 f_X11_fair_K212 n63) x31 S32 = some res := h
                  unfold f_X11_fair_B63 at h
                  refine lv_iload hx hb dX11_fair_63 (lv_at hl 6 rfl) ?_
                  refine lv_bipush (v := 6) hx hb dX11_fair_65 (by decide) ?_
                  refine lv_icmp_gt (tgt := 212) hx hb dX11_fair_67 (by decide) (fun c33 => ?_) (fun c33 => ?_)
                  · have h := hq_t h c33
                    exact hK212 S32 _ _ _ h hI (lv_sub hl [] rfl)
                  · have h := hq_f h c33
                    refine lv_aload_n hx hb dX11_fair_70 rfl (lv_at hl 0 rfl) ?_
                    obtain ⟨b34, g35, h⟩ := hq_bind h
                    obtain ⟨fs_g35, hs_g35, hv_g35⟩ := gR_at g35
                    refine hq_get hx hb hts hown hE hI hs_g35 inG11 rfl 9 (by decide) kw_141 hv_g35 dX11_fair_71 ?_
                    refine lv_iload_n hx hb dX11_fair_74 rfl (lv_at hl 3 rfl) ?_
                    refine lv_i2l (v := Int32.toInt64 a3) hx hb dX11_fair_75 rfl ?_
                    refine lv_ldc2 (v := 100) hx hb hown (hts _ kw_762) dX11_fair_76 ?_
                    obtain ⟨g37, h⟩ := hq_g h
                    obtain ⟨S38, g36, h⟩ := hq_bind h
                    refine hq_callv hI (va_runV (As := [.long (Int32.toInt64 a3), .long 100]) (rest := []) ⟨hx, hb, hml, hown, hts⟩ (c_X4_add l D kA ρ HB S32 b34 (Int32.toInt64 a3) 100 _ g36) (cwV 2 hts (gdIn (List.forall_mem_cons.mpr ⟨kw_655, (List.forall_mem_cons.mpr ⟨kw_656, (List.forall_mem_cons.mpr ⟨kw_657, (List.forall_mem_cons.mpr ⟨kw_3, (fun _ h => absurd h List.not_mem_nil)⟩)⟩)⟩)⟩) kw_658) rfl rfl rfl ye_X4_add ⟨Nat.le_of_ble_eq_true rfl, Nat.le_of_ble_eq_true rfl⟩) (hq_preC hE hI g37 rfl _) rfl rfl hl.1 rfl (lv_room (Nat.le_of_ble_eq_true rfl)) dX11_fair_79 ⟨Nat.le_of_ble_eq_true rfl, Nat.le_of_ble_eq_true rfl⟩) (fun H locs hI => ?_)
                    refine lv_aload_n hx hb dX11_fair_82 rfl (lv_at hl 0 rfl) ?_
                    obtain ⟨b39, g40, h⟩ := hq_bind h
                    obtain ⟨fs_g40, hs_g40, hv_g40⟩ := gR_at g40
                    refine hq_get hx hb hts hown hE hI hs_g40 inG11 rfl 8 (by decide) kw_140 hv_g40 dX11_fair_83 ?_
                    refine lv_aload_n hx hb dX11_fair_86 rfl (lv_at hl 0 rfl) ?_
                    refine lv_iload_n hx hb dX11_fair_87 rfl (lv_at hl 2 rfl) ?_
                    refine lv_iload_n hx hb dX11_fair_88 rfl (lv_at hl 1 rfl) ?_
                    obtain ⟨g42, h⟩ := hq_g h
                    obtain ⟨v44, S43, g41, h⟩ := hq_bd2 h
                    refine hq_calli hI (va_runV (As := [.int a2, .int a1]) (rest := [.ref b39]) ⟨hx, hb, hml, hown, hts⟩ (c_X11_placesWithin l D kA ρ HB S38 a0 a2 a1 _ g41) (cwV 2 hts (gdIn (List.forall_mem_cons.mpr ⟨kw_618, (List.forall_mem_cons.mpr ⟨kw_620, (List.forall_mem_cons.mpr ⟨ks_17, (List.forall_mem_cons.mpr ⟨kw_1, (fun _ h => absurd h List.not_mem_nil)⟩)⟩)⟩)⟩) kw_621) rfl rfl rfl ye_X11_placesWithin ⟨Nat.le_of_ble_eq_true rfl, Nat.le_of_ble_eq_true rfl⟩) (hq_preC hE hI g42 rfl _) rfl rfl hl.1 rfl (lv_room (Nat.le_of_ble_eq_true rfl)) dX11_fair_89 ⟨Nat.le_of_ble_eq_true rfl, Nat.le_of_ble_eq_true rfl⟩) (fun H locs hI => ?_)
                    refine lv_i2l (v := Int32.toInt64 v44) hx hb dX11_fair_92 rfl ?_
                    refine lv_aload_n hx hb dX11_fair_93 rfl (lv_at hl 0 rfl) ?_
                    obtain ⟨v45, g46, h⟩ := hq_bind h
                    obtain ⟨fs_g46, hs_g46, hv_g46⟩ := gI_at g46
                    refine hq_get hx hb hts hown hE hI hs_g46 inG11 rfl 0 (by decide) kw_132 hv_g46 dX11_fair_94 ?_
                    refine lv_i2l (v := Int32.toInt64 v45) hx hb dX11_fair_97 rfl ?_
                    obtain ⟨g48, h⟩ := hq_g h
                    obtain ⟨S49, g47, h⟩ := hq_bind h
                    refine hq_callv hI (va_runV (As := [.long (Int32.toInt64 v44), .long (Int32.toInt64 v45)]) (rest := []) ⟨hx, hb, hml, hown, hts⟩ (c_X4_add l D kA ρ HB S43 b39 (Int32.toInt64 v44) (Int32.toInt64 v45) _ g47) (cwV 2 hts (gdIn (List.forall_mem_cons.mpr ⟨kw_655, (List.forall_mem_cons.mpr ⟨kw_656, (List.forall_mem_cons.mpr ⟨kw_657, (List.forall_mem_cons.mpr ⟨kw_3, (fun _ h => absurd h List.not_mem_nil)⟩)⟩)⟩)⟩) kw_658) rfl rfl rfl ye_X4_add ⟨Nat.le_of_ble_eq_true rfl, Nat.le_of_ble_eq_true rfl⟩) (hq_preC hE hI g48 rfl _) rfl rfl hl.1 rfl (lv_room (Nat.le_of_ble_eq_true rfl)) dX11_fair_98 ⟨Nat.le_of_ble_eq_true rfl, Nat.le_of_ble_eq_true rfl⟩) (fun H locs hI => ?_)
                    refine lv_iconst (v := 0) hx hb dX11_fair_101 (by decide) ?_
                    refine lv_istore (lv' := [(7, .int 0), (0, .ref a0), (1, .int a1), (2, .int a2), (3, .int a3), (4, .int a4), (5, .int a5), (6, .int x31)]) hx hb dX11_fair_102 hl (by decide) rfl (fun ls hl => ?_)
                    have hK206 : ∀ (S50 : HSt) (H : Heap) (locs : List Loc) (ls : Array Slot), (f_X11_fair_K206 (f_X11_fair_L63 a0 a1 a2 a3 a4 a5 f_X11_fair_K212 n63) x31) S50 = some res → hqX D kA HB S.2 S50 H locs → lv_has ls 10 [(0, .ref a0), (1, .int a1), (2, .int a2), (3, .int a3), (4, .int a4), (5, .int a5), (6, .int x31)] → W p l e rm_X11_fair s m ([.ref a0, .int a1, .int a2, .int a3, .int a4, .int a5] : List Value).toArray below meth c H locs 0 0 (MQ below (hQi D kA HB S res) ([.ref a0, .int a1, .int a2, .int a3, .int a4, .int a5] : List Value).toArray s 0 0 (hFree HB)) (F0 m 206 ls []) := by
                      intro S50 H locs ls h hI hl
                      unfold f_X11_fair_K206 at h
                      refine lv_iinc (v := (x31 + 1)) (lv' := [(6, .int (x31 + 1)), (0, .ref a0), (1, .int a1), (2, .int a2), (3, .int a3), (4, .int a4), (5, .int a5)]) hx hb dX11_fair_206 hl (k := 6) rfl rfl (by decide) rfl (fun ls hl => ?_)
                      refine lv_goto (tgt := 63) hx hb dX11_fair_209 (by decide) ?_
                      exact ih63 (x31 + 1) S50 _ _ _ h hI (lv_sub hl [1, 2, 3, 4, 5, 6, 0] rfl)
                    have hL104 : ∀ (n104 : Nat) (x51 : Int32) (S52 : HSt) (H : Heap) (locs : List Loc) (ls : Array Slot), (f_X11_fair_L104 a0 a4 a5 x31 (f_X11_fair_K206 (f_X11_fair_L63 a0 a1 a2 a3 a4 a5 f_X11_fair_K212 n63) x31) n104) x51 S52 = some res → hqX D kA HB S.2 S52 H locs → lv_has ls 10 [(0, .ref a0), (1, .int a1), (2, .int a2), (3, .int a3), (4, .int a4), (5, .int a5), (6, .int x31), (7, .int x51)] → W p l e rm_X11_fair s m ([.ref a0, .int a1, .int a2, .int a3, .int a4, .int a5] : List Value).toArray below meth c H locs 0 0 (MQ below (hQi D kA HB S res) ([.ref a0, .int a1, .int a2, .int a3, .int a4, .int a5] : List Value).toArray s 0 0 (hFree HB)) (F0 m 104 ls []) := by
                      intro n104
                      induction n104 with
                      | zero =>
                        intro x51 S52 H locs ls h
                        have h : (none : Option (Int32 × HSt)) = some res := h
                        cases h
                      | succ n104 ih104 =>
                        intro x51 S52 H locs ls h hI hl
                        have h : f_X11_fair_B104 a0 a4 a5 x31 (f_X11_fair_K206 (f_X11_fair_L63 a0 a1 a2 a3 a4 a5 f_X11_fair_K212 n63) x31) (f_X11_fair_L104 a0 a4 a5 x31 (f_X11_fair_K206 (f_X11_fair_L63 a0 a1 a2 a3 a4 a5 f_X11_fair_K212 n63) x31) n104) x51 S52 = some res := h
                        unfold f_X11_fair_B104 at h
                        refine lv_iload hx hb dX11_fair_104 (lv_at hl 7 rfl) ?_
                        refine lv_iload hx hb dX11_fair_106 (lv_at hl 6 rfl) ?_
                        refine lv_icmp_gt (tgt := 206) hx hb dX11_fair_108 (by decide) (fun c53 => ?_) (fun c53 => ?_)
                        · have h := hq_t h c53
                          exact hK206 S52 _ _ _ h hI (lv_sub hl [0, 1, 2, 3, 4, 5, 6] rfl)
                        · have h := hq_f h c53
                          refine lv_aload_n hx hb dX11_fair_111 rfl (lv_at hl 0 rfl) ?_
                          obtain ⟨b54, g55, h⟩ := hq_bind h
                          obtain ⟨fs_g55, hs_g55, hv_g55⟩ := gR_at g55
                          refine hq_get hx hb hts hown hE hI hs_g55 inG11 rfl 9 (by decide) kw_141 hv_g55 dX11_fair_112 ?_
                          refine lv_iload hx hb dX11_fair_115 (lv_at hl 7 rfl) ?_
                          obtain ⟨g57, h⟩ := hq_g h
                          obtain ⟨v59, S58, g56, h⟩ := hq_bd2 h
                          refine hq_calll hI (va_runV (As := [.int x51]) (rest := []) ⟨hx, hb, hml, hown, hts⟩ (c_X4_fewer l D kA ρ HB S52 b54 x51 _ g56) (cwV 1 hts (gdIn (List.forall_mem_cons.mpr ⟨kw_680, (List.forall_mem_cons.mpr ⟨kw_664, (List.forall_mem_cons.mpr ⟨kw_665, (List.forall_mem_cons.mpr ⟨kw_3, (fun _ h => absurd h List.not_mem_nil)⟩)⟩)⟩)⟩) kw_666) rfl rfl rfl ye_X4_fewer ⟨Nat.le_of_ble_eq_true rfl, Nat.le_of_ble_eq_true rfl⟩) (hq_preC hE hI g57 rfl _) rfl rfl hl.1 rfl (lv_room (Nat.le_of_ble_eq_true rfl)) dX11_fair_117 ⟨Nat.le_of_ble_eq_true rfl, Nat.le_of_ble_eq_true rfl⟩) (fun H locs hI => ?_)
                          refine lv_ldc2 (v := 100) hx hb hown (hts _ kw_762) dX11_fair_120 ?_
                          refine lv_lmul hx hb dX11_fair_123 ?_
                          refine lv_iload hx hb dX11_fair_124 (lv_at hl 4 rfl) ?_
                          refine lv_i2l (v := Int32.toInt64 a4) hx hb dX11_fair_126 rfl ?_
                          refine lv_aload_n hx hb dX11_fair_127 rfl (lv_at hl 0 rfl) ?_
                          obtain ⟨b60, g61, h⟩ := hq_bind h
                          obtain ⟨fs_g61, hs_g61, hv_g61⟩ := gR_at g61
                          refine hq_get hx hb hts hown hE hI hs_g61 inG11 rfl 9 (by decide) kw_141 hv_g61 dX11_fair_128 ?_
                          obtain ⟨v62, g63, h⟩ := hq_bind h
                          obtain ⟨fs_g63, hs_g63, hv_g63⟩ := gL_at g63
                          refine hq_getN hx hb hts hown hE hI hs_g63 inG4 rfl 2 (by decide) kn_62 hv_g63 dX11_fair_131 ?_
                          refine lv_lmul hx hb dX11_fair_134 ?_
                          refine W.lcmp hx hb dX11_fair_135 ?_
                          have hJ144 : ∀ (y64 : Int32) (S65 : HSt) (H : Heap) (locs : List Loc) (ls : Array Slot), (f_X11_fair_J144 a0 a5 (f_X11_fair_L104 a0 a4 a5 x31 (f_X11_fair_K206 (f_X11_fair_L63 a0 a1 a2 a3 a4 a5 f_X11_fair_K212 n63) x31) n104) x31 x51) y64 S65 = some res → hqX D kA HB S.2 S65 H locs → lv_has ls 10 [(0, .ref a0), (1, .int a1), (2, .int a2), (3, .int a3), (4, .int a4), (5, .int a5), (6, .int x31), (7, .int x51)] → W p l e rm_X11_fair s m ([.ref a0, .int a1, .int a2, .int a3, .int a4, .int a5] : List Value).toArray below meth c H locs 0 0 (MQ below (hQi D kA HB S res) ([.ref a0, .int a1, .int a2, .int a3, .int a4, .int a5] : List Value).toArray s 0 0 (hFree HB)) (F0 m 144 ls [.int y64]) := by
                            intro y64 S65 H locs ls h hI hl
                            unfold f_X11_fair_J144 at h
                            refine lv_istore (lv' := [(8, .int y64), (0, .ref a0), (1, .int a1), (2, .int a2), (3, .int a3), (4, .int a4), (5, .int a5), (6, .int x31), (7, .int x51)]) hx hb dX11_fair_144 hl (by decide) rfl (fun ls hl => ?_)
                            refine lv_aload_n hx hb dX11_fair_146 rfl (lv_at hl 1 rfl) ?_
                            obtain ⟨b66, g67, h⟩ := hq_bind h
                            obtain ⟨fs_g67, hs_g67, hv_g67⟩ := gR_at g67
                            refine hq_get hx hb hts hown hE hI hs_g67 inG11 rfl 8 (by decide) kw_140 hv_g67 dX11_fair_147 ?_
                            refine lv_iload hx hb dX11_fair_150 (lv_at hl 8 rfl) ?_
                            obtain ⟨g69, h⟩ := hq_g h
                            obtain ⟨v71, S70, g68, h⟩ := hq_bd2 h
                            refine hq_calll hI (va_runV (As := [.int x51]) (rest := []) ⟨hx, hb, hml, hown, hts⟩ (c_X4_orMore l D kA ρ HB S65 b66 x51 _ g68) (cwV 1 hts (gdIn (List.forall_mem_cons.mpr ⟨kw_659, (List.forall_mem_cons.mpr ⟨kw_660, (List.forall_mem_cons.mpr ⟨kw_661, (List.forall_mem_cons.mpr ⟨kw_3, (fun _ h => absurd h List.not_mem_nil)⟩)⟩)⟩)⟩) kw_662) rfl rfl rfl ye_X4_orMore ⟨Nat.le_of_ble_eq_true rfl, Nat.le_of_ble_eq_true rfl⟩) (hq_preC hE hI g69 rfl _) rfl rfl hl.1 rfl (lv_room (Nat.le_of_ble_eq_true rfl)) dX11_fair_152 ⟨Nat.le_of_ble_eq_true rfl, Nat.le_of_ble_eq_true rfl⟩) (fun H locs hI => ?_)
                            refine lv_ldc2 (v := 100) hx hb hown (hts _ kw_762) dX11_fair_155 ?_
                            refine lv_lmul hx hb dX11_fair_158 ?_
                            refine lv_iload hx hb dX11_fair_159 (lv_at hl 6 rfl) ?_
                            refine lv_i2l (v := Int32.toInt64 a5) hx hb dX11_fair_161 rfl ?_
                            refine lv_aload_n hx hb dX11_fair_162 rfl (lv_at hl 1 rfl) ?_
                            obtain ⟨b72, g73, h⟩ := hq_bind h
                            obtain ⟨fs_g73, hs_g73, hv_g73⟩ := gR_at g73
                            refine hq_get hx hb hts hown hE hI hs_g73 inG11 rfl 8 (by decide) kw_140 hv_g73 dX11_fair_163 ?_
                            obtain ⟨v74, g75, h⟩ := hq_bind h
                            obtain ⟨fs_g75, hs_g75, hv_g75⟩ := gL_at g75
                            refine hq_getN hx hb hts hown hE hI hs_g75 inG4 rfl 2 (by decide) kn_62 hv_g75 dX11_fair_166 ?_
                            refine lv_lmul hx hb dX11_fair_169 ?_
                            refine W.lcmp hx hb dX11_fair_170 ?_
                            have hJ179 : ∀ (y76 : Int32) (S77 : HSt) (H : Heap) (locs : List Loc) (ls : Array Slot), (f_X11_fair_J179 (f_X11_fair_L104 a0 a4 a5 x31 (f_X11_fair_K206 (f_X11_fair_L63 a0 a1 a2 a3 a4 a5 f_X11_fair_K212 n63) x31) n104) x31 x51 y64) y76 S77 = some res → hqX D kA HB S.2 S77 H locs → lv_has ls 10 [(0, .ref a0), (1, .int a1), (2, .int a2), (3, .int a3), (4, .int a4), (5, .int a5), (6, .int x31), (7, .int x51), (8, .int y64)] → W p l e rm_X11_fair s m ([.ref a0, .int a1, .int a2, .int a3, .int a4, .int a5] : List Value).toArray below meth c H locs 0 0 (MQ below (hQi D kA HB S res) ([.ref a0, .int a1, .int a2, .int a3, .int a4, .int a5] : List Value).toArray s 0 0 (hFree HB)) (F0 m 179 ls [.int y76]) := by
                              intro y76 S77 H locs ls h hI hl
                              unfold f_X11_fair_J179 at h
                              refine lv_istore (lv' := [(9, .int y76), (0, .ref a0), (1, .int a1), (2, .int a2), (3, .int a3), (4, .int a4), (5, .int a5), (6, .int x31), (7, .int x51), (8, .int y64)]) hx hb dX11_fair_179 hl (by decide) rfl (fun ls hl => ?_)
                              refine lv_iload hx hb dX11_fair_181 (lv_at hl 9 rfl) ?_
                              refine lv_if_eq (tgt := 200) hx hb dX11_fair_183 (by decide) (fun c78 => ?_) (fun c78 => ?_)
                              · have h := hq_t h c78
                                refine lv_iinc (v := (x51 + 1)) (lv' := [(7, .int (x51 + 1)), (9, .int y76), (0, .ref a0), (1, .int a1), (2, .int a2), (3, .int a3), (4, .int a4), (5, .int a5), (6, .int x31), (8, .int y64)]) hx hb dX11_fair_200 hl (k := 8) rfl rfl (by decide) rfl (fun ls hl => ?_)
                                refine lv_goto (tgt := 104) hx hb dX11_fair_203 (by decide) ?_
                                exact ih104 (x51 + 1) S77 _ _ _ h hI (lv_sub hl [2, 3, 4, 5, 6, 7, 8, 0] rfl)
                              · have h := hq_f h c78
                                refine lv_iload hx hb dX11_fair_186 (lv_at hl 0 rfl) ?_
                                refine lv_if_eq (tgt := 200) hx hb dX11_fair_188 (by decide) (fun c79 => ?_) (fun c79 => ?_)
                                · have h := hq_t h c79
                                  refine lv_iinc (v := (x51 + 1)) (lv' := [(7, .int (x51 + 1)), (9, .int y76), (0, .ref a0), (1, .int a1), (2, .int a2), (3, .int a3), (4, .int a4), (5, .int a5), (6, .int x31), (8, .int y64)]) hx hb dX11_fair_200 hl (k := 8) rfl rfl (by decide) rfl (fun ls hl => ?_)
                                  refine lv_goto (tgt := 104) hx hb dX11_fair_203 (by decide) ?_
                                  exact ih104 (x51 + 1) S77 _ _ _ h hI (lv_sub hl [2, 3, 4, 5, 6, 7, 8, 0] rfl)
                                · have h := hq_f h c79
                                  refine lv_bipush (v := 10) hx hb dX11_fair_191 (by decide) ?_
                                  refine lv_iload hx hb dX11_fair_193 (lv_at hl 7 rfl) ?_
                                  refine lv_imul hx hb dX11_fair_195 ?_
                                  refine lv_iload hx hb dX11_fair_196 (lv_at hl 8 rfl) ?_
                                  refine lv_iadd hx hb dX11_fair_198 ?_
                                  exact hq_iret hx hb hr hlocks h0 hI h dX11_fair_199
                            refine lv_if_gt (tgt := 178) hx hb dX11_fair_171 (by decide) (fun c80 => ?_) (fun c80 => ?_)
                            · have h := hq_t h c80
                              refine lv_iconst (v := 0) hx hb dX11_fair_178 (by decide) ?_
                              exact hJ179 0 S70 _ _ _ h hI (lv_sub hl [1, 2, 3, 4, 5, 6, 7, 8, 0] rfl)
                            · have h := hq_f h c80
                              refine lv_iconst (v := 1) hx hb dX11_fair_174 (by decide) ?_
                              refine lv_goto (tgt := 179) hx hb dX11_fair_175 (by decide) ?_
                              exact hJ179 1 S70 _ _ _ h hI (lv_sub hl [1, 2, 3, 4, 5, 6, 7, 8, 0] rfl)
                          refine lv_if_gt (tgt := 143) hx hb dX11_fair_136 (by decide) (fun c81 => ?_) (fun c81 => ?_)
                          · have h := hq_t h c81
                            refine lv_iconst (v := 0) hx hb dX11_fair_143 (by decide) ?_
                            exact hJ144 0 S58 _ _ _ h hI (lv_sub hl [0, 1, 2, 3, 4, 5, 6, 7] rfl)
                          · have h := hq_f h c81
                            refine lv_iconst (v := 1) hx hb dX11_fair_139 (by decide) ?_
                            refine lv_goto (tgt := 144) hx hb dX11_fair_140 (by decide) ?_
                            exact hJ144 1 S58 _ _ _ h hI (lv_sub hl [0, 1, 2, 3, 4, 5, 6, 7] rfl)
                    exact hL104 FU 0 S49 _ _ _ h hI (lv_sub hl [1, 2, 3, 4, 5, 6, 7, 0] rfl)
              exact hL63 FU 1 S29 _ _ _ h hI (lv_sub hl [1, 2, 3, 4, 5, 6, 0] rfl)
            · have h := hq_t h c19
              refine lv_bipush (v := (-2)) hx hb dX11_fair_43 (by decide) ?_
              exact hq_iret hx hb hr hlocks h0 hI h dX11_fair_45
  · have h := hq_t h c5
    refine lv_iconst (v := (-1)) hx hb dX11_fair_8 (by decide) ?_
    exact hq_iret hx hb hr hlocks h0 hI h dX11_fair_9
-- RodDips.excuses(IIII)I
theorem dX11_excuses_0 : decode cX11_excuses 0 = .ok (.aload_n 0, 1) := by decide +kernel
theorem dX11_excuses_1 : decode cX11_excuses 1 = .ok (.iload_n 1, 1) := by decide +kernel
theorem dX11_excuses_2 : decode cX11_excuses 2 = .ok (.invokevirtual 147, 3) := by decide +kernel
theorem dX11_excuses_5 : decode cX11_excuses 5 = .ok (.astore 5, 2) := by decide +kernel
theorem dX11_excuses_7 : decode cX11_excuses 7 = .ok (.aload 5, 2) := by decide +kernel
theorem dX11_excuses_9 : decode cX11_excuses 9 = .ok (.ifnull 19, 3) := by decide +kernel
theorem dX11_excuses_12 : decode cX11_excuses 12 = .ok (.iload_n 2, 1) := by decide +kernel
theorem dX11_excuses_13 : decode cX11_excuses 13 = .ok (.invokestatic 89, 3) := by decide +kernel
theorem dX11_excuses_16 : decode cX11_excuses 16 = .ok (.ifCond .eq 12, 3) := by decide +kernel
theorem dX11_excuses_19 : decode cX11_excuses 19 = .ok (.iload_n 3, 1) := by decide +kernel
theorem dX11_excuses_20 : decode cX11_excuses 20 = .ok (.ifCond .lt 8, 3) := by decide +kernel
theorem dX11_excuses_23 : decode cX11_excuses 23 = .ok (.iload_n 3, 1) := by decide +kernel
theorem dX11_excuses_24 : decode cX11_excuses 24 = .ok (.iconst 2, 1) := by decide +kernel
theorem dX11_excuses_25 : decode cX11_excuses 25 = .ok (.if_icmp .le 5, 3) := by decide +kernel
theorem dX11_excuses_28 : decode cX11_excuses 28 = .ok (.iconst (-1), 1) := by decide +kernel
theorem dX11_excuses_29 : decode cX11_excuses 29 = .ok (.ireturn, 1) := by decide +kernel
theorem dX11_excuses_30 : decode cX11_excuses 30 = .ok (.iload 4, 2) := by decide +kernel
theorem dX11_excuses_32 : decode cX11_excuses 32 = .ok (.invokestatic 243, 3) := by decide +kernel
theorem dX11_excuses_35 : decode cX11_excuses 35 = .ok (.ifCond .ne 6, 3) := by decide +kernel
theorem dX11_excuses_38 : decode cX11_excuses 38 = .ok (.bipush (-2), 2) := by decide +kernel
theorem dX11_excuses_40 : decode cX11_excuses 40 = .ok (.ireturn, 1) := by decide +kernel
theorem dX11_excuses_41 : decode cX11_excuses 41 = .ok (.aload_n 0, 1) := by decide +kernel
theorem dX11_excuses_42 : decode cX11_excuses 42 = .ok (.iload_n 2, 1) := by decide +kernel
theorem dX11_excuses_43 : decode cX11_excuses 43 = .ok (.invokevirtual 212, 3) := by decide +kernel
theorem dX11_excuses_46 : decode cX11_excuses 46 = .ok (.istore 6, 2) := by decide +kernel
theorem dX11_excuses_48 : decode cX11_excuses 48 = .ok (.aload_n 0, 1) := by decide +kernel
theorem dX11_excuses_49 : decode cX11_excuses 49 = .ok (.aload 5, 2) := by decide +kernel
theorem dX11_excuses_51 : decode cX11_excuses 51 = .ok (.invokevirtual 160, 3) := by decide +kernel
theorem dX11_excuses_54 : decode cX11_excuses 54 = .ok (.iload 6, 2) := by decide +kernel
theorem dX11_excuses_56 : decode cX11_excuses 56 = .ok (.iand, 1) := by decide +kernel
theorem dX11_excuses_57 : decode cX11_excuses 57 = .ok (.istore 7, 2) := by decide +kernel
theorem dX11_excuses_59 : decode cX11_excuses 59 = .ok (.iload_n 3, 1) := by decide +kernel
theorem dX11_excuses_60 : decode cX11_excuses 60 = .ok (.ifCond .ne 9, 3) := by decide +kernel
theorem dX11_excuses_63 : decode cX11_excuses 63 = .ok (.iload 7, 2) := by decide +kernel
theorem dX11_excuses_65 : decode cX11_excuses 65 = .ok (.invokestatic 185, 3) := by decide +kernel
theorem dX11_excuses_68 : decode cX11_excuses 68 = .ok (.ireturn, 1) := by decide +kernel
theorem dX11_excuses_69 : decode cX11_excuses 69 = .ok (.iload_n 3, 1) := by decide +kernel
theorem dX11_excuses_70 : decode cX11_excuses 70 = .ok (.iconst 1, 1) := by decide +kernel
theorem dX11_excuses_71 : decode cX11_excuses 71 = .ok (.if_icmp .ne 16, 3) := by decide +kernel
theorem dX11_excuses_74 : decode cX11_excuses 74 = .ok (.iload 7, 2) := by decide +kernel
theorem dX11_excuses_76 : decode cX11_excuses 76 = .ok (.aload_n 0, 1) := by decide +kernel
theorem dX11_excuses_77 : decode cX11_excuses 77 = .ok (.invokevirtual 257, 3) := by decide +kernel
theorem dX11_excuses_80 : decode cX11_excuses 80 = .ok (.iconst (-1), 1) := by decide +kernel
theorem dX11_excuses_81 : decode cX11_excuses 81 = .ok (.ixor, 1) := by decide +kernel
theorem dX11_excuses_82 : decode cX11_excuses 82 = .ok (.iand, 1) := by decide +kernel
theorem dX11_excuses_83 : decode cX11_excuses 83 = .ok (.invokestatic 185, 3) := by decide +kernel
theorem dX11_excuses_86 : decode cX11_excuses 86 = .ok (.ireturn, 1) := by decide +kernel
theorem dX11_excuses_87 : decode cX11_excuses 87 = .ok (.aload_n 0, 1) := by decide +kernel
theorem dX11_excuses_88 : decode cX11_excuses 88 = .ok (.aload 5, 2) := by decide +kernel
theorem dX11_excuses_90 : decode cX11_excuses 90 = .ok (.invokevirtual 157, 3) := by decide +kernel
theorem dX11_excuses_93 : decode cX11_excuses 93 = .ok (.iload 6, 2) := by decide +kernel
theorem dX11_excuses_95 : decode cX11_excuses 95 = .ok (.iand, 1) := by decide +kernel
theorem dX11_excuses_96 : decode cX11_excuses 96 = .ok (.invokestatic 185, 3) := by decide +kernel
theorem dX11_excuses_99 : decode cX11_excuses 99 = .ok (.iload 7, 2) := by decide +kernel
theorem dX11_excuses_101 : decode cX11_excuses 101 = .ok (.invokestatic 185, 3) := by decide +kernel
theorem dX11_excuses_104 : decode cX11_excuses 104 = .ok (.iload 4, 2) := by decide +kernel
theorem dX11_excuses_106 : decode cX11_excuses 106 = .ok (.invokestatic 261, 3) := by decide +kernel
theorem dX11_excuses_109 : decode cX11_excuses 109 = .ok (.ireturn, 1) := by decide +kernel
def f_X11_excuses (S : HSt) (a0 : Nat) (a1 : Int32) (a2 : Int32) (a3 : Int32) (a4 : Int32) : Option (Int32 × HSt) := if gC S a0 = some 11 then (bd2 (f_X11_planAt S a0 a1) fun b4 S3 => oC b4 (some ((-1), S3)) fun r5 => bd2 (f_X11_isMan S3 a2) fun v8 S7 => if v8 = 0 then (some ((-1), S7)) else (if a3 < 0 then (some ((-1), S7)) else (if a3 ≤ 2 then (bd2 (f_X11_isPercent S7 a4) fun v14 S13 => if v14 = 0 then (some ((-2), S13)) else (if gC S13 a0 = some 11 then (bd2 (f_X11_bitsOfMan S13 a0 a2) fun v19 S18 => if gC S18 a0 = some 11 then (bd2 (f_X11_hitBits S18 a0 r5) fun v23 S22 => if a3 = 0 then (bd2 (f_J6_bitCount_0f7a4 S22 (v23 &&& v19)) fun v48 S47 => some (v48, S47)) else (if a3 = 1 then (if gC S22 a0 = some 11 then (bd2 (f_X11_bitsExcusedAfter S22 a0) fun v42 S41 => bd2 (f_J6_bitCount_0f7a4 S41 ((v23 &&& v19) &&& (v42 ^^^ (-1)))) fun v45 S44 => some (v45, S44)) else none) else (if gC S22 a0 = some 11 then (bd2 (f_X11_countedBits S22 a0 r5) fun v29 S28 => bd2 (f_J6_bitCount_0f7a4 S28 (v29 &&& v19)) fun v32 S31 => bd2 (f_J6_bitCount_0f7a4 S31 (v23 &&& v19)) fun v35 S34 => bd2 (f_X11_leastLeftOut S34 v32 v35 a4) fun v38 S37 => some (v38, S37)) else none))) else none) else none)) else (some ((-1), S7))))) else none
abbrev rm_X11_excuses : Room := { frames := 6, cells := 0, slots := 0, locals := 143 }
abbrev w_X11_excuses : List Cond := Cond.code yX11_excuses cX11_excuses 8 (Option.some FieldType.int) :: lwG
theorem yd_X11_excuses : yX11_excuses.cls ≠ "java/lang/invoke/MethodHandle" ∧ yX11_excuses.cls ≠ "java/lang/invoke/VarHandle" ∧ (parseMethodDescriptor yX11_excuses.desc).map (fun d => d.parameters.length) = some 4 := by decide +kernel
theorem ye_X11_excuses : yX11_excuses.cls = RX11 ∧ yX11_excuses.cls ≠ "java/lang/invoke/MethodHandle" ∧ yX11_excuses.cls ≠ "java/lang/invoke/VarHandle" ∧ (parseMethodDescriptor yX11_excuses.desc).map (fun d => d.parameters.length) = some 4 := by decide +kernel
set_option maxHeartbeats 4000000 in
set_option maxRecDepth 100000 in
theorem c_X11_excuses (l : Launch) (D : va_G) (kA ρ : Nat → Nat) (HB : Heap) (S : HSt) (a0 : Nat) (a1 : Int32) (a2 : Int32) (a3 : Int32) (a4 : Int32) (res : Int32 × HSt) (h : f_X11_excuses S a0 a1 a2 a3 a4 = some res) : Met l yX11_excuses w_X11_excuses rm_X11_excuses (hPc D kA ρ HB S [.ref a0, .int a1, .int a2, .int a3, .int a4]) (hQi D kA HB S res) 0 0 (hFree HB) := by
  refine Met.ofW (cc := cX11_excuses) (maxL := 8) (ret := (Option.some FieldType.int)) (by decide) rfl ?_
  intro p e s m args below meth c s₁ B hml hv
  obtain ⟨rfl, hE, h0⟩ := hv
  have hx := B.exec
  have hb := B.bytes
  have hr := B.returns
  have hts0 := atoms_spec (ws := w_X11_excuses) B.pre
  have hts : ∀ w ∈ lwG, w.before _ s = true := fun w hw => hts0 w (List.mem_cons_of_mem _ hw)
  have hown : s.vm.findClass RX11 = some m.cls := findClass_of_methodNamed B.named
  have hlocks := B.notSynchronized
  have hI : hqX D kA HB S.2 S s.heap [] := ⟨h0, Nat.le_refl _, fun _ q => absurd q List.not_mem_nil⟩
  have hl := lv_entry ([.ref a0, .int a1, .int a2, .int a3, .int a4]) (n := 8) (Nat.le_of_ble_eq_true rfl)
  rw [lg_entry_eq]
  generalize (lg_sl ([.ref a0, .int a1, .int a2, .int a3, .int a4]) ++ List.replicate (8 - (lg_sl ([.ref a0, .int a1, .int a2, .int a3, .int a4])).length) Slot.unset).toArray = ls at hl ⊢
  have hl : lv_has ls 8 [(0, .ref a0), (1, .int a1), (2, .int a2), (3, .int a3), (4, .int a4)] := hl
  unfold f_X11_excuses at h
  refine lv_aload_n hx hb dX11_excuses_0 rfl (lv_at hl 0 rfl) ?_
  refine lv_iload_n hx hb dX11_excuses_1 rfl (lv_at hl 1 rfl) ?_
  obtain ⟨g2, h⟩ := hq_g h
  obtain ⟨b4, S3, g1, h⟩ := hq_bd2 h
  refine hq_callq hI (va_runV (As := [.int a1]) (rest := []) ⟨hx, hb, hml, hown, hts⟩ (c_X11_planAt l D kA ρ HB S a0 a1 _ g1) (cwV 1 hts (gdIn (List.forall_mem_cons.mpr ⟨kw_557, (List.forall_mem_cons.mpr ⟨kw_559, (List.forall_mem_cons.mpr ⟨ks_10, (List.forall_mem_cons.mpr ⟨kw_1, (fun _ h => absurd h List.not_mem_nil)⟩)⟩)⟩)⟩) kw_560) rfl rfl rfl ye_X11_planAt ⟨Nat.le_of_ble_eq_true rfl, Nat.le_of_ble_eq_true rfl⟩) (hq_preC hE hI g2 rfl _) rfl rfl hl.1 rfl (lv_room (Nat.le_of_ble_eq_true rfl)) dX11_excuses_2 ⟨Nat.le_of_ble_eq_true rfl, Nat.le_of_ble_eq_true rfl⟩) (fun H locs hI => ?_)
  rcases b4 with _ | r5
  · have h := oC_n h
    refine lv_astoreN (lv' := [(5, .null), (0, .ref a0), (1, .int a1), (2, .int a2), (3, .int a3), (4, .int a4)]) hx hb dX11_excuses_5 hl (by decide) rfl (fun ls hl => ?_)
    refine lv_aloadN hx hb dX11_excuses_7 (lv_at hl 0 rfl) ?_
    refine lv_ifnullN (tgt := 28) hx hb dX11_excuses_9 (by decide) ?_
    refine lv_iconst (v := (-1)) hx hb dX11_excuses_28 (by decide) ?_
    exact hq_iret hx hb hr hlocks h0 hI h dX11_excuses_29
  · have h := oC_s h
    refine lv_astore (lv' := [(5, .ref r5), (0, .ref a0), (1, .int a1), (2, .int a2), (3, .int a3), (4, .int a4)]) hx hb dX11_excuses_5 hl (by decide) rfl (fun ls hl => ?_)
    refine lv_aload hx hb dX11_excuses_7 (lv_at hl 0 rfl) ?_
    refine lv_ifnull hx hb dX11_excuses_9 ?_
    refine lv_iload_n hx hb dX11_excuses_12 rfl (lv_at hl 3 rfl) ?_
    obtain ⟨v8, S7, g6, h⟩ := hq_bd2 h
    refine hq_calli hI (va_runS (As := [.int a2]) (rest := []) ⟨hx, hb, hml, hown, hts⟩ (c_X11_isMan l D kA ρ HB S3 a2 _ g6) (va_cwS 1 hts (gdIn (List.forall_mem_cons.mpr ⟨kw_195, (List.forall_mem_cons.mpr ⟨kw_196, (List.forall_mem_cons.mpr ⟨kw_1, (fun _ h => absurd h List.not_mem_nil)⟩)⟩)⟩) kw_197) rfl rfl rfl yd_X11_isMan ⟨Nat.le_of_ble_eq_true rfl, Nat.le_of_ble_eq_true rfl⟩) (hq_preS hE hI _) rfl rfl hl.1 rfl (lv_room (Nat.le_of_ble_eq_true rfl)) dX11_excuses_13 ⟨Nat.le_of_ble_eq_true rfl, Nat.le_of_ble_eq_true rfl⟩) (fun H locs hI => ?_)
    refine lv_if_eq (tgt := 28) hx hb dX11_excuses_16 (by decide) (fun c9 => ?_) (fun c9 => ?_)
    · have h := hq_t h c9
      refine lv_iconst (v := (-1)) hx hb dX11_excuses_28 (by decide) ?_
      exact hq_iret hx hb hr hlocks h0 hI h dX11_excuses_29
    · have h := hq_f h c9
      refine lv_iload_n hx hb dX11_excuses_19 rfl (lv_at hl 4 rfl) ?_
      refine lv_if_lt (tgt := 28) hx hb dX11_excuses_20 (by decide) (fun c10 => ?_) (fun c10 => ?_)
      · have h := hq_t h c10
        refine lv_iconst (v := (-1)) hx hb dX11_excuses_28 (by decide) ?_
        exact hq_iret hx hb hr hlocks h0 hI h dX11_excuses_29
      · have h := hq_f h c10
        refine lv_iload_n hx hb dX11_excuses_23 rfl (lv_at hl 4 rfl) ?_
        refine lv_iconst (v := 2) hx hb dX11_excuses_24 (by decide) ?_
        refine lv_icmp_le (tgt := 30) hx hb dX11_excuses_25 (by decide) (fun c11 => ?_) (fun c11 => ?_)
        · have h := hq_t h c11
          refine lv_iload hx hb dX11_excuses_30 (lv_at hl 5 rfl) ?_
          obtain ⟨v14, S13, g12, h⟩ := hq_bd2 h
          refine hq_calli hI (va_runS (As := [.int a4]) (rest := []) ⟨hx, hb, hml, hown, hts⟩ (c_X11_isPercent l D kA ρ HB S7 a4 _ g12) (va_cwS 1 hts (gdIn (List.forall_mem_cons.mpr ⟨kw_759, (List.forall_mem_cons.mpr ⟨kw_760, (List.forall_mem_cons.mpr ⟨kw_1, (fun _ h => absurd h List.not_mem_nil)⟩)⟩)⟩) kw_761) rfl rfl rfl yd_X11_isPercent ⟨Nat.le_of_ble_eq_true rfl, Nat.le_of_ble_eq_true rfl⟩) (hq_preS hE hI _) rfl rfl hl.1 rfl (lv_room (Nat.le_of_ble_eq_true rfl)) dX11_excuses_32 ⟨Nat.le_of_ble_eq_true rfl, Nat.le_of_ble_eq_true rfl⟩) (fun H locs hI => ?_)
          refine lv_if_ne (tgt := 41) hx hb dX11_excuses_35 (by decide) (fun c15 => ?_) (fun c15 => ?_)
          · have h := hq_f h c15
            refine lv_aload_n hx hb dX11_excuses_41 rfl (lv_at hl 1 rfl) ?_
            refine lv_iload_n hx hb dX11_excuses_42 rfl (lv_at hl 3 rfl) ?_
            obtain ⟨g17, h⟩ := hq_g h
            obtain ⟨v19, S18, g16, h⟩ := hq_bd2 h
            refine hq_calli hI (va_runV (As := [.int a2]) (rest := []) ⟨hx, hb, hml, hown, hts⟩ (c_X11_bitsOfMan l D kA ρ HB S13 a0 a2 _ g16) (cwV 1 hts (gdIn (List.forall_mem_cons.mpr ⟨kw_603, (List.forall_mem_cons.mpr ⟨kw_605, (List.forall_mem_cons.mpr ⟨ks_16, (List.forall_mem_cons.mpr ⟨kw_1, (fun _ h => absurd h List.not_mem_nil)⟩)⟩)⟩)⟩) kw_606) rfl rfl rfl ye_X11_bitsOfMan ⟨Nat.le_of_ble_eq_true rfl, Nat.le_of_ble_eq_true rfl⟩) (hq_preC hE hI g17 rfl _) rfl rfl hl.1 rfl (lv_room (Nat.le_of_ble_eq_true rfl)) dX11_excuses_43 ⟨Nat.le_of_ble_eq_true rfl, Nat.le_of_ble_eq_true rfl⟩) (fun H locs hI => ?_)
            refine lv_istore (lv' := [(6, .int v19), (5, .ref r5), (0, .ref a0), (1, .int a1), (2, .int a2), (3, .int a3), (4, .int a4)]) hx hb dX11_excuses_46 hl (by decide) rfl (fun ls hl => ?_)
            refine lv_aload_n hx hb dX11_excuses_48 rfl (lv_at hl 2 rfl) ?_
            refine lv_aload hx hb dX11_excuses_49 (lv_at hl 1 rfl) ?_
            obtain ⟨g21, h⟩ := hq_g h
            obtain ⟨v23, S22, g20, h⟩ := hq_bd2 h
            refine hq_calli hI (va_runV (As := [.ref r5]) (rest := []) ⟨hx, hb, hml, hown, hts⟩ (c_X11_hitBits l D kA ρ HB S18 a0 r5 _ g20) (cwV 1 hts (gdIn (List.forall_mem_cons.mpr ⟨kw_587, (List.forall_mem_cons.mpr ⟨kw_589, (List.forall_mem_cons.mpr ⟨ks_13, (List.forall_mem_cons.mpr ⟨kw_1, (fun _ h => absurd h List.not_mem_nil)⟩)⟩)⟩)⟩) kw_590) rfl rfl rfl ye_X11_hitBits ⟨Nat.le_of_ble_eq_true rfl, Nat.le_of_ble_eq_true rfl⟩) (hq_preC hE hI g21 rfl _) rfl rfl hl.1 rfl (lv_room (Nat.le_of_ble_eq_true rfl)) dX11_excuses_51 ⟨Nat.le_of_ble_eq_true rfl, Nat.le_of_ble_eq_true rfl⟩) (fun H locs hI => ?_)
            refine lv_iload hx hb dX11_excuses_54 (lv_at hl 0 rfl) ?_
            refine lv_iand hx hb dX11_excuses_56 ?_
            refine lv_istore (lv' := [(7, .int (v23 &&& v19)), (6, .int v19), (5, .ref r5), (0, .ref a0), (1, .int a1), (2, .int a2), (3, .int a3), (4, .int a4)]) hx hb dX11_excuses_57 hl (by decide) rfl (fun ls hl => ?_)
            refine lv_iload_n hx hb dX11_excuses_59 rfl (lv_at hl 6 rfl) ?_
            refine lv_if_ne (tgt := 69) hx hb dX11_excuses_60 (by decide) (fun c24 => ?_) (fun c24 => ?_)
            · have h := hq_f h c24
              refine lv_iload_n hx hb dX11_excuses_69 rfl (lv_at hl 6 rfl) ?_
              refine lv_iconst (v := 1) hx hb dX11_excuses_70 (by decide) ?_
              refine lv_icmp_ne (tgt := 87) hx hb dX11_excuses_71 (by decide) (fun c25 => ?_) (fun c25 => ?_)
              · have h := hq_f h c25
                refine lv_aload_n hx hb dX11_excuses_87 rfl (lv_at hl 3 rfl) ?_
                refine lv_aload hx hb dX11_excuses_88 (lv_at hl 2 rfl) ?_
                obtain ⟨g27, h⟩ := hq_g h
                obtain ⟨v29, S28, g26, h⟩ := hq_bd2 h
                refine hq_calli hI (va_runV (As := [.ref r5]) (rest := []) ⟨hx, hb, hml, hown, hts⟩ (c_X11_countedBits l D kA ρ HB S22 a0 r5 _ g26) (cwV 1 hts (gdIn (List.forall_mem_cons.mpr ⟨kw_561, (List.forall_mem_cons.mpr ⟨kw_563, (List.forall_mem_cons.mpr ⟨ks_11, (List.forall_mem_cons.mpr ⟨kw_1, (fun _ h => absurd h List.not_mem_nil)⟩)⟩)⟩)⟩) kw_564) rfl rfl rfl ye_X11_countedBits ⟨Nat.le_of_ble_eq_true rfl, Nat.le_of_ble_eq_true rfl⟩) (hq_preC hE hI g27 rfl _) rfl rfl hl.1 rfl (lv_room (Nat.le_of_ble_eq_true rfl)) dX11_excuses_90 ⟨Nat.le_of_ble_eq_true rfl, Nat.le_of_ble_eq_true rfl⟩) (fun H locs hI => ?_)
                refine lv_iload hx hb dX11_excuses_93 (lv_at hl 1 rfl) ?_
                refine lv_iand hx hb dX11_excuses_95 ?_
                obtain ⟨v32, S31, g30, h⟩ := hq_bd2 h
                refine hq_calli hI (va_runS (As := [.int (v29 &&& v19)]) (rest := []) ⟨hx, hb, hml, hown, hts⟩ (c_J6_bitCount_0f7a4 l D kA ρ HB S28 (v29 &&& v19) _ g30) (va_cwS 1 hts (gdIn (List.forall_mem_cons.mpr ⟨kw_607, (List.forall_mem_cons.mpr ⟨kw_608, (List.forall_mem_cons.mpr ⟨kw_20, (fun _ h => absurd h List.not_mem_nil)⟩)⟩)⟩) kw_609) rfl rfl rfl yd_J6_bitCount_0f7a4 ⟨Nat.le_of_ble_eq_true rfl, Nat.le_of_ble_eq_true rfl⟩) (hq_preS hE hI _) rfl rfl hl.1 rfl (lv_room (Nat.le_of_ble_eq_true rfl)) dX11_excuses_96 ⟨Nat.le_of_ble_eq_true rfl, Nat.le_of_ble_eq_true rfl⟩) (fun H locs hI => ?_)
                refine lv_iload hx hb dX11_excuses_99 (lv_at hl 0 rfl) ?_
                obtain ⟨v35, S34, g33, h⟩ := hq_bd2 h
                refine hq_calli hI (va_runS (As := [.int (v23 &&& v19)]) (rest := [.int v32]) ⟨hx, hb, hml, hown, hts⟩ (c_J6_bitCount_0f7a4 l D kA ρ HB S31 (v23 &&& v19) _ g33) (va_cwS 1 hts (gdIn (List.forall_mem_cons.mpr ⟨kw_607, (List.forall_mem_cons.mpr ⟨kw_608, (List.forall_mem_cons.mpr ⟨kw_20, (fun _ h => absurd h List.not_mem_nil)⟩)⟩)⟩) kw_609) rfl rfl rfl yd_J6_bitCount_0f7a4 ⟨Nat.le_of_ble_eq_true rfl, Nat.le_of_ble_eq_true rfl⟩) (hq_preS hE hI _) rfl rfl hl.1 rfl (lv_room (Nat.le_of_ble_eq_true rfl)) dX11_excuses_101 ⟨Nat.le_of_ble_eq_true rfl, Nat.le_of_ble_eq_true rfl⟩) (fun H locs hI => ?_)
                refine lv_iload hx hb dX11_excuses_104 (lv_at hl 7 rfl) ?_
                obtain ⟨v38, S37, g36, h⟩ := hq_bd2 h
                refine hq_calli hI (va_runS (As := [.int v32, .int v35, .int a4]) (rest := []) ⟨hx, hb, hml, hown, hts⟩ (c_X11_leastLeftOut l D kA ρ HB S34 v32 v35 a4 _ g36) (va_cwS 3 hts (gdIn (List.forall_mem_cons.mpr ⟨kw_771, (List.forall_mem_cons.mpr ⟨kw_772, (List.forall_mem_cons.mpr ⟨kw_1, (fun _ h => absurd h List.not_mem_nil)⟩)⟩)⟩) kw_773) rfl rfl rfl yd_X11_leastLeftOut ⟨Nat.le_of_ble_eq_true rfl, Nat.le_of_ble_eq_true rfl⟩) (hq_preS hE hI _) rfl rfl hl.1 rfl (lv_room (Nat.le_of_ble_eq_true rfl)) dX11_excuses_106 ⟨Nat.le_of_ble_eq_true rfl, Nat.le_of_ble_eq_true rfl⟩) (fun H locs hI => ?_)
                exact hq_iret hx hb hr hlocks h0 hI h dX11_excuses_109
              · have h := hq_t h c25
                refine lv_iload hx hb dX11_excuses_74 (lv_at hl 0 rfl) ?_
                refine lv_aload_n hx hb dX11_excuses_76 rfl (lv_at hl 3 rfl) ?_
                obtain ⟨g40, h⟩ := hq_g h
                obtain ⟨v42, S41, g39, h⟩ := hq_bd2 h
                refine hq_calli hI (va_runV (As := []) (rest := [.int (v23 &&& v19)]) ⟨hx, hb, hml, hown, hts⟩ (c_X11_bitsExcusedAfter l D kA ρ HB S22 a0 _ g39) (cwV 0 hts (gdIn (List.forall_mem_cons.mpr ⟨kw_767, (List.forall_mem_cons.mpr ⟨kw_769, (List.forall_mem_cons.mpr ⟨ks_29, (List.forall_mem_cons.mpr ⟨kw_1, (fun _ h => absurd h List.not_mem_nil)⟩)⟩)⟩)⟩) kw_770) rfl rfl rfl ye_X11_bitsExcusedAfter ⟨Nat.le_of_ble_eq_true rfl, Nat.le_of_ble_eq_true rfl⟩) (hq_preC hE hI g40 rfl _) rfl rfl hl.1 rfl (lv_room (Nat.le_of_ble_eq_true rfl)) dX11_excuses_77 ⟨Nat.le_of_ble_eq_true rfl, Nat.le_of_ble_eq_true rfl⟩) (fun H locs hI => ?_)
                refine lv_iconst (v := (-1)) hx hb dX11_excuses_80 (by decide) ?_
                refine lv_ixor hx hb dX11_excuses_81 ?_
                refine lv_iand hx hb dX11_excuses_82 ?_
                obtain ⟨v45, S44, g43, h⟩ := hq_bd2 h
                refine hq_calli hI (va_runS (As := [.int ((v23 &&& v19) &&& (v42 ^^^ (-1)))]) (rest := []) ⟨hx, hb, hml, hown, hts⟩ (c_J6_bitCount_0f7a4 l D kA ρ HB S41 ((v23 &&& v19) &&& (v42 ^^^ (-1))) _ g43) (va_cwS 1 hts (gdIn (List.forall_mem_cons.mpr ⟨kw_607, (List.forall_mem_cons.mpr ⟨kw_608, (List.forall_mem_cons.mpr ⟨kw_20, (fun _ h => absurd h List.not_mem_nil)⟩)⟩)⟩) kw_609) rfl rfl rfl yd_J6_bitCount_0f7a4 ⟨Nat.le_of_ble_eq_true rfl, Nat.le_of_ble_eq_true rfl⟩) (hq_preS hE hI _) rfl rfl hl.1 rfl (lv_room (Nat.le_of_ble_eq_true rfl)) dX11_excuses_83 ⟨Nat.le_of_ble_eq_true rfl, Nat.le_of_ble_eq_true rfl⟩) (fun H locs hI => ?_)
                exact hq_iret hx hb hr hlocks h0 hI h dX11_excuses_86
            · have h := hq_t h c24
              refine lv_iload hx hb dX11_excuses_63 (lv_at hl 0 rfl) ?_
              obtain ⟨v48, S47, g46, h⟩ := hq_bd2 h
              refine hq_calli hI (va_runS (As := [.int (v23 &&& v19)]) (rest := []) ⟨hx, hb, hml, hown, hts⟩ (c_J6_bitCount_0f7a4 l D kA ρ HB S22 (v23 &&& v19) _ g46) (va_cwS 1 hts (gdIn (List.forall_mem_cons.mpr ⟨kw_607, (List.forall_mem_cons.mpr ⟨kw_608, (List.forall_mem_cons.mpr ⟨kw_20, (fun _ h => absurd h List.not_mem_nil)⟩)⟩)⟩) kw_609) rfl rfl rfl yd_J6_bitCount_0f7a4 ⟨Nat.le_of_ble_eq_true rfl, Nat.le_of_ble_eq_true rfl⟩) (hq_preS hE hI _) rfl rfl hl.1 rfl (lv_room (Nat.le_of_ble_eq_true rfl)) dX11_excuses_65 ⟨Nat.le_of_ble_eq_true rfl, Nat.le_of_ble_eq_true rfl⟩) (fun H locs hI => ?_)
              exact hq_iret hx hb hr hlocks h0 hI h dX11_excuses_68
          · have h := hq_t h c15
            refine lv_bipush (v := (-2)) hx hb dX11_excuses_38 (by decide) ?_
            exact hq_iret hx hb hr hlocks h0 hI h dX11_excuses_40
        · have h := hq_f h c11
          refine lv_iconst (v := (-1)) hx hb dX11_excuses_28 (by decide) ?_
          exact hq_iret hx hb hr hlocks h0 hI h dX11_excuses_29
-- RodDips.papers(III)I
theorem dX11_papers_0 : decode cX11_papers 0 = .ok (.aload_n 0, 1) := by decide +kernel
theorem dX11_papers_1 : decode cX11_papers 1 = .ok (.iload_n 1, 1) := by decide +kernel
theorem dX11_papers_2 : decode cX11_papers 2 = .ok (.invokevirtual 147, 3) := by decide +kernel
theorem dX11_papers_5 : decode cX11_papers 5 = .ok (.astore 4, 2) := by decide +kernel
theorem dX11_papers_7 : decode cX11_papers 7 = .ok (.aload_n 0, 1) := by decide +kernel
theorem dX11_papers_8 : decode cX11_papers 8 = .ok (.iload_n 2, 1) := by decide +kernel
theorem dX11_papers_9 : decode cX11_papers 9 = .ok (.invokevirtual 147, 3) := by decide +kernel
theorem dX11_papers_12 : decode cX11_papers 12 = .ok (.astore 5, 2) := by decide +kernel
theorem dX11_papers_14 : decode cX11_papers 14 = .ok (.aload 4, 2) := by decide +kernel
theorem dX11_papers_16 : decode cX11_papers 16 = .ok (.ifnull 8, 3) := by decide +kernel
theorem dX11_papers_19 : decode cX11_papers 19 = .ok (.aload 5, 2) := by decide +kernel
theorem dX11_papers_21 : decode cX11_papers 21 = .ok (.ifnonnull 5, 3) := by decide +kernel
theorem dX11_papers_24 : decode cX11_papers 24 = .ok (.iconst (-1), 1) := by decide +kernel
theorem dX11_papers_25 : decode cX11_papers 25 = .ok (.ireturn, 1) := by decide +kernel
theorem dX11_papers_26 : decode cX11_papers 26 = .ok (.iload_n 3, 1) := by decide +kernel
theorem dX11_papers_27 : decode cX11_papers 27 = .ok (.tableswitch 99 0 2 #[25, 39, 67], 25) := by decide +kernel
theorem dX11_papers_52 : decode cX11_papers 52 = .ok (.aload_n 0, 1) := by decide +kernel
theorem dX11_papers_53 : decode cX11_papers 53 = .ok (.aload 4, 2) := by decide +kernel
theorem dX11_papers_55 : decode cX11_papers 55 = .ok (.invokevirtual 157, 3) := by decide +kernel
theorem dX11_papers_58 : decode cX11_papers 58 = .ok (.aload_n 0, 1) := by decide +kernel
theorem dX11_papers_59 : decode cX11_papers 59 = .ok (.aload 5, 2) := by decide +kernel
theorem dX11_papers_61 : decode cX11_papers 61 = .ok (.invokevirtual 157, 3) := by decide +kernel
theorem dX11_papers_64 : decode cX11_papers 64 = .ok (.ixor, 1) := by decide +kernel
theorem dX11_papers_65 : decode cX11_papers 65 = .ok (.ireturn, 1) := by decide +kernel
theorem dX11_papers_66 : decode cX11_papers 66 = .ok (.aload_n 0, 1) := by decide +kernel
theorem dX11_papers_67 : decode cX11_papers 67 = .ok (.aload 4, 2) := by decide +kernel
theorem dX11_papers_69 : decode cX11_papers 69 = .ok (.invokevirtual 157, 3) := by decide +kernel
theorem dX11_papers_72 : decode cX11_papers 72 = .ok (.aload_n 0, 1) := by decide +kernel
theorem dX11_papers_73 : decode cX11_papers 73 = .ok (.aload 5, 2) := by decide +kernel
theorem dX11_papers_75 : decode cX11_papers 75 = .ok (.invokevirtual 157, 3) := by decide +kernel
theorem dX11_papers_78 : decode cX11_papers 78 = .ok (.iand, 1) := by decide +kernel
theorem dX11_papers_79 : decode cX11_papers 79 = .ok (.aload_n 0, 1) := by decide +kernel
theorem dX11_papers_80 : decode cX11_papers 80 = .ok (.aload 4, 2) := by decide +kernel
theorem dX11_papers_82 : decode cX11_papers 82 = .ok (.invokevirtual 160, 3) := by decide +kernel
theorem dX11_papers_85 : decode cX11_papers 85 = .ok (.aload_n 0, 1) := by decide +kernel
theorem dX11_papers_86 : decode cX11_papers 86 = .ok (.aload 5, 2) := by decide +kernel
theorem dX11_papers_88 : decode cX11_papers 88 = .ok (.invokevirtual 160, 3) := by decide +kernel
theorem dX11_papers_91 : decode cX11_papers 91 = .ok (.ixor, 1) := by decide +kernel
theorem dX11_papers_92 : decode cX11_papers 92 = .ok (.iand, 1) := by decide +kernel
theorem dX11_papers_93 : decode cX11_papers 93 = .ok (.ireturn, 1) := by decide +kernel
theorem dX11_papers_94 : decode cX11_papers 94 = .ok (.aload_n 0, 1) := by decide +kernel
theorem dX11_papers_95 : decode cX11_papers 95 = .ok (.aload_n 0, 1) := by decide +kernel
theorem dX11_papers_96 : decode cX11_papers 96 = .ok (.aload 4, 2) := by decide +kernel
theorem dX11_papers_98 : decode cX11_papers 98 = .ok (.invokevirtual 160, 3) := by decide +kernel
theorem dX11_papers_101 : decode cX11_papers 101 = .ok (.aload 4, 2) := by decide +kernel
theorem dX11_papers_103 : decode cX11_papers 103 = .ok (.getfield 154, 3) := by decide +kernel
theorem dX11_papers_106 : decode cX11_papers 106 = .ok (.invokevirtual 163, 3) := by decide +kernel
theorem dX11_papers_109 : decode cX11_papers 109 = .ok (.aload_n 0, 1) := by decide +kernel
theorem dX11_papers_110 : decode cX11_papers 110 = .ok (.aload_n 0, 1) := by decide +kernel
theorem dX11_papers_111 : decode cX11_papers 111 = .ok (.aload 5, 2) := by decide +kernel
theorem dX11_papers_113 : decode cX11_papers 113 = .ok (.invokevirtual 160, 3) := by decide +kernel
theorem dX11_papers_116 : decode cX11_papers 116 = .ok (.aload 5, 2) := by decide +kernel
theorem dX11_papers_118 : decode cX11_papers 118 = .ok (.getfield 154, 3) := by decide +kernel
theorem dX11_papers_121 : decode cX11_papers 121 = .ok (.invokevirtual 163, 3) := by decide +kernel
theorem dX11_papers_124 : decode cX11_papers 124 = .ok (.ixor, 1) := by decide +kernel
theorem dX11_papers_125 : decode cX11_papers 125 = .ok (.ireturn, 1) := by decide +kernel
theorem dX11_papers_126 : decode cX11_papers 126 = .ok (.iconst (-1), 1) := by decide +kernel
theorem dX11_papers_127 : decode cX11_papers 127 = .ok (.ireturn, 1) := by decide +kernel
def f_X11_papers (S : HSt) (a0 : Nat) (a1 : Int32) (a2 : Int32) (a3 : Int32) : Option (Int32 × HSt) := if gC S a0 = some 11 then (bd2 (f_X11_planAt S a0 a1) fun b4 S3 => oC b4 (if gC S3 a0 = some 11 then (bd2 (f_X11_planAt S3 a0 a2) fun b9 S8 => oC b9 (some ((-1), S8)) fun r10 => some ((-1), S8)) else none) fun r5 => if gC S3 a0 = some 11 then (bd2 (f_X11_planAt S3 a0 a2) fun b14 S13 => oC b14 (some ((-1), S13)) fun r15 => if a3 = 0 then (if gC S13 a0 = some 11 then (bd2 (f_X11_countedBits S13 a0 r5) fun v22 S21 => if gC S21 a0 = some 11 then (bd2 (f_X11_countedBits S21 a0 r15) fun v26 S25 => some (v22 ^^^ v26, S25)) else none) else none) else (if a3 = 1 then (if gC S13 a0 = some 11 then (bd2 (f_X11_countedBits S13 a0 r5) fun v30 S29 => if gC S29 a0 = some 11 then (bd2 (f_X11_countedBits S29 a0 r15) fun v34 S33 => if gC S33 a0 = some 11 then (bd2 (f_X11_hitBits S33 a0 r5) fun v38 S37 => if gC S37 a0 = some 11 then (bd2 (f_X11_hitBits S37 a0 r15) fun v42 S41 => some ((v30 &&& v34) &&& (v38 ^^^ v42), S41)) else none) else none) else none) else none) else (if a3 = 2 then (if gC S13 a0 = some 11 then (bd2 (f_X11_hitBits S13 a0 r5) fun v46 S45 => (gI S45 r5 7 9).bind fun v47 => if gC S45 a0 = some 11 then (bd2 (f_X11_passingMen S45 a0 v46 v47) fun v52 S51 => if gC S51 a0 = some 11 then (bd2 (f_X11_hitBits S51 a0 r15) fun v56 S55 => (gI S55 r15 7 9).bind fun v57 => if gC S55 a0 = some 11 then (bd2 (f_X11_passingMen S55 a0 v56 v57) fun v62 S61 => some (v52 ^^^ v62, S61)) else none) else none) else none) else none) else (some ((-1), S13))))) else none) else none
abbrev rm_X11_papers : Room := { frames := 6, cells := 0, slots := 0, locals := 143 }
abbrev w_X11_papers : List Cond := Cond.code yX11_papers cX11_papers 6 (Option.some FieldType.int) :: lwG
theorem yd_X11_papers : yX11_papers.cls ≠ "java/lang/invoke/MethodHandle" ∧ yX11_papers.cls ≠ "java/lang/invoke/VarHandle" ∧ (parseMethodDescriptor yX11_papers.desc).map (fun d => d.parameters.length) = some 3 := by decide +kernel
theorem ye_X11_papers : yX11_papers.cls = RX11 ∧ yX11_papers.cls ≠ "java/lang/invoke/MethodHandle" ∧ yX11_papers.cls ≠ "java/lang/invoke/VarHandle" ∧ (parseMethodDescriptor yX11_papers.desc).map (fun d => d.parameters.length) = some 3 := by decide +kernel
set_option maxHeartbeats 4000000 in
set_option maxRecDepth 100000 in
theorem c_X11_papers (l : Launch) (D : va_G) (kA ρ : Nat → Nat) (HB : Heap) (S : HSt) (a0 : Nat) (a1 : Int32) (a2 : Int32) (a3 : Int32) (res : Int32 × HSt) (h : f_X11_papers S a0 a1 a2 a3 = some res) : Met l yX11_papers w_X11_papers rm_X11_papers (hPc D kA ρ HB S [.ref a0, .int a1, .int a2, .int a3]) (hQi D kA HB S res) 0 0 (hFree HB) := by
  refine Met.ofW (cc := cX11_papers) (maxL := 6) (ret := (Option.some FieldType.int)) (by decide) rfl ?_
  intro p e s m args below meth c s₁ B hml hv
  obtain ⟨rfl, hE, h0⟩ := hv
  have hx := B.exec
  have hb := B.bytes
  have hr := B.returns
  have hts0 := atoms_spec (ws := w_X11_papers) B.pre
  have hts : ∀ w ∈ lwG, w.before _ s = true := fun w hw => hts0 w (List.mem_cons_of_mem _ hw)
  have hown : s.vm.findClass RX11 = some m.cls := findClass_of_methodNamed B.named
  have hlocks := B.notSynchronized
  have hI : hqX D kA HB S.2 S s.heap [] := ⟨h0, Nat.le_refl _, fun _ q => absurd q List.not_mem_nil⟩
  have hl := lv_entry ([.ref a0, .int a1, .int a2, .int a3]) (n := 6) (Nat.le_of_ble_eq_true rfl)
  rw [lg_entry_eq]
  generalize (lg_sl ([.ref a0, .int a1, .int a2, .int a3]) ++ List.replicate (6 - (lg_sl ([.ref a0, .int a1, .int a2, .int a3])).length) Slot.unset).toArray = ls at hl ⊢
  have hl : lv_has ls 6 [(0, .ref a0), (1, .int a1), (2, .int a2), (3, .int a3)] := hl
  unfold f_X11_papers at h
  refine lv_aload_n hx hb dX11_papers_0 rfl (lv_at hl 0 rfl) ?_
  refine lv_iload_n hx hb dX11_papers_1 rfl (lv_at hl 1 rfl) ?_
  obtain ⟨g2, h⟩ := hq_g h
  obtain ⟨b4, S3, g1, h⟩ := hq_bd2 h
  refine hq_callq hI (va_runV (As := [.int a1]) (rest := []) ⟨hx, hb, hml, hown, hts⟩ (c_X11_planAt l D kA ρ HB S a0 a1 _ g1) (cwV 1 hts (gdIn (List.forall_mem_cons.mpr ⟨kw_557, (List.forall_mem_cons.mpr ⟨kw_559, (List.forall_mem_cons.mpr ⟨ks_10, (List.forall_mem_cons.mpr ⟨kw_1, (fun _ h => absurd h List.not_mem_nil)⟩)⟩)⟩)⟩) kw_560) rfl rfl rfl ye_X11_planAt ⟨Nat.le_of_ble_eq_true rfl, Nat.le_of_ble_eq_true rfl⟩) (hq_preC hE hI g2 rfl _) rfl rfl hl.1 rfl (lv_room (Nat.le_of_ble_eq_true rfl)) dX11_papers_2 ⟨Nat.le_of_ble_eq_true rfl, Nat.le_of_ble_eq_true rfl⟩) (fun H locs hI => ?_)
  rcases b4 with _ | r5
  · have h := oC_n h
    refine lv_astoreN (lv' := [(4, .null), (0, .ref a0), (1, .int a1), (2, .int a2), (3, .int a3)]) hx hb dX11_papers_5 hl (by decide) rfl (fun ls hl => ?_)
    refine lv_aload_n hx hb dX11_papers_7 rfl (lv_at hl 1 rfl) ?_
    refine lv_iload_n hx hb dX11_papers_8 rfl (lv_at hl 3 rfl) ?_
    obtain ⟨g7, h⟩ := hq_g h
    obtain ⟨b9, S8, g6, h⟩ := hq_bd2 h
    refine hq_callq hI (va_runV (As := [.int a2]) (rest := []) ⟨hx, hb, hml, hown, hts⟩ (c_X11_planAt l D kA ρ HB S3 a0 a2 _ g6) (cwV 1 hts (gdIn (List.forall_mem_cons.mpr ⟨kw_557, (List.forall_mem_cons.mpr ⟨kw_559, (List.forall_mem_cons.mpr ⟨ks_10, (List.forall_mem_cons.mpr ⟨kw_1, (fun _ h => absurd h List.not_mem_nil)⟩)⟩)⟩)⟩) kw_560) rfl rfl rfl ye_X11_planAt ⟨Nat.le_of_ble_eq_true rfl, Nat.le_of_ble_eq_true rfl⟩) (hq_preC hE hI g7 rfl _) rfl rfl hl.1 rfl (lv_room (Nat.le_of_ble_eq_true rfl)) dX11_papers_9 ⟨Nat.le_of_ble_eq_true rfl, Nat.le_of_ble_eq_true rfl⟩) (fun H locs hI => ?_)
    rcases b9 with _ | r10
    · have h := oC_n h
      refine lv_astoreN (lv' := [(5, .null), (4, .null), (0, .ref a0), (1, .int a1), (2, .int a2), (3, .int a3)]) hx hb dX11_papers_12 hl (by decide) rfl (fun ls hl => ?_)
      refine lv_aloadN hx hb dX11_papers_14 (lv_at hl 1 rfl) ?_
      refine lv_ifnullN (tgt := 24) hx hb dX11_papers_16 (by decide) ?_
      refine lv_iconst (v := (-1)) hx hb dX11_papers_24 (by decide) ?_
      exact hq_iret hx hb hr hlocks h0 hI h dX11_papers_25
    · have h := oC_s h
      refine lv_astore (lv' := [(5, .ref r10), (4, .null), (0, .ref a0), (1, .int a1), (2, .int a2), (3, .int a3)]) hx hb dX11_papers_12 hl (by decide) rfl (fun ls hl => ?_)
      refine lv_aloadN hx hb dX11_papers_14 (lv_at hl 1 rfl) ?_
      refine lv_ifnullN (tgt := 24) hx hb dX11_papers_16 (by decide) ?_
      refine lv_iconst (v := (-1)) hx hb dX11_papers_24 (by decide) ?_
      exact hq_iret hx hb hr hlocks h0 hI h dX11_papers_25
  · have h := oC_s h
    refine lv_astore (lv' := [(4, .ref r5), (0, .ref a0), (1, .int a1), (2, .int a2), (3, .int a3)]) hx hb dX11_papers_5 hl (by decide) rfl (fun ls hl => ?_)
    refine lv_aload_n hx hb dX11_papers_7 rfl (lv_at hl 1 rfl) ?_
    refine lv_iload_n hx hb dX11_papers_8 rfl (lv_at hl 3 rfl) ?_
    obtain ⟨g12, h⟩ := hq_g h
    obtain ⟨b14, S13, g11, h⟩ := hq_bd2 h
    refine hq_callq hI (va_runV (As := [.int a2]) (rest := []) ⟨hx, hb, hml, hown, hts⟩ (c_X11_planAt l D kA ρ HB S3 a0 a2 _ g11) (cwV 1 hts (gdIn (List.forall_mem_cons.mpr ⟨kw_557, (List.forall_mem_cons.mpr ⟨kw_559, (List.forall_mem_cons.mpr ⟨ks_10, (List.forall_mem_cons.mpr ⟨kw_1, (fun _ h => absurd h List.not_mem_nil)⟩)⟩)⟩)⟩) kw_560) rfl rfl rfl ye_X11_planAt ⟨Nat.le_of_ble_eq_true rfl, Nat.le_of_ble_eq_true rfl⟩) (hq_preC hE hI g12 rfl _) rfl rfl hl.1 rfl (lv_room (Nat.le_of_ble_eq_true rfl)) dX11_papers_9 ⟨Nat.le_of_ble_eq_true rfl, Nat.le_of_ble_eq_true rfl⟩) (fun H locs hI => ?_)
    rcases b14 with _ | r15
    · have h := oC_n h
      refine lv_astoreN (lv' := [(5, .null), (4, .ref r5), (0, .ref a0), (1, .int a1), (2, .int a2), (3, .int a3)]) hx hb dX11_papers_12 hl (by decide) rfl (fun ls hl => ?_)
      refine lv_aload hx hb dX11_papers_14 (lv_at hl 1 rfl) ?_
      refine lv_ifnull hx hb dX11_papers_16 ?_
      refine lv_aloadN hx hb dX11_papers_19 (lv_at hl 0 rfl) ?_
      refine lv_ifnonnullN hx hb dX11_papers_21 ?_
      refine lv_iconst (v := (-1)) hx hb dX11_papers_24 (by decide) ?_
      exact hq_iret hx hb hr hlocks h0 hI h dX11_papers_25
    · have h := oC_s h
      refine lv_astore (lv' := [(5, .ref r15), (4, .ref r5), (0, .ref a0), (1, .int a1), (2, .int a2), (3, .int a3)]) hx hb dX11_papers_12 hl (by decide) rfl (fun ls hl => ?_)
      refine lv_aload hx hb dX11_papers_14 (lv_at hl 1 rfl) ?_
      refine lv_ifnull hx hb dX11_papers_16 ?_
      refine lv_aload hx hb dX11_papers_19 (lv_at hl 0 rfl) ?_
      refine lv_ifnonnull (tgt := 26) hx hb dX11_papers_21 (by decide) ?_
      refine lv_iload_n hx hb dX11_papers_26 rfl (lv_at hl 5 rfl) ?_
      by_cases c16 : a3 = 0
      · have h := hq_t h c16
        refine lv_tableIn (tgt := 52) hx hb dX11_papers_27 (by rw [c16]; decide) (by rw [c16]; decide) (by rw [c16]; rfl) (by decide) ?_
        refine lv_aload_n hx hb dX11_papers_52 rfl (lv_at hl 2 rfl) ?_
        refine lv_aload hx hb dX11_papers_53 (lv_at hl 1 rfl) ?_
        obtain ⟨g20, h⟩ := hq_g h
        obtain ⟨v22, S21, g19, h⟩ := hq_bd2 h
        refine hq_calli hI (va_runV (As := [.ref r5]) (rest := []) ⟨hx, hb, hml, hown, hts⟩ (c_X11_countedBits l D kA ρ HB S13 a0 r5 _ g19) (cwV 1 hts (gdIn (List.forall_mem_cons.mpr ⟨kw_561, (List.forall_mem_cons.mpr ⟨kw_563, (List.forall_mem_cons.mpr ⟨ks_11, (List.forall_mem_cons.mpr ⟨kw_1, (fun _ h => absurd h List.not_mem_nil)⟩)⟩)⟩)⟩) kw_564) rfl rfl rfl ye_X11_countedBits ⟨Nat.le_of_ble_eq_true rfl, Nat.le_of_ble_eq_true rfl⟩) (hq_preC hE hI g20 rfl _) rfl rfl hl.1 rfl (lv_room (Nat.le_of_ble_eq_true rfl)) dX11_papers_55 ⟨Nat.le_of_ble_eq_true rfl, Nat.le_of_ble_eq_true rfl⟩) (fun H locs hI => ?_)
        refine lv_aload_n hx hb dX11_papers_58 rfl (lv_at hl 2 rfl) ?_
        refine lv_aload hx hb dX11_papers_59 (lv_at hl 0 rfl) ?_
        obtain ⟨g24, h⟩ := hq_g h
        obtain ⟨v26, S25, g23, h⟩ := hq_bd2 h
        refine hq_calli hI (va_runV (As := [.ref r15]) (rest := [.int v22]) ⟨hx, hb, hml, hown, hts⟩ (c_X11_countedBits l D kA ρ HB S21 a0 r15 _ g23) (cwV 1 hts (gdIn (List.forall_mem_cons.mpr ⟨kw_561, (List.forall_mem_cons.mpr ⟨kw_563, (List.forall_mem_cons.mpr ⟨ks_11, (List.forall_mem_cons.mpr ⟨kw_1, (fun _ h => absurd h List.not_mem_nil)⟩)⟩)⟩)⟩) kw_564) rfl rfl rfl ye_X11_countedBits ⟨Nat.le_of_ble_eq_true rfl, Nat.le_of_ble_eq_true rfl⟩) (hq_preC hE hI g24 rfl _) rfl rfl hl.1 rfl (lv_room (Nat.le_of_ble_eq_true rfl)) dX11_papers_61 ⟨Nat.le_of_ble_eq_true rfl, Nat.le_of_ble_eq_true rfl⟩) (fun H locs hI => ?_)
        refine lv_ixor hx hb dX11_papers_64 ?_
        exact hq_iret hx hb hr hlocks h0 hI h dX11_papers_65
      have h := hq_f h c16
      by_cases c17 : a3 = 1
      · have h := hq_t h c17
        refine lv_tableIn (tgt := 66) hx hb dX11_papers_27 (by rw [c17]; decide) (by rw [c17]; decide) (by rw [c17]; rfl) (by decide) ?_
        refine lv_aload_n hx hb dX11_papers_66 rfl (lv_at hl 2 rfl) ?_
        refine lv_aload hx hb dX11_papers_67 (lv_at hl 1 rfl) ?_
        obtain ⟨g28, h⟩ := hq_g h
        obtain ⟨v30, S29, g27, h⟩ := hq_bd2 h
        refine hq_calli hI (va_runV (As := [.ref r5]) (rest := []) ⟨hx, hb, hml, hown, hts⟩ (c_X11_countedBits l D kA ρ HB S13 a0 r5 _ g27) (cwV 1 hts (gdIn (List.forall_mem_cons.mpr ⟨kw_561, (List.forall_mem_cons.mpr ⟨kw_563, (List.forall_mem_cons.mpr ⟨ks_11, (List.forall_mem_cons.mpr ⟨kw_1, (fun _ h => absurd h List.not_mem_nil)⟩)⟩)⟩)⟩) kw_564) rfl rfl rfl ye_X11_countedBits ⟨Nat.le_of_ble_eq_true rfl, Nat.le_of_ble_eq_true rfl⟩) (hq_preC hE hI g28 rfl _) rfl rfl hl.1 rfl (lv_room (Nat.le_of_ble_eq_true rfl)) dX11_papers_69 ⟨Nat.le_of_ble_eq_true rfl, Nat.le_of_ble_eq_true rfl⟩) (fun H locs hI => ?_)
        refine lv_aload_n hx hb dX11_papers_72 rfl (lv_at hl 2 rfl) ?_
        refine lv_aload hx hb dX11_papers_73 (lv_at hl 0 rfl) ?_
        obtain ⟨g32, h⟩ := hq_g h
        obtain ⟨v34, S33, g31, h⟩ := hq_bd2 h
        refine hq_calli hI (va_runV (As := [.ref r15]) (rest := [.int v30]) ⟨hx, hb, hml, hown, hts⟩ (c_X11_countedBits l D kA ρ HB S29 a0 r15 _ g31) (cwV 1 hts (gdIn (List.forall_mem_cons.mpr ⟨kw_561, (List.forall_mem_cons.mpr ⟨kw_563, (List.forall_mem_cons.mpr ⟨ks_11, (List.forall_mem_cons.mpr ⟨kw_1, (fun _ h => absurd h List.not_mem_nil)⟩)⟩)⟩)⟩) kw_564) rfl rfl rfl ye_X11_countedBits ⟨Nat.le_of_ble_eq_true rfl, Nat.le_of_ble_eq_true rfl⟩) (hq_preC hE hI g32 rfl _) rfl rfl hl.1 rfl (lv_room (Nat.le_of_ble_eq_true rfl)) dX11_papers_75 ⟨Nat.le_of_ble_eq_true rfl, Nat.le_of_ble_eq_true rfl⟩) (fun H locs hI => ?_)
        refine lv_iand hx hb dX11_papers_78 ?_
        refine lv_aload_n hx hb dX11_papers_79 rfl (lv_at hl 2 rfl) ?_
        refine lv_aload hx hb dX11_papers_80 (lv_at hl 1 rfl) ?_
        obtain ⟨g36, h⟩ := hq_g h
        obtain ⟨v38, S37, g35, h⟩ := hq_bd2 h
        refine hq_calli hI (va_runV (As := [.ref r5]) (rest := [.int (v30 &&& v34)]) ⟨hx, hb, hml, hown, hts⟩ (c_X11_hitBits l D kA ρ HB S33 a0 r5 _ g35) (cwV 1 hts (gdIn (List.forall_mem_cons.mpr ⟨kw_587, (List.forall_mem_cons.mpr ⟨kw_589, (List.forall_mem_cons.mpr ⟨ks_13, (List.forall_mem_cons.mpr ⟨kw_1, (fun _ h => absurd h List.not_mem_nil)⟩)⟩)⟩)⟩) kw_590) rfl rfl rfl ye_X11_hitBits ⟨Nat.le_of_ble_eq_true rfl, Nat.le_of_ble_eq_true rfl⟩) (hq_preC hE hI g36 rfl _) rfl rfl hl.1 rfl (lv_room (Nat.le_of_ble_eq_true rfl)) dX11_papers_82 ⟨Nat.le_of_ble_eq_true rfl, Nat.le_of_ble_eq_true rfl⟩) (fun H locs hI => ?_)
        refine lv_aload_n hx hb dX11_papers_85 rfl (lv_at hl 2 rfl) ?_
        refine lv_aload hx hb dX11_papers_86 (lv_at hl 0 rfl) ?_
        obtain ⟨g40, h⟩ := hq_g h
        obtain ⟨v42, S41, g39, h⟩ := hq_bd2 h
        refine hq_calli hI (va_runV (As := [.ref r15]) (rest := [.int v38, .int (v30 &&& v34)]) ⟨hx, hb, hml, hown, hts⟩ (c_X11_hitBits l D kA ρ HB S37 a0 r15 _ g39) (cwV 1 hts (gdIn (List.forall_mem_cons.mpr ⟨kw_587, (List.forall_mem_cons.mpr ⟨kw_589, (List.forall_mem_cons.mpr ⟨ks_13, (List.forall_mem_cons.mpr ⟨kw_1, (fun _ h => absurd h List.not_mem_nil)⟩)⟩)⟩)⟩) kw_590) rfl rfl rfl ye_X11_hitBits ⟨Nat.le_of_ble_eq_true rfl, Nat.le_of_ble_eq_true rfl⟩) (hq_preC hE hI g40 rfl _) rfl rfl hl.1 rfl (lv_room (Nat.le_of_ble_eq_true rfl)) dX11_papers_88 ⟨Nat.le_of_ble_eq_true rfl, Nat.le_of_ble_eq_true rfl⟩) (fun H locs hI => ?_)
        refine lv_ixor hx hb dX11_papers_91 ?_
        refine lv_iand hx hb dX11_papers_92 ?_
        exact hq_iret hx hb hr hlocks h0 hI h dX11_papers_93
      have h := hq_f h c17
      by_cases c18 : a3 = 2
      · have h := hq_t h c18
        refine lv_tableIn (tgt := 94) hx hb dX11_papers_27 (by rw [c18]; decide) (by rw [c18]; decide) (by rw [c18]; rfl) (by decide) ?_
        refine lv_aload_n hx hb dX11_papers_94 rfl (lv_at hl 2 rfl) ?_
        refine lv_aload_n hx hb dX11_papers_95 rfl (lv_at hl 2 rfl) ?_
        refine lv_aload hx hb dX11_papers_96 (lv_at hl 1 rfl) ?_
        obtain ⟨g44, h⟩ := hq_g h
        obtain ⟨v46, S45, g43, h⟩ := hq_bd2 h
        refine hq_calli hI (va_runV (As := [.ref r5]) (rest := [.ref a0]) ⟨hx, hb, hml, hown, hts⟩ (c_X11_hitBits l D kA ρ HB S13 a0 r5 _ g43) (cwV 1 hts (gdIn (List.forall_mem_cons.mpr ⟨kw_587, (List.forall_mem_cons.mpr ⟨kw_589, (List.forall_mem_cons.mpr ⟨ks_13, (List.forall_mem_cons.mpr ⟨kw_1, (fun _ h => absurd h List.not_mem_nil)⟩)⟩)⟩)⟩) kw_590) rfl rfl rfl ye_X11_hitBits ⟨Nat.le_of_ble_eq_true rfl, Nat.le_of_ble_eq_true rfl⟩) (hq_preC hE hI g44 rfl _) rfl rfl hl.1 rfl (lv_room (Nat.le_of_ble_eq_true rfl)) dX11_papers_98 ⟨Nat.le_of_ble_eq_true rfl, Nat.le_of_ble_eq_true rfl⟩) (fun H locs hI => ?_)
        refine lv_aload hx hb dX11_papers_101 (lv_at hl 1 rfl) ?_
        obtain ⟨v47, g48, h⟩ := hq_bind h
        obtain ⟨fs_g48, hs_g48, hv_g48⟩ := gI_at g48
        refine hq_getN hx hb hts hown hE hI hs_g48 inG7 rfl 9 (by decide) kn_106 hv_g48 dX11_papers_103 ?_
        obtain ⟨g50, h⟩ := hq_g h
        obtain ⟨v52, S51, g49, h⟩ := hq_bd2 h
        refine hq_calli hI (va_runV (As := [.int v46, .int v47]) (rest := []) ⟨hx, hb, hml, hown, hts⟩ (c_X11_passingMen l D kA ρ HB S45 a0 v46 v47 _ g49) (cwV 2 hts (gdIn (List.forall_mem_cons.mpr ⟨kw_599, (List.forall_mem_cons.mpr ⟨kw_601, (List.forall_mem_cons.mpr ⟨ks_15, (List.forall_mem_cons.mpr ⟨kw_1, (fun _ h => absurd h List.not_mem_nil)⟩)⟩)⟩)⟩) kw_602) rfl rfl rfl ye_X11_passingMen ⟨Nat.le_of_ble_eq_true rfl, Nat.le_of_ble_eq_true rfl⟩) (hq_preC hE hI g50 rfl _) rfl rfl hl.1 rfl (lv_room (Nat.le_of_ble_eq_true rfl)) dX11_papers_106 ⟨Nat.le_of_ble_eq_true rfl, Nat.le_of_ble_eq_true rfl⟩) (fun H locs hI => ?_)
        refine lv_aload_n hx hb dX11_papers_109 rfl (lv_at hl 2 rfl) ?_
        refine lv_aload_n hx hb dX11_papers_110 rfl (lv_at hl 2 rfl) ?_
        refine lv_aload hx hb dX11_papers_111 (lv_at hl 0 rfl) ?_
        obtain ⟨g54, h⟩ := hq_g h
        obtain ⟨v56, S55, g53, h⟩ := hq_bd2 h
        refine hq_calli hI (va_runV (As := [.ref r15]) (rest := [.ref a0, .int v52]) ⟨hx, hb, hml, hown, hts⟩ (c_X11_hitBits l D kA ρ HB S51 a0 r15 _ g53) (cwV 1 hts (gdIn (List.forall_mem_cons.mpr ⟨kw_587, (List.forall_mem_cons.mpr ⟨kw_589, (List.forall_mem_cons.mpr ⟨ks_13, (List.forall_mem_cons.mpr ⟨kw_1, (fun _ h => absurd h List.not_mem_nil)⟩)⟩)⟩)⟩) kw_590) rfl rfl rfl ye_X11_hitBits ⟨Nat.le_of_ble_eq_true rfl, Nat.le_of_ble_eq_true rfl⟩) (hq_preC hE hI g54 rfl _) rfl rfl hl.1 rfl (lv_room (Nat.le_of_ble_eq_true rfl)) dX11_papers_113 ⟨Nat.le_of_ble_eq_true rfl, Nat.le_of_ble_eq_true rfl⟩) (fun H locs hI => ?_)
        refine lv_aload hx hb dX11_papers_116 (lv_at hl 0 rfl) ?_
        obtain ⟨v57, g58, h⟩ := hq_bind h
        obtain ⟨fs_g58, hs_g58, hv_g58⟩ := gI_at g58
        refine hq_getN hx hb hts hown hE hI hs_g58 inG7 rfl 9 (by decide) kn_106 hv_g58 dX11_papers_118 ?_
        obtain ⟨g60, h⟩ := hq_g h
        obtain ⟨v62, S61, g59, h⟩ := hq_bd2 h
        refine hq_calli hI (va_runV (As := [.int v56, .int v57]) (rest := [.int v52]) ⟨hx, hb, hml, hown, hts⟩ (c_X11_passingMen l D kA ρ HB S55 a0 v56 v57 _ g59) (cwV 2 hts (gdIn (List.forall_mem_cons.mpr ⟨kw_599, (List.forall_mem_cons.mpr ⟨kw_601, (List.forall_mem_cons.mpr ⟨ks_15, (List.forall_mem_cons.mpr ⟨kw_1, (fun _ h => absurd h List.not_mem_nil)⟩)⟩)⟩)⟩) kw_602) rfl rfl rfl ye_X11_passingMen ⟨Nat.le_of_ble_eq_true rfl, Nat.le_of_ble_eq_true rfl⟩) (hq_preC hE hI g60 rfl _) rfl rfl hl.1 rfl (lv_room (Nat.le_of_ble_eq_true rfl)) dX11_papers_121 ⟨Nat.le_of_ble_eq_true rfl, Nat.le_of_ble_eq_true rfl⟩) (fun H locs hI => ?_)
        refine lv_ixor hx hb dX11_papers_124 ?_
        exact hq_iret hx hb hr hlocks h0 hI h dX11_papers_125
      have h := hq_f h c18
      have t_c16 := lv_neT c16 (a := 0) (by decide)
      have t_c17 := lv_neT c17 (a := 1) (by decide)
      have t_c18 := lv_neT c18 (a := 2) (by decide)
      refine lv_tableOut (tgt := 126) hx hb dX11_papers_27 (by omega) (by decide) ?_
      refine lv_iconst (v := (-1)) hx hb dX11_papers_126 (by decide) ?_
      exact hq_iret hx hb hr hlocks h0 hI h dX11_papers_127
-- RodDips.act(III)I
theorem dX11_act_0 : decode cX11_act 0 = .ok (.aload_n 0, 1) := by decide +kernel
theorem dX11_act_1 : decode cX11_act 1 = .ok (.getfield 59, 3) := by decide +kernel
theorem dX11_act_4 : decode cX11_act 4 = .ok (.invokevirtual 266, 3) := by decide +kernel
theorem dX11_act_7 : decode cX11_act 7 = .ok (.aload_n 0, 1) := by decide +kernel
theorem dX11_act_8 : decode cX11_act 8 = .ok (.iload_n 1, 1) := by decide +kernel
theorem dX11_act_9 : decode cX11_act 9 = .ok (.invokevirtual 130, 3) := by decide +kernel
theorem dX11_act_12 : decode cX11_act 12 = .ok (.astore 4, 2) := by decide +kernel
theorem dX11_act_14 : decode cX11_act 14 = .ok (.aload 4, 2) := by decide +kernel
theorem dX11_act_16 : decode cX11_act 16 = .ok (.ifnonnull 5, 3) := by decide +kernel
theorem dX11_act_19 : decode cX11_act 19 = .ok (.iconst 0, 1) := by decide +kernel
theorem dX11_act_20 : decode cX11_act 20 = .ok (.ireturn, 1) := by decide +kernel
theorem dX11_act_21 : decode cX11_act 21 = .ok (.iload_n 2, 1) := by decide +kernel
theorem dX11_act_22 : decode cX11_act 22 = .ok (.tableswitch 47 0 2 #[26, 33, 40], 26) := by decide +kernel
theorem dX11_act_48 : decode cX11_act 48 = .ok (.aload 4, 2) := by decide +kernel
theorem dX11_act_50 : decode cX11_act 50 = .ok (.iload_n 3, 1) := by decide +kernel
theorem dX11_act_51 : decode cX11_act 51 = .ok (.invokevirtual 269, 3) := by decide +kernel
theorem dX11_act_54 : decode cX11_act 54 = .ok (.ireturn, 1) := by decide +kernel
theorem dX11_act_55 : decode cX11_act 55 = .ok (.aload 4, 2) := by decide +kernel
theorem dX11_act_57 : decode cX11_act 57 = .ok (.iload_n 3, 1) := by decide +kernel
theorem dX11_act_58 : decode cX11_act 58 = .ok (.invokevirtual 272, 3) := by decide +kernel
theorem dX11_act_61 : decode cX11_act 61 = .ok (.ireturn, 1) := by decide +kernel
theorem dX11_act_62 : decode cX11_act 62 = .ok (.aload 4, 2) := by decide +kernel
theorem dX11_act_64 : decode cX11_act 64 = .ok (.iload_n 3, 1) := by decide +kernel
theorem dX11_act_65 : decode cX11_act 65 = .ok (.invokevirtual 275, 3) := by decide +kernel
theorem dX11_act_68 : decode cX11_act 68 = .ok (.ireturn, 1) := by decide +kernel
theorem dX11_act_69 : decode cX11_act 69 = .ok (.iconst 0, 1) := by decide +kernel
theorem dX11_act_70 : decode cX11_act 70 = .ok (.ireturn, 1) := by decide +kernel
def fv_X9_tell (S : HSt) (a0 : Nat) (a1 : Int32) : Option (Int32 × HSt) := oC (gC S a0) none fun k => if k = 0 then f_X9_tell S a0 a1 else if k = 1 then f_X9_tell S a0 a1 else if k = 2 then f_X9_tell S a0 a1 else if k = 3 then f_X3_tell S a0 a1 else if k = 5 then f_X5_tell S a0 a1 else if k = 9 then f_X9_tell S a0 a1 else if k = 10 then f_X5_tell S a0 a1 else none
def f_X11_act (S : HSt) (a0 : Nat) (a1 : Int32) (a2 : Int32) (a3 : Int32) : Option (Int32 × HSt) := (gR S a0 11 10).bind fun b1 => if gC S b1 = some 8 then ((f_X8_clear S b1).bind fun S5 => if gC S5 a0 = some 11 then (bd2 (f_X11_tryAt S5 a0 a1) fun b9 S8 => oC b9 (some (0, S8)) fun r10 => if a2 = 0 then (bd2 (fv_X9_say S8 r10 a3) fun v16 S15 => some (v16, S15)) else (if a2 = 1 then (bd2 (fv_X9_know S8 r10 a3) fun v19 S18 => some (v19, S18)) else (if a2 = 2 then (bd2 (fv_X9_tell S8 r10 a3) fun v22 S21 => some (v22, S21)) else (some (0, S8))))) else none) else none
abbrev rm_X11_act : Room := { frames := 8, cells := 0, slots := 0, locals := 168 }
abbrev w_X11_act : List Cond := Cond.code yX11_act cX11_act 5 (Option.some FieldType.int) :: lwG
theorem yd_X11_act : yX11_act.cls ≠ "java/lang/invoke/MethodHandle" ∧ yX11_act.cls ≠ "java/lang/invoke/VarHandle" ∧ (parseMethodDescriptor yX11_act.desc).map (fun d => d.parameters.length) = some 3 := by decide +kernel
theorem ye_X11_act : yX11_act.cls = RX11 ∧ yX11_act.cls ≠ "java/lang/invoke/MethodHandle" ∧ yX11_act.cls ≠ "java/lang/invoke/VarHandle" ∧ (parseMethodDescriptor yX11_act.desc).map (fun d => d.parameters.length) = some 3 := by decide +kernel
set_option maxHeartbeats 4000000 in
set_option maxRecDepth 100000 in
theorem c_X11_act (l : Launch) (D : va_G) (kA ρ : Nat → Nat) (HB : Heap) (S : HSt) (a0 : Nat) (a1 : Int32) (a2 : Int32) (a3 : Int32) (res : Int32 × HSt) (h : f_X11_act S a0 a1 a2 a3 = some res) : Met l yX11_act w_X11_act rm_X11_act (hPc D kA ρ HB S [.ref a0, .int a1, .int a2, .int a3]) (hQi D kA HB S res) 0 0 (hFree HB) := by
  refine Met.ofW (cc := cX11_act) (maxL := 5) (ret := (Option.some FieldType.int)) (by decide) rfl ?_
  intro p e s m args below meth c s₁ B hml hv
  obtain ⟨rfl, hE, h0⟩ := hv
  have hx := B.exec
  have hb := B.bytes
  have hr := B.returns
  have hts0 := atoms_spec (ws := w_X11_act) B.pre
  have hts : ∀ w ∈ lwG, w.before _ s = true := fun w hw => hts0 w (List.mem_cons_of_mem _ hw)
  have hown : s.vm.findClass RX11 = some m.cls := findClass_of_methodNamed B.named
  have hlocks := B.notSynchronized
  have hI : hqX D kA HB S.2 S s.heap [] := ⟨h0, Nat.le_refl _, fun _ q => absurd q List.not_mem_nil⟩
  generalize s.heap = H at hI ⊢
  generalize ([] : List Loc) = locs at hI ⊢
  have hl := lv_entry ([.ref a0, .int a1, .int a2, .int a3]) (n := 5) (Nat.le_of_ble_eq_true rfl)
  rw [lg_entry_eq]
  generalize (lg_sl ([.ref a0, .int a1, .int a2, .int a3]) ++ List.replicate (5 - (lg_sl ([.ref a0, .int a1, .int a2, .int a3])).length) Slot.unset).toArray = ls at hl ⊢
  have hl : lv_has ls 5 [(0, .ref a0), (1, .int a1), (2, .int a2), (3, .int a3)] := hl
  unfold f_X11_act at h
  refine lv_aload_n hx hb dX11_act_0 rfl (lv_at hl 0 rfl) ?_
  obtain ⟨b1, g2, h⟩ := hq_bind h
  obtain ⟨fs_g2, hs_g2, hv_g2⟩ := gR_at g2
  refine hq_get hx hb hts hown hE hI hs_g2 inG11 rfl 10 (by decide) kw_142 hv_g2 dX11_act_1 ?_
  obtain ⟨g4, h⟩ := hq_g h
  obtain ⟨S5, g3, h⟩ := hq_bind h
  refine hq_callv hI (va_runV (As := []) (rest := []) ⟨hx, hb, hml, hown, hts⟩ (c_X8_clear l D kA ρ HB S b1 _ g3) (cwV 0 hts (gdIn (List.forall_mem_cons.mpr ⟨kw_795, (List.forall_mem_cons.mpr ⟨kw_796, (List.forall_mem_cons.mpr ⟨kw_797, (List.forall_mem_cons.mpr ⟨kw_4, (fun _ h => absurd h List.not_mem_nil)⟩)⟩)⟩)⟩) kw_798) rfl rfl rfl ye_X8_clear ⟨Nat.le_of_ble_eq_true rfl, Nat.le_of_ble_eq_true rfl⟩) (hq_preC hE hI g4 rfl _) rfl rfl hl.1 rfl (lv_room (Nat.le_of_ble_eq_true rfl)) dX11_act_4 ⟨Nat.le_of_ble_eq_true rfl, Nat.le_of_ble_eq_true rfl⟩) (fun H locs hI => ?_)
  refine lv_aload_n hx hb dX11_act_7 rfl (lv_at hl 0 rfl) ?_
  refine lv_iload_n hx hb dX11_act_8 rfl (lv_at hl 1 rfl) ?_
  obtain ⟨g7, h⟩ := hq_g h
  obtain ⟨b9, S8, g6, h⟩ := hq_bd2 h
  refine hq_callq hI (va_runV (As := [.int a1]) (rest := []) ⟨hx, hb, hml, hown, hts⟩ (c_X11_tryAt l D kA ρ HB S5 a0 a1 _ g6) (cwV 1 hts (gdIn (List.forall_mem_cons.mpr ⟨kw_354, (List.forall_mem_cons.mpr ⟨kw_356, (List.forall_mem_cons.mpr ⟨ks_2, (List.forall_mem_cons.mpr ⟨kw_1, (fun _ h => absurd h List.not_mem_nil)⟩)⟩)⟩)⟩) kw_357) rfl rfl rfl ye_X11_tryAt ⟨Nat.le_of_ble_eq_true rfl, Nat.le_of_ble_eq_true rfl⟩) (hq_preC hE hI g7 rfl _) rfl rfl hl.1 rfl (lv_room (Nat.le_of_ble_eq_true rfl)) dX11_act_9 ⟨Nat.le_of_ble_eq_true rfl, Nat.le_of_ble_eq_true rfl⟩) (fun H locs hI => ?_)
  rcases b9 with _ | r10
  · have h := oC_n h
    refine lv_astoreN (lv' := [(4, .null), (0, .ref a0), (1, .int a1), (2, .int a2), (3, .int a3)]) hx hb dX11_act_12 hl (by decide) rfl (fun ls hl => ?_)
    refine lv_aloadN hx hb dX11_act_14 (lv_at hl 0 rfl) ?_
    refine lv_ifnonnullN hx hb dX11_act_16 ?_
    refine lv_iconst (v := 0) hx hb dX11_act_19 (by decide) ?_
    exact hq_iret hx hb hr hlocks h0 hI h dX11_act_20
  · have h := oC_s h
    refine lv_astore (lv' := [(4, .ref r10), (0, .ref a0), (1, .int a1), (2, .int a2), (3, .int a3)]) hx hb dX11_act_12 hl (by decide) rfl (fun ls hl => ?_)
    refine lv_aload hx hb dX11_act_14 (lv_at hl 0 rfl) ?_
    refine lv_ifnonnull (tgt := 21) hx hb dX11_act_16 (by decide) ?_
    refine lv_iload_n hx hb dX11_act_21 rfl (lv_at hl 3 rfl) ?_
    by_cases c11 : a2 = 0
    · have h := hq_t h c11
      refine lv_tableIn (tgt := 48) hx hb dX11_act_22 (by rw [c11]; decide) (by rw [c11]; decide) (by rw [c11]; rfl) (by decide) ?_
      refine lv_aload hx hb dX11_act_48 (lv_at hl 0 rfl) ?_
      refine lv_iload_n hx hb dX11_act_50 rfl (lv_at hl 4 rfl) ?_
      obtain ⟨v16, S15, g14, h⟩ := hq_bd2 h
      have hrun_g14 : va_Run p l e rm_X11_act s m ([.ref a0, .int a1, .int a2, .int a3] : List Value).toArray below meth c H locs 0 0 0 0 (F0 m 51 ls [.int a3, .ref r10]) [] (hQi D kA HB S8 (v16, S15) ([.ref r10, .int a3] : List Value).toArray) (hFree HB) := by
        unfold fv_X9_say at g14
        rcases hk_g14 : gC S8 r10 with _ | k_g14
        · rw [hk_g14] at g14
          cases g14
        · rw [hk_g14] at g14
          have g14 := oC_s g14
          by_cases k0_g14 : k_g14 = 0
          · subst k0_g14
            have g14 := hq_t g14 rfl
            exact va_runU (As := [.int a3]) (rest := []) ⟨hx, hb, hml, hown, hts⟩ (c_X9_say l D kA ρ HB S8 r10 a3 _ g14) (va_cwU 1 hts (gdIn (List.forall_mem_cons.mpr ⟨kw_799, (List.forall_mem_cons.mpr ⟨kw_802, (List.forall_mem_cons.mpr ⟨kw_803, (List.forall_mem_cons.mpr ⟨kw_800, (List.forall_mem_cons.mpr ⟨kw_7, (fun _ h => absurd h List.not_mem_nil)⟩)⟩)⟩)⟩)⟩) kw_836) rfl rfl rfl rfl (by decide +kernel) ⟨Nat.le_of_ble_eq_true rfl, Nat.le_of_ble_eq_true rfl⟩) (hq_preC hE hI hk_g14 rfl _) rfl rfl hl.1 rfl (lv_room (Nat.le_of_ble_eq_true rfl)) dX11_act_51 ⟨Nat.le_of_ble_eq_true rfl, Nat.le_of_ble_eq_true rfl⟩
          have g14 := hq_f g14 k0_g14
          by_cases k1_g14 : k_g14 = 1
          · subst k1_g14
            have g14 := hq_t g14 rfl
            exact va_runU (As := [.int a3]) (rest := []) ⟨hx, hb, hml, hown, hts⟩ (c_X1_say l D kA ρ HB S8 r10 a3 _ g14) (va_cwO 1 hts (gdIn (List.forall_mem_cons.mpr ⟨kw_799, (List.forall_mem_cons.mpr ⟨kw_802, (List.forall_mem_cons.mpr ⟨kw_800, (List.forall_mem_cons.mpr ⟨kw_804, (List.forall_mem_cons.mpr ⟨kw_805, (List.forall_mem_cons.mpr ⟨kw_12, (fun _ h => absurd h List.not_mem_nil)⟩)⟩)⟩)⟩)⟩)⟩) kw_806) rfl rfl rfl kw_836 (by decide +kernel) ⟨Nat.le_of_ble_eq_true rfl, Nat.le_of_ble_eq_true rfl⟩) (hq_preC hE hI hk_g14 rfl _) rfl rfl hl.1 rfl (lv_room (Nat.le_of_ble_eq_true rfl)) dX11_act_51 ⟨Nat.le_of_ble_eq_true rfl, Nat.le_of_ble_eq_true rfl⟩
          have g14 := hq_f g14 k1_g14
          by_cases k2_g14 : k_g14 = 2
          · subst k2_g14
            have g14 := hq_t g14 rfl
            exact va_runU (As := [.int a3]) (rest := []) ⟨hx, hb, hml, hown, hts⟩ (c_X2_say l D kA ρ HB S8 r10 a3 _ g14) (va_cwO 1 hts (gdIn (List.forall_mem_cons.mpr ⟨kw_799, (List.forall_mem_cons.mpr ⟨kw_802, (List.forall_mem_cons.mpr ⟨kw_800, (List.forall_mem_cons.mpr ⟨kw_826, (List.forall_mem_cons.mpr ⟨kw_827, (List.forall_mem_cons.mpr ⟨kw_8, (fun _ h => absurd h List.not_mem_nil)⟩)⟩)⟩)⟩)⟩)⟩) kw_828) rfl rfl rfl kw_836 (by decide +kernel) ⟨Nat.le_of_ble_eq_true rfl, Nat.le_of_ble_eq_true rfl⟩) (hq_preC hE hI hk_g14 rfl _) rfl rfl hl.1 rfl (lv_room (Nat.le_of_ble_eq_true rfl)) dX11_act_51 ⟨Nat.le_of_ble_eq_true rfl, Nat.le_of_ble_eq_true rfl⟩
          have g14 := hq_f g14 k2_g14
          by_cases k3_g14 : k_g14 = 3
          · subst k3_g14
            have g14 := hq_t g14 rfl
            exact va_runU (As := [.int a3]) (rest := []) ⟨hx, hb, hml, hown, hts⟩ (c_X9_say l D kA ρ HB S8 r10 a3 _ g14) (va_cwU 1 hts (gdIn (List.forall_mem_cons.mpr ⟨kw_799, (List.forall_mem_cons.mpr ⟨kw_802, (List.forall_mem_cons.mpr ⟨kw_833, (List.forall_mem_cons.mpr ⟨kw_800, (List.forall_mem_cons.mpr ⟨kw_7, (fun _ h => absurd h List.not_mem_nil)⟩)⟩)⟩)⟩)⟩) kw_836) rfl rfl rfl rfl (by decide +kernel) ⟨Nat.le_of_ble_eq_true rfl, Nat.le_of_ble_eq_true rfl⟩) (hq_preC hE hI hk_g14 rfl _) rfl rfl hl.1 rfl (lv_room (Nat.le_of_ble_eq_true rfl)) dX11_act_51 ⟨Nat.le_of_ble_eq_true rfl, Nat.le_of_ble_eq_true rfl⟩
          have g14 := hq_f g14 k3_g14
          by_cases k5_g14 : k_g14 = 5
          · subst k5_g14
            have g14 := hq_t g14 rfl
            exact va_runU (As := [.int a3]) (rest := []) ⟨hx, hb, hml, hown, hts⟩ (c_X9_say l D kA ρ HB S8 r10 a3 _ g14) (va_cwU 1 hts (gdIn (List.forall_mem_cons.mpr ⟨kw_799, (List.forall_mem_cons.mpr ⟨kw_802, (List.forall_mem_cons.mpr ⟨kw_834, (List.forall_mem_cons.mpr ⟨kw_800, (List.forall_mem_cons.mpr ⟨kw_7, (fun _ h => absurd h List.not_mem_nil)⟩)⟩)⟩)⟩)⟩) kw_836) rfl rfl rfl rfl (by decide +kernel) ⟨Nat.le_of_ble_eq_true rfl, Nat.le_of_ble_eq_true rfl⟩) (hq_preC hE hI hk_g14 rfl _) rfl rfl hl.1 rfl (lv_room (Nat.le_of_ble_eq_true rfl)) dX11_act_51 ⟨Nat.le_of_ble_eq_true rfl, Nat.le_of_ble_eq_true rfl⟩
          have g14 := hq_f g14 k5_g14
          by_cases k9_g14 : k_g14 = 9
          · subst k9_g14
            have g14 := hq_t g14 rfl
            exact va_runV (As := [.int a3]) (rest := []) ⟨hx, hb, hml, hown, hts⟩ (c_X9_say l D kA ρ HB S8 r10 a3 _ g14) (cwV 1 hts (gdIn (List.forall_mem_cons.mpr ⟨kw_799, (List.forall_mem_cons.mpr ⟨kw_800, (List.forall_mem_cons.mpr ⟨kw_801, (List.forall_mem_cons.mpr ⟨kw_7, (fun _ h => absurd h List.not_mem_nil)⟩)⟩)⟩)⟩) kw_836) rfl rfl rfl ye_X9_say ⟨Nat.le_of_ble_eq_true rfl, Nat.le_of_ble_eq_true rfl⟩) (hq_preC hE hI hk_g14 rfl _) rfl rfl hl.1 rfl (lv_room (Nat.le_of_ble_eq_true rfl)) dX11_act_51 ⟨Nat.le_of_ble_eq_true rfl, Nat.le_of_ble_eq_true rfl⟩
          have g14 := hq_f g14 k9_g14
          by_cases k10_g14 : k_g14 = 10
          · subst k10_g14
            have g14 := hq_t g14 rfl
            exact va_runU (As := [.int a3]) (rest := []) ⟨hx, hb, hml, hown, hts⟩ (c_X9_say l D kA ρ HB S8 r10 a3 _ g14) (va_cwU 1 hts (gdIn (List.forall_mem_cons.mpr ⟨kw_799, (List.forall_mem_cons.mpr ⟨kw_802, (List.forall_mem_cons.mpr ⟨kw_835, (List.forall_mem_cons.mpr ⟨kw_800, (List.forall_mem_cons.mpr ⟨kw_7, (fun _ h => absurd h List.not_mem_nil)⟩)⟩)⟩)⟩)⟩) kw_836) rfl rfl rfl rfl (by decide +kernel) ⟨Nat.le_of_ble_eq_true rfl, Nat.le_of_ble_eq_true rfl⟩) (hq_preC hE hI hk_g14 rfl _) rfl rfl hl.1 rfl (lv_room (Nat.le_of_ble_eq_true rfl)) dX11_act_51 ⟨Nat.le_of_ble_eq_true rfl, Nat.le_of_ble_eq_true rfl⟩
          have g14 := hq_f g14 k10_g14
          cases g14
      refine hq_calli hI hrun_g14 (fun H locs hI => ?_)
      exact hq_iret hx hb hr hlocks h0 hI h dX11_act_54
    have h := hq_f h c11
    by_cases c12 : a2 = 1
    · have h := hq_t h c12
      refine lv_tableIn (tgt := 55) hx hb dX11_act_22 (by rw [c12]; decide) (by rw [c12]; decide) (by rw [c12]; rfl) (by decide) ?_
      refine lv_aload hx hb dX11_act_55 (lv_at hl 0 rfl) ?_
      refine lv_iload_n hx hb dX11_act_57 rfl (lv_at hl 4 rfl) ?_
      obtain ⟨v19, S18, g17, h⟩ := hq_bd2 h
      have hrun_g17 : va_Run p l e rm_X11_act s m ([.ref a0, .int a1, .int a2, .int a3] : List Value).toArray below meth c H locs 0 0 0 0 (F0 m 58 ls [.int a3, .ref r10]) [] (hQi D kA HB S8 (v19, S18) ([.ref r10, .int a3] : List Value).toArray) (hFree HB) := by
        unfold fv_X9_know at g17
        rcases hk_g17 : gC S8 r10 with _ | k_g17
        · rw [hk_g17] at g17
          cases g17
        · rw [hk_g17] at g17
          have g17 := oC_s g17
          by_cases k0_g17 : k_g17 = 0
          · subst k0_g17
            have g17 := hq_t g17 rfl
            exact va_runU (As := [.int a3]) (rest := []) ⟨hx, hb, hml, hown, hts⟩ (c_X0_know l D kA ρ HB S8 r10 a3 _ g17) (va_cwO 1 hts (gdIn (List.forall_mem_cons.mpr ⟨kw_838, (List.forall_mem_cons.mpr ⟨kw_841, (List.forall_mem_cons.mpr ⟨kw_839, (List.forall_mem_cons.mpr ⟨kw_842, (List.forall_mem_cons.mpr ⟨kw_843, (List.forall_mem_cons.mpr ⟨kw_9, (fun _ h => absurd h List.not_mem_nil)⟩)⟩)⟩)⟩)⟩)⟩) kw_844) rfl rfl rfl kw_870 (by decide +kernel) ⟨Nat.le_of_ble_eq_true rfl, Nat.le_of_ble_eq_true rfl⟩) (hq_preC hE hI hk_g17 rfl _) rfl rfl hl.1 rfl (lv_room (Nat.le_of_ble_eq_true rfl)) dX11_act_58 ⟨Nat.le_of_ble_eq_true rfl, Nat.le_of_ble_eq_true rfl⟩
          have g17 := hq_f g17 k0_g17
          by_cases k1_g17 : k_g17 = 1
          · subst k1_g17
            have g17 := hq_t g17 rfl
            exact va_runU (As := [.int a3]) (rest := []) ⟨hx, hb, hml, hown, hts⟩ (c_X0_know l D kA ρ HB S8 r10 a3 _ g17) (va_cwO 1 hts (gdIn (List.forall_mem_cons.mpr ⟨kw_838, (List.forall_mem_cons.mpr ⟨kw_841, (List.forall_mem_cons.mpr ⟨kw_839, (List.forall_mem_cons.mpr ⟨kw_851, (List.forall_mem_cons.mpr ⟨kw_843, (List.forall_mem_cons.mpr ⟨kw_9, (fun _ h => absurd h List.not_mem_nil)⟩)⟩)⟩)⟩)⟩)⟩) kw_844) rfl rfl rfl kw_870 (by decide +kernel) ⟨Nat.le_of_ble_eq_true rfl, Nat.le_of_ble_eq_true rfl⟩) (hq_preC hE hI hk_g17 rfl _) rfl rfl hl.1 rfl (lv_room (Nat.le_of_ble_eq_true rfl)) dX11_act_58 ⟨Nat.le_of_ble_eq_true rfl, Nat.le_of_ble_eq_true rfl⟩
          have g17 := hq_f g17 k1_g17
          by_cases k2_g17 : k_g17 = 2
          · subst k2_g17
            have g17 := hq_t g17 rfl
            exact va_runU (As := [.int a3]) (rest := []) ⟨hx, hb, hml, hown, hts⟩ (c_X9_know l D kA ρ HB S8 r10 a3 _ g17) (va_cwU 1 hts (gdIn (List.forall_mem_cons.mpr ⟨kw_838, (List.forall_mem_cons.mpr ⟨kw_841, (List.forall_mem_cons.mpr ⟨kw_852, (List.forall_mem_cons.mpr ⟨kw_839, (List.forall_mem_cons.mpr ⟨kw_7, (fun _ h => absurd h List.not_mem_nil)⟩)⟩)⟩)⟩)⟩) kw_870) rfl rfl rfl rfl (by decide +kernel) ⟨Nat.le_of_ble_eq_true rfl, Nat.le_of_ble_eq_true rfl⟩) (hq_preC hE hI hk_g17 rfl _) rfl rfl hl.1 rfl (lv_room (Nat.le_of_ble_eq_true rfl)) dX11_act_58 ⟨Nat.le_of_ble_eq_true rfl, Nat.le_of_ble_eq_true rfl⟩
          have g17 := hq_f g17 k2_g17
          by_cases k3_g17 : k_g17 = 3
          · subst k3_g17
            have g17 := hq_t g17 rfl
            exact va_runU (As := [.int a3]) (rest := []) ⟨hx, hb, hml, hown, hts⟩ (c_X0_know l D kA ρ HB S8 r10 a3 _ g17) (va_cwO 1 hts (gdIn (List.forall_mem_cons.mpr ⟨kw_838, (List.forall_mem_cons.mpr ⟨kw_841, (List.forall_mem_cons.mpr ⟨kw_839, (List.forall_mem_cons.mpr ⟨kw_853, (List.forall_mem_cons.mpr ⟨kw_843, (List.forall_mem_cons.mpr ⟨kw_9, (fun _ h => absurd h List.not_mem_nil)⟩)⟩)⟩)⟩)⟩)⟩) kw_844) rfl rfl rfl kw_870 (by decide +kernel) ⟨Nat.le_of_ble_eq_true rfl, Nat.le_of_ble_eq_true rfl⟩) (hq_preC hE hI hk_g17 rfl _) rfl rfl hl.1 rfl (lv_room (Nat.le_of_ble_eq_true rfl)) dX11_act_58 ⟨Nat.le_of_ble_eq_true rfl, Nat.le_of_ble_eq_true rfl⟩
          have g17 := hq_f g17 k3_g17
          by_cases k5_g17 : k_g17 = 5
          · subst k5_g17
            have g17 := hq_t g17 rfl
            exact va_runU (As := [.int a3]) (rest := []) ⟨hx, hb, hml, hown, hts⟩ (c_X9_know l D kA ρ HB S8 r10 a3 _ g17) (va_cwU 1 hts (gdIn (List.forall_mem_cons.mpr ⟨kw_838, (List.forall_mem_cons.mpr ⟨kw_841, (List.forall_mem_cons.mpr ⟨kw_854, (List.forall_mem_cons.mpr ⟨kw_839, (List.forall_mem_cons.mpr ⟨kw_7, (fun _ h => absurd h List.not_mem_nil)⟩)⟩)⟩)⟩)⟩) kw_870) rfl rfl rfl rfl (by decide +kernel) ⟨Nat.le_of_ble_eq_true rfl, Nat.le_of_ble_eq_true rfl⟩) (hq_preC hE hI hk_g17 rfl _) rfl rfl hl.1 rfl (lv_room (Nat.le_of_ble_eq_true rfl)) dX11_act_58 ⟨Nat.le_of_ble_eq_true rfl, Nat.le_of_ble_eq_true rfl⟩
          have g17 := hq_f g17 k5_g17
          by_cases k9_g17 : k_g17 = 9
          · subst k9_g17
            have g17 := hq_t g17 rfl
            exact va_runV (As := [.int a3]) (rest := []) ⟨hx, hb, hml, hown, hts⟩ (c_X9_know l D kA ρ HB S8 r10 a3 _ g17) (cwV 1 hts (gdIn (List.forall_mem_cons.mpr ⟨kw_838, (List.forall_mem_cons.mpr ⟨kw_839, (List.forall_mem_cons.mpr ⟨kw_840, (List.forall_mem_cons.mpr ⟨kw_7, (fun _ h => absurd h List.not_mem_nil)⟩)⟩)⟩)⟩) kw_870) rfl rfl rfl ye_X9_know ⟨Nat.le_of_ble_eq_true rfl, Nat.le_of_ble_eq_true rfl⟩) (hq_preC hE hI hk_g17 rfl _) rfl rfl hl.1 rfl (lv_room (Nat.le_of_ble_eq_true rfl)) dX11_act_58 ⟨Nat.le_of_ble_eq_true rfl, Nat.le_of_ble_eq_true rfl⟩
          have g17 := hq_f g17 k9_g17
          by_cases k10_g17 : k_g17 = 10
          · subst k10_g17
            have g17 := hq_t g17 rfl
            exact va_runU (As := [.int a3]) (rest := []) ⟨hx, hb, hml, hown, hts⟩ (c_X10_know l D kA ρ HB S8 r10 a3 _ g17) (va_cwO 1 hts (gdIn (List.forall_mem_cons.mpr ⟨kw_838, (List.forall_mem_cons.mpr ⟨kw_841, (List.forall_mem_cons.mpr ⟨kw_839, (List.forall_mem_cons.mpr ⟨kw_855, (List.forall_mem_cons.mpr ⟨kw_856, (List.forall_mem_cons.mpr ⟨kw_13, (fun _ h => absurd h List.not_mem_nil)⟩)⟩)⟩)⟩)⟩)⟩) kw_857) rfl rfl rfl kw_870 (by decide +kernel) ⟨Nat.le_of_ble_eq_true rfl, Nat.le_of_ble_eq_true rfl⟩) (hq_preC hE hI hk_g17 rfl _) rfl rfl hl.1 rfl (lv_room (Nat.le_of_ble_eq_true rfl)) dX11_act_58 ⟨Nat.le_of_ble_eq_true rfl, Nat.le_of_ble_eq_true rfl⟩
          have g17 := hq_f g17 k10_g17
          cases g17
      refine hq_calli hI hrun_g17 (fun H locs hI => ?_)
      exact hq_iret hx hb hr hlocks h0 hI h dX11_act_61
    have h := hq_f h c12
    by_cases c13 : a2 = 2
    · have h := hq_t h c13
      refine lv_tableIn (tgt := 62) hx hb dX11_act_22 (by rw [c13]; decide) (by rw [c13]; decide) (by rw [c13]; rfl) (by decide) ?_
      refine lv_aload hx hb dX11_act_62 (lv_at hl 0 rfl) ?_
      refine lv_iload_n hx hb dX11_act_64 rfl (lv_at hl 4 rfl) ?_
      obtain ⟨v22, S21, g20, h⟩ := hq_bd2 h
      have hrun_g20 : va_Run p l e rm_X11_act s m ([.ref a0, .int a1, .int a2, .int a3] : List Value).toArray below meth c H locs 0 0 0 0 (F0 m 65 ls [.int a3, .ref r10]) [] (hQi D kA HB S8 (v22, S21) ([.ref r10, .int a3] : List Value).toArray) (hFree HB) := by
        unfold fv_X9_tell at g20
        rcases hk_g20 : gC S8 r10 with _ | k_g20
        · rw [hk_g20] at g20
          cases g20
        · rw [hk_g20] at g20
          have g20 := oC_s g20
          by_cases k0_g20 : k_g20 = 0
          · subst k0_g20
            have g20 := hq_t g20 rfl
            exact va_runU (As := [.int a3]) (rest := []) ⟨hx, hb, hml, hown, hts⟩ (c_X9_tell l D kA ρ HB S8 r10 a3 _ g20) (va_cwU 1 hts (gdIn (List.forall_mem_cons.mpr ⟨kw_872, (List.forall_mem_cons.mpr ⟨kw_875, (List.forall_mem_cons.mpr ⟨kw_876, (List.forall_mem_cons.mpr ⟨kw_873, (List.forall_mem_cons.mpr ⟨kw_7, (fun _ h => absurd h List.not_mem_nil)⟩)⟩)⟩)⟩)⟩) kw_900) rfl rfl rfl rfl (by decide +kernel) ⟨Nat.le_of_ble_eq_true rfl, Nat.le_of_ble_eq_true rfl⟩) (hq_preC hE hI hk_g20 rfl _) rfl rfl hl.1 rfl (lv_room (Nat.le_of_ble_eq_true rfl)) dX11_act_65 ⟨Nat.le_of_ble_eq_true rfl, Nat.le_of_ble_eq_true rfl⟩
          have g20 := hq_f g20 k0_g20
          by_cases k1_g20 : k_g20 = 1
          · subst k1_g20
            have g20 := hq_t g20 rfl
            exact va_runU (As := [.int a3]) (rest := []) ⟨hx, hb, hml, hown, hts⟩ (c_X9_tell l D kA ρ HB S8 r10 a3 _ g20) (va_cwU 1 hts (gdIn (List.forall_mem_cons.mpr ⟨kw_872, (List.forall_mem_cons.mpr ⟨kw_875, (List.forall_mem_cons.mpr ⟨kw_877, (List.forall_mem_cons.mpr ⟨kw_873, (List.forall_mem_cons.mpr ⟨kw_7, (fun _ h => absurd h List.not_mem_nil)⟩)⟩)⟩)⟩)⟩) kw_900) rfl rfl rfl rfl (by decide +kernel) ⟨Nat.le_of_ble_eq_true rfl, Nat.le_of_ble_eq_true rfl⟩) (hq_preC hE hI hk_g20 rfl _) rfl rfl hl.1 rfl (lv_room (Nat.le_of_ble_eq_true rfl)) dX11_act_65 ⟨Nat.le_of_ble_eq_true rfl, Nat.le_of_ble_eq_true rfl⟩
          have g20 := hq_f g20 k1_g20
          by_cases k2_g20 : k_g20 = 2
          · subst k2_g20
            have g20 := hq_t g20 rfl
            exact va_runU (As := [.int a3]) (rest := []) ⟨hx, hb, hml, hown, hts⟩ (c_X9_tell l D kA ρ HB S8 r10 a3 _ g20) (va_cwU 1 hts (gdIn (List.forall_mem_cons.mpr ⟨kw_872, (List.forall_mem_cons.mpr ⟨kw_875, (List.forall_mem_cons.mpr ⟨kw_878, (List.forall_mem_cons.mpr ⟨kw_873, (List.forall_mem_cons.mpr ⟨kw_7, (fun _ h => absurd h List.not_mem_nil)⟩)⟩)⟩)⟩)⟩) kw_900) rfl rfl rfl rfl (by decide +kernel) ⟨Nat.le_of_ble_eq_true rfl, Nat.le_of_ble_eq_true rfl⟩) (hq_preC hE hI hk_g20 rfl _) rfl rfl hl.1 rfl (lv_room (Nat.le_of_ble_eq_true rfl)) dX11_act_65 ⟨Nat.le_of_ble_eq_true rfl, Nat.le_of_ble_eq_true rfl⟩
          have g20 := hq_f g20 k2_g20
          by_cases k3_g20 : k_g20 = 3
          · subst k3_g20
            have g20 := hq_t g20 rfl
            exact va_runU (As := [.int a3]) (rest := []) ⟨hx, hb, hml, hown, hts⟩ (c_X3_tell l D kA ρ HB S8 r10 a3 _ g20) (va_cwO 1 hts (gdIn (List.forall_mem_cons.mpr ⟨kw_872, (List.forall_mem_cons.mpr ⟨kw_875, (List.forall_mem_cons.mpr ⟨kw_873, (List.forall_mem_cons.mpr ⟨kw_879, (List.forall_mem_cons.mpr ⟨kw_880, (List.forall_mem_cons.mpr ⟨kw_11, (fun _ h => absurd h List.not_mem_nil)⟩)⟩)⟩)⟩)⟩)⟩) kw_881) rfl rfl rfl kw_900 (by decide +kernel) ⟨Nat.le_of_ble_eq_true rfl, Nat.le_of_ble_eq_true rfl⟩) (hq_preC hE hI hk_g20 rfl _) rfl rfl hl.1 rfl (lv_room (Nat.le_of_ble_eq_true rfl)) dX11_act_65 ⟨Nat.le_of_ble_eq_true rfl, Nat.le_of_ble_eq_true rfl⟩
          have g20 := hq_f g20 k3_g20
          by_cases k5_g20 : k_g20 = 5
          · subst k5_g20
            have g20 := hq_t g20 rfl
            exact va_runU (As := [.int a3]) (rest := []) ⟨hx, hb, hml, hown, hts⟩ (c_X5_tell l D kA ρ HB S8 r10 a3 _ g20) (va_cwO 1 hts (gdIn (List.forall_mem_cons.mpr ⟨kw_872, (List.forall_mem_cons.mpr ⟨kw_875, (List.forall_mem_cons.mpr ⟨kw_873, (List.forall_mem_cons.mpr ⟨kw_891, (List.forall_mem_cons.mpr ⟨kw_892, (List.forall_mem_cons.mpr ⟨kw_10, (fun _ h => absurd h List.not_mem_nil)⟩)⟩)⟩)⟩)⟩)⟩) kw_893) rfl rfl rfl kw_900 (by decide +kernel) ⟨Nat.le_of_ble_eq_true rfl, Nat.le_of_ble_eq_true rfl⟩) (hq_preC hE hI hk_g20 rfl _) rfl rfl hl.1 rfl (lv_room (Nat.le_of_ble_eq_true rfl)) dX11_act_65 ⟨Nat.le_of_ble_eq_true rfl, Nat.le_of_ble_eq_true rfl⟩
          have g20 := hq_f g20 k5_g20
          by_cases k9_g20 : k_g20 = 9
          · subst k9_g20
            have g20 := hq_t g20 rfl
            exact va_runV (As := [.int a3]) (rest := []) ⟨hx, hb, hml, hown, hts⟩ (c_X9_tell l D kA ρ HB S8 r10 a3 _ g20) (cwV 1 hts (gdIn (List.forall_mem_cons.mpr ⟨kw_872, (List.forall_mem_cons.mpr ⟨kw_873, (List.forall_mem_cons.mpr ⟨kw_874, (List.forall_mem_cons.mpr ⟨kw_7, (fun _ h => absurd h List.not_mem_nil)⟩)⟩)⟩)⟩) kw_900) rfl rfl rfl ye_X9_tell ⟨Nat.le_of_ble_eq_true rfl, Nat.le_of_ble_eq_true rfl⟩) (hq_preC hE hI hk_g20 rfl _) rfl rfl hl.1 rfl (lv_room (Nat.le_of_ble_eq_true rfl)) dX11_act_65 ⟨Nat.le_of_ble_eq_true rfl, Nat.le_of_ble_eq_true rfl⟩
          have g20 := hq_f g20 k9_g20
          by_cases k10_g20 : k_g20 = 10
          · subst k10_g20
            have g20 := hq_t g20 rfl
            exact va_runU (As := [.int a3]) (rest := []) ⟨hx, hb, hml, hown, hts⟩ (c_X5_tell l D kA ρ HB S8 r10 a3 _ g20) (va_cwO 1 hts (gdIn (List.forall_mem_cons.mpr ⟨kw_872, (List.forall_mem_cons.mpr ⟨kw_875, (List.forall_mem_cons.mpr ⟨kw_873, (List.forall_mem_cons.mpr ⟨kw_899, (List.forall_mem_cons.mpr ⟨kw_892, (List.forall_mem_cons.mpr ⟨kw_10, (fun _ h => absurd h List.not_mem_nil)⟩)⟩)⟩)⟩)⟩)⟩) kw_893) rfl rfl rfl kw_900 (by decide +kernel) ⟨Nat.le_of_ble_eq_true rfl, Nat.le_of_ble_eq_true rfl⟩) (hq_preC hE hI hk_g20 rfl _) rfl rfl hl.1 rfl (lv_room (Nat.le_of_ble_eq_true rfl)) dX11_act_65 ⟨Nat.le_of_ble_eq_true rfl, Nat.le_of_ble_eq_true rfl⟩
          have g20 := hq_f g20 k10_g20
          cases g20
      refine hq_calli hI hrun_g20 (fun H locs hI => ?_)
      exact hq_iret hx hb hr hlocks h0 hI h dX11_act_68
    have h := hq_f h c13
    have t_c11 := lv_neT c11 (a := 0) (by decide)
    have t_c12 := lv_neT c12 (a := 1) (by decide)
    have t_c13 := lv_neT c13 (a := 2) (by decide)
    refine lv_tableOut (tgt := 69) hx hb dX11_act_22 (by omega) (by decide) ?_
    refine lv_iconst (v := 0) hx hb dX11_act_69 (by decide) ?_
    exact hq_iret hx hb hr hlocks h0 hI h dX11_act_70
-- RodDips.as(II)I
theorem dX11_as_0 : decode cX11_as 0 = .ok (.aload_n 0, 1) := by decide +kernel
theorem dX11_as_1 : decode cX11_as 1 = .ok (.iload_n 1, 1) := by decide +kernel
theorem dX11_as_2 : decode cX11_as 2 = .ok (.invokevirtual 130, 3) := by decide +kernel
theorem dX11_as_5 : decode cX11_as 5 = .ok (.astore_n 3, 1) := by decide +kernel
theorem dX11_as_6 : decode cX11_as 6 = .ok (.aload_n 3, 1) := by decide +kernel
theorem dX11_as_7 : decode cX11_as 7 = .ok (.ifnull 10, 3) := by decide +kernel
theorem dX11_as_10 : decode cX11_as 10 = .ok (.iload_n 2, 1) := by decide +kernel
theorem dX11_as_11 : decode cX11_as 11 = .ok (.invokestatic 93, 3) := by decide +kernel
theorem dX11_as_14 : decode cX11_as 14 = .ok (.ifCond .ne 5, 3) := by decide +kernel
theorem dX11_as_17 : decode cX11_as 17 = .ok (.iconst (-1), 1) := by decide +kernel
theorem dX11_as_18 : decode cX11_as 18 = .ok (.ireturn, 1) := by decide +kernel
theorem dX11_as_19 : decode cX11_as 19 = .ok (.aload_n 3, 1) := by decide +kernel
theorem dX11_as_20 : decode cX11_as 20 = .ok (.getfield 112, 3) := by decide +kernel
theorem dX11_as_23 : decode cX11_as 23 = .ok (.iload_n 2, 1) := by decide +kernel
theorem dX11_as_24 : decode cX11_as 24 = .ok (.invokestatic 281, 3) := by decide +kernel
theorem dX11_as_27 : decode cX11_as 27 = .ok (.ifCond .eq 10, 3) := by decide +kernel
theorem dX11_as_30 : decode cX11_as 30 = .ok (.aload_n 3, 1) := by decide +kernel
theorem dX11_as_31 : decode cX11_as 31 = .ok (.getfield 127, 3) := by decide +kernel
theorem dX11_as_34 : decode cX11_as 34 = .ok (.goto 5, 3) := by decide +kernel
theorem dX11_as_37 : decode cX11_as 37 = .ok (.bipush (-6), 2) := by decide +kernel
theorem dX11_as_39 : decode cX11_as 39 = .ok (.ireturn, 1) := by decide +kernel
def f_X11_as (ρ : Nat → Nat) (S : HSt) (a0 : Nat) (a1 : Int32) (a2 : Int32) : Option (Int32 × HSt) := if gC S a0 = some 11 then (bd2 (f_X11_tryAt S a0 a1) fun b4 S3 => oC b4 (some ((-1), S3)) fun r5 => bd2 (f_X11_isKind S3 a2) fun v8 S7 => if v8 = 0 then (some ((-1), S7)) else ((gIT S7 r5 4).bind fun v10 => bd2 (f_X11_isKindOrUnder ρ S7 v10 a2) fun v14 S13 => if v14 = 0 then (some ((-6), S13)) else ((gIT S13 r5 7).bind fun v16 => some (v16, S13)))) else none
abbrev rm_X11_as : Room := { frames := 1, cells := 0, slots := 0, locals := 23 }
abbrev w_X11_as : List Cond := Cond.code yX11_as cX11_as 4 (Option.some FieldType.int) :: lwG
theorem yd_X11_as : yX11_as.cls ≠ "java/lang/invoke/MethodHandle" ∧ yX11_as.cls ≠ "java/lang/invoke/VarHandle" ∧ (parseMethodDescriptor yX11_as.desc).map (fun d => d.parameters.length) = some 2 := by decide +kernel
theorem ye_X11_as : yX11_as.cls = RX11 ∧ yX11_as.cls ≠ "java/lang/invoke/MethodHandle" ∧ yX11_as.cls ≠ "java/lang/invoke/VarHandle" ∧ (parseMethodDescriptor yX11_as.desc).map (fun d => d.parameters.length) = some 2 := by decide +kernel
set_option maxHeartbeats 4000000 in
set_option maxRecDepth 100000 in
theorem c_X11_as (l : Launch) (D : va_G) (kA ρ : Nat → Nat) (HB : Heap) (S : HSt) (a0 : Nat) (a1 : Int32) (a2 : Int32) (res : Int32 × HSt) (h : f_X11_as ρ S a0 a1 a2 = some res) : Met l yX11_as w_X11_as rm_X11_as (hPc D kA ρ HB S [.ref a0, .int a1, .int a2]) (hQi D kA HB S res) 0 0 (hFree HB) := by
  refine Met.ofW (cc := cX11_as) (maxL := 4) (ret := (Option.some FieldType.int)) (by decide) rfl ?_
  intro p e s m args below meth c s₁ B hml hv
  obtain ⟨rfl, hE, h0⟩ := hv
  have hx := B.exec
  have hb := B.bytes
  have hr := B.returns
  have hts0 := atoms_spec (ws := w_X11_as) B.pre
  have hts : ∀ w ∈ lwG, w.before _ s = true := fun w hw => hts0 w (List.mem_cons_of_mem _ hw)
  have hown : s.vm.findClass RX11 = some m.cls := findClass_of_methodNamed B.named
  have hlocks := B.notSynchronized
  have hI : hqX D kA HB S.2 S s.heap [] := ⟨h0, Nat.le_refl _, fun _ q => absurd q List.not_mem_nil⟩
  have hl := lv_entry ([.ref a0, .int a1, .int a2]) (n := 4) (Nat.le_of_ble_eq_true rfl)
  rw [lg_entry_eq]
  generalize (lg_sl ([.ref a0, .int a1, .int a2]) ++ List.replicate (4 - (lg_sl ([.ref a0, .int a1, .int a2])).length) Slot.unset).toArray = ls at hl ⊢
  have hl : lv_has ls 4 [(0, .ref a0), (1, .int a1), (2, .int a2)] := hl
  unfold f_X11_as at h
  refine lv_aload_n hx hb dX11_as_0 rfl (lv_at hl 0 rfl) ?_
  refine lv_iload_n hx hb dX11_as_1 rfl (lv_at hl 1 rfl) ?_
  obtain ⟨g2, h⟩ := hq_g h
  obtain ⟨b4, S3, g1, h⟩ := hq_bd2 h
  refine hq_callq hI (va_runV (As := [.int a1]) (rest := []) ⟨hx, hb, hml, hown, hts⟩ (c_X11_tryAt l D kA ρ HB S a0 a1 _ g1) (cwV 1 hts (gdIn (List.forall_mem_cons.mpr ⟨kw_354, (List.forall_mem_cons.mpr ⟨kw_356, (List.forall_mem_cons.mpr ⟨ks_2, (List.forall_mem_cons.mpr ⟨kw_1, (fun _ h => absurd h List.not_mem_nil)⟩)⟩)⟩)⟩) kw_357) rfl rfl rfl ye_X11_tryAt ⟨Nat.le_of_ble_eq_true rfl, Nat.le_of_ble_eq_true rfl⟩) (hq_preC hE hI g2 rfl _) rfl rfl hl.1 rfl (lv_room (Nat.le_of_ble_eq_true rfl)) dX11_as_2 ⟨Nat.le_of_ble_eq_true rfl, Nat.le_of_ble_eq_true rfl⟩) (fun H locs hI => ?_)
  rcases b4 with _ | r5
  · have h := oC_n h
    refine lv_astore_nN (lv' := [(3, .null), (0, .ref a0), (1, .int a1), (2, .int a2)]) hx hb dX11_as_5 rfl hl (by decide) rfl (fun ls hl => ?_)
    refine lv_aload_nN hx hb dX11_as_6 rfl (lv_at hl 0 rfl) ?_
    refine lv_ifnullN (tgt := 17) hx hb dX11_as_7 (by decide) ?_
    refine lv_iconst (v := (-1)) hx hb dX11_as_17 (by decide) ?_
    exact hq_iret hx hb hr hlocks h0 hI h dX11_as_18
  · have h := oC_s h
    refine lv_astore_n (lv' := [(3, .ref r5), (0, .ref a0), (1, .int a1), (2, .int a2)]) hx hb dX11_as_5 rfl hl (by decide) rfl (fun ls hl => ?_)
    refine lv_aload_n hx hb dX11_as_6 rfl (lv_at hl 0 rfl) ?_
    refine lv_ifnull hx hb dX11_as_7 ?_
    refine lv_iload_n hx hb dX11_as_10 rfl (lv_at hl 3 rfl) ?_
    obtain ⟨v8, S7, g6, h⟩ := hq_bd2 h
    refine hq_calli hI (va_runS (As := [.int a2]) (rest := []) ⟨hx, hb, hml, hown, hts⟩ (c_X11_isKind l D kA ρ HB S3 a2 _ g6) (va_cwS 1 hts (gdIn (List.forall_mem_cons.mpr ⟨kw_198, (List.forall_mem_cons.mpr ⟨kw_199, (List.forall_mem_cons.mpr ⟨kw_1, (fun _ h => absurd h List.not_mem_nil)⟩)⟩)⟩) kw_200) rfl rfl rfl yd_X11_isKind ⟨Nat.le_of_ble_eq_true rfl, Nat.le_of_ble_eq_true rfl⟩) (hq_preS hE hI _) rfl rfl hl.1 rfl (lv_room (Nat.le_of_ble_eq_true rfl)) dX11_as_11 ⟨Nat.le_of_ble_eq_true rfl, Nat.le_of_ble_eq_true rfl⟩) (fun H locs hI => ?_)
    refine lv_if_ne (tgt := 19) hx hb dX11_as_14 (by decide) (fun c9 => ?_) (fun c9 => ?_)
    · have h := hq_f h c9
      refine lv_aload_n hx hb dX11_as_19 rfl (lv_at hl 0 rfl) ?_
      obtain ⟨v10, g11, h⟩ := hq_bind h
      obtain ⟨c_g11, fs_g11, hk_g11, hs_g11, hv_g11⟩ := gIT_at g11
      obtain ⟨C_g11, hc_g11, hi_g11⟩ := hKin_at hk_g11
      refine hq_getN hx hb hts hown hE hI hs_g11 hi_g11 hc_g11 4 (by decide) kn_225 hv_g11 dX11_as_20 ?_
      refine lv_iload_n hx hb dX11_as_23 rfl (lv_at hl 3 rfl) ?_
      obtain ⟨v14, S13, g12, h⟩ := hq_bd2 h
      refine hq_calli hI (va_runS (As := [.int v10, .int a2]) (rest := []) ⟨hx, hb, hml, hown, hts⟩ (c_X11_isKindOrUnder l D kA ρ HB S7 v10 a2 _ g12) (va_cwS 2 hts (gdIn (List.forall_mem_cons.mpr ⟨kw_914, (List.forall_mem_cons.mpr ⟨kw_915, (List.forall_mem_cons.mpr ⟨kw_1, (fun _ h => absurd h List.not_mem_nil)⟩)⟩)⟩) kw_916) rfl rfl rfl yd_X11_isKindOrUnder ⟨Nat.le_of_ble_eq_true rfl, Nat.le_of_ble_eq_true rfl⟩) (hq_preS hE hI _) rfl rfl hl.1 rfl (lv_room (Nat.le_of_ble_eq_true rfl)) dX11_as_24 ⟨Nat.le_of_ble_eq_true rfl, Nat.le_of_ble_eq_true rfl⟩) (fun H locs hI => ?_)
      refine lv_if_eq (tgt := 37) hx hb dX11_as_27 (by decide) (fun c15 => ?_) (fun c15 => ?_)
      · have h := hq_t h c15
        refine lv_bipush (v := (-6)) hx hb dX11_as_37 (by decide) ?_
        exact hq_iret hx hb hr hlocks h0 hI h dX11_as_39
      · have h := hq_f h c15
        refine lv_aload_n hx hb dX11_as_30 rfl (lv_at hl 0 rfl) ?_
        obtain ⟨v16, g17, h⟩ := hq_bind h
        obtain ⟨c_g17, fs_g17, hk_g17, hs_g17, hv_g17⟩ := gIT_at g17
        obtain ⟨C_g17, hc_g17, hi_g17⟩ := hKin_at hk_g17
        refine hq_getN hx hb hts hown hE hI hs_g17 hi_g17 hc_g17 7 (by decide) kn_232 hv_g17 dX11_as_31 ?_
        refine lv_goto (tgt := 39) hx hb dX11_as_34 (by decide) ?_
        exact hq_iret hx hb hr hlocks h0 hI h dX11_as_39
    · have h := hq_t h c9
      refine lv_iconst (v := (-1)) hx hb dX11_as_17 (by decide) ?_
      exact hq_iret hx hb hr hlocks h0 hI h dX11_as_18
-- RodDips.image()I
theorem dX11_image_0 : decode cX11_image 0 = .ok (.aload_n 0, 1) := by decide +kernel
theorem dX11_image_1 : decode cX11_image 1 = .ok (.iconst 1, 1) := by decide +kernel
theorem dX11_image_2 : decode cX11_image 2 = .ok (.putfield 63, 3) := by decide +kernel
theorem dX11_image_5 : decode cX11_image 5 = .ok (.aload_n 0, 1) := by decide +kernel
theorem dX11_image_6 : decode cX11_image 6 = .ok (.aload_n 0, 1) := by decide +kernel
theorem dX11_image_7 : decode cX11_image 7 = .ok (.getfield 11, 3) := by decide +kernel
theorem dX11_image_10 : decode cX11_image 10 = .ok (.putfield 67, 3) := by decide +kernel
theorem dX11_image_13 : decode cX11_image 13 = .ok (.aload_n 0, 1) := by decide +kernel
theorem dX11_image_14 : decode cX11_image 14 = .ok (.aload_n 0, 1) := by decide +kernel
theorem dX11_image_15 : decode cX11_image 15 = .ok (.getfield 21, 3) := by decide +kernel
theorem dX11_image_18 : decode cX11_image 18 = .ok (.putfield 70, 3) := by decide +kernel
theorem dX11_image_21 : decode cX11_image 21 = .ok (.aload_n 0, 1) := by decide +kernel
theorem dX11_image_22 : decode cX11_image 22 = .ok (.aload_n 0, 1) := by decide +kernel
theorem dX11_image_23 : decode cX11_image 23 = .ok (.getfield 37, 3) := by decide +kernel
theorem dX11_image_26 : decode cX11_image 26 = .ok (.putfield 73, 3) := by decide +kernel
theorem dX11_image_29 : decode cX11_image 29 = .ok (.aload_n 0, 1) := by decide +kernel
theorem dX11_image_30 : decode cX11_image 30 = .ok (.aload_n 0, 1) := by decide +kernel
theorem dX11_image_31 : decode cX11_image 31 = .ok (.getfield 43, 3) := by decide +kernel
theorem dX11_image_34 : decode cX11_image 34 = .ok (.putfield 76, 3) := by decide +kernel
theorem dX11_image_37 : decode cX11_image 37 = .ok (.iconst 0, 1) := by decide +kernel
theorem dX11_image_38 : decode cX11_image 38 = .ok (.istore_n 1, 1) := by decide +kernel
theorem dX11_image_39 : decode cX11_image 39 = .ok (.iload_n 1, 1) := by decide +kernel
theorem dX11_image_40 : decode cX11_image 40 = .ok (.aload_n 0, 1) := by decide +kernel
theorem dX11_image_41 : decode cX11_image 41 = .ok (.getfield 21, 3) := by decide +kernel
theorem dX11_image_44 : decode cX11_image 44 = .ok (.if_icmp .ge 38, 3) := by decide +kernel
theorem dX11_image_47 : decode cX11_image 47 = .ok (.iload_n 1, 1) := by decide +kernel
theorem dX11_image_48 : decode cX11_image 48 = .ok (.aload_n 0, 1) := by decide +kernel
theorem dX11_image_49 : decode cX11_image 49 = .ok (.getfield 79, 3) := by decide +kernel
theorem dX11_image_52 : decode cX11_image 52 = .ok (.arraylength, 1) := by decide +kernel
theorem dX11_image_53 : decode cX11_image 53 = .ok (.if_icmp .ge 29, 3) := by decide +kernel
theorem dX11_image_56 : decode cX11_image 56 = .ok (.aload_n 0, 1) := by decide +kernel
theorem dX11_image_57 : decode cX11_image 57 = .ok (.iload_n 1, 1) := by decide +kernel
theorem dX11_image_58 : decode cX11_image 58 = .ok (.invokevirtual 130, 3) := by decide +kernel
theorem dX11_image_61 : decode cX11_image 61 = .ok (.astore_n 2, 1) := by decide +kernel
theorem dX11_image_62 : decode cX11_image 62 = .ok (.aload_n 2, 1) := by decide +kernel
theorem dX11_image_63 : decode cX11_image 63 = .ok (.ifnull 13, 3) := by decide +kernel
theorem dX11_image_66 : decode cX11_image 66 = .ok (.aload_n 0, 1) := by decide +kernel
theorem dX11_image_67 : decode cX11_image 67 = .ok (.getfield 79, 3) := by decide +kernel
theorem dX11_image_70 : decode cX11_image 70 = .ok (.iload_n 1, 1) := by decide +kernel
theorem dX11_image_71 : decode cX11_image 71 = .ok (.aload_n 2, 1) := by decide +kernel
theorem dX11_image_72 : decode cX11_image 72 = .ok (.getfield 133, 3) := by decide +kernel
theorem dX11_image_75 : decode cX11_image 75 = .ok (.iastore, 1) := by decide +kernel
theorem dX11_image_76 : decode cX11_image 76 = .ok (.iinc 1 1, 3) := by decide +kernel
theorem dX11_image_79 : decode cX11_image 79 = .ok (.goto (-40), 3) := by decide +kernel
theorem dX11_image_82 : decode cX11_image 82 = .ok (.aload_n 0, 1) := by decide +kernel
theorem dX11_image_83 : decode cX11_image 83 = .ok (.getfield 83, 3) := by decide +kernel
theorem dX11_image_86 : decode cX11_image 86 = .ok (.aload_n 0, 1) := by decide +kernel
theorem dX11_image_87 : decode cX11_image 87 = .ok (.getfield 27, 3) := by decide +kernel
theorem dX11_image_90 : decode cX11_image 90 = .ok (.invokevirtual 285, 3) := by decide +kernel
theorem dX11_image_93 : decode cX11_image 93 = .ok (.aload_n 0, 1) := by decide +kernel
theorem dX11_image_94 : decode cX11_image 94 = .ok (.getfield 21, 3) := by decide +kernel
theorem dX11_image_97 : decode cX11_image 97 = .ok (.ireturn, 1) := by decide +kernel
def f_X11_image_K82 (a0 : Nat) (S19 : HSt) : Option (Int32 × HSt) := (gR S19 a0 11 17).bind fun b20 => (gR S19 a0 11 3).bind fun b22 => if gC S19 b20 = some 6 then ((f_X6_copyOf S19 b20 b22).bind fun S26 => (gI S26 a0 11 2).bind fun v27 => some (v27, S26)) else none
def f_X11_image_B39 (a0 : Nat) (kx82 : (HSt → Option (Int32 × HSt))) (kb39 : (Int32 → HSt → Option (Int32 × HSt))) (x29 : Int32) (S30 : HSt) : Option (Int32 × HSt) := (gI S30 a0 11 2).bind fun v31 => if v31 ≤ x29 then (kx82 S30) else ((gR S30 a0 11 16).bind fun b34 => (aN S30 b34).bind fun v36 => if v36 ≤ x29 then (kx82 S30) else (if gC S30 a0 = some 11 then (bd2 (f_X11_tryAt S30 a0 x29) fun b42 S41 => oC b42 (kb39 (x29 + 1) S41) fun r43 => (gR S41 a0 11 16).bind fun b44 => (gIT S41 r43 8).bind fun v46 => (sI S41 b44 0 x29 v46).bind fun S49 => kb39 (x29 + 1) S49) else none))
def f_X11_image_L39 (a0 : Nat) (kx82 : (HSt → Option (Int32 × HSt))) : Nat → Int32 → HSt → Option (Int32 × HSt)
  | 0, _, _ => none
  | n + 1, x29, S => f_X11_image_B39 a0 kx82 (f_X11_image_L39 a0 kx82 n) x29 S
def f_X11_image (S : HSt) (a0 : Nat) : Option (Int32 × HSt) := (pV S a0 11 11 (.int 1)).bind fun S1 => (gI S1 a0 11 0).bind fun v3 => (pV S1 a0 11 12 (.int v3)).bind fun S5 => (gI S5 a0 11 2).bind fun v7 => (pV S5 a0 11 13 (.int v7)).bind fun S9 => (gI S9 a0 11 5).bind fun v11 => (pV S9 a0 11 14 (.int v11)).bind fun S13 => (gI S13 a0 11 7).bind fun v15 => (pV S13 a0 11 15 (.int v15)).bind fun S17 => (f_X11_image_L39 a0 (f_X11_image_K82 a0) FU) 0 S17
abbrev rm_X11_image : Room := { frames := 2, cells := 0, slots := 0, locals := 81 }
abbrev w_X11_image : List Cond := Cond.code yX11_image cX11_image 3 (Option.some FieldType.int) :: lwG
theorem yd_X11_image : yX11_image.cls ≠ "java/lang/invoke/MethodHandle" ∧ yX11_image.cls ≠ "java/lang/invoke/VarHandle" ∧ (parseMethodDescriptor yX11_image.desc).map (fun d => d.parameters.length) = some 0 := by decide +kernel
theorem ye_X11_image : yX11_image.cls = RX11 ∧ yX11_image.cls ≠ "java/lang/invoke/MethodHandle" ∧ yX11_image.cls ≠ "java/lang/invoke/VarHandle" ∧ (parseMethodDescriptor yX11_image.desc).map (fun d => d.parameters.length) = some 0 := by decide +kernel
set_option maxHeartbeats 4000000 in
set_option maxRecDepth 100000 in
theorem c_X11_image (l : Launch) (D : va_G) (kA ρ : Nat → Nat) (HB : Heap) (S : HSt) (a0 : Nat) (res : Int32 × HSt) (h : f_X11_image S a0 = some res) : Met l yX11_image w_X11_image rm_X11_image (hPc D kA ρ HB S [.ref a0]) (hQi D kA HB S res) 0 0 (hFree HB) := by
  refine Met.ofW (cc := cX11_image) (maxL := 3) (ret := (Option.some FieldType.int)) (by decide) rfl ?_
  intro p e s m args below meth c s₁ B hml hv
  obtain ⟨rfl, hE, h0⟩ := hv
  have hx := B.exec
  have hb := B.bytes
  have hr := B.returns
  have hts0 := atoms_spec (ws := w_X11_image) B.pre
  have hts : ∀ w ∈ lwG, w.before _ s = true := fun w hw => hts0 w (List.mem_cons_of_mem _ hw)
  have hown : s.vm.findClass RX11 = some m.cls := findClass_of_methodNamed B.named
  have hlocks := B.notSynchronized
  have hI : hqX D kA HB S.2 S s.heap [] := ⟨h0, Nat.le_refl _, fun _ q => absurd q List.not_mem_nil⟩
  have hl := lv_entry ([.ref a0]) (n := 3) (Nat.le_of_ble_eq_true rfl)
  rw [lg_entry_eq]
  generalize (lg_sl ([.ref a0]) ++ List.replicate (3 - (lg_sl ([.ref a0])).length) Slot.unset).toArray = ls at hl ⊢
  have hl : lv_has ls 3 [(0, .ref a0)] := hl
  unfold f_X11_image at h
  refine lv_aload_n hx hb dX11_image_0 rfl (lv_at hl 0 rfl) ?_
  refine lv_iconst (v := 1) hx hb dX11_image_1 (by decide) ?_
  obtain ⟨S1, g2, h⟩ := hq_bind h
  obtain ⟨fs_g2, hs_g2, hl_g2, e_g2⟩ := pV_at g2
  refine hq_put hx hb hts hown hE hI hs_g2 inG11 tyX11 tyX11_ok nmX11 rfl 11 (by decide) kw_143 rfl (v := .int 1) rfl rfl rfl hl_g2 e_g2 dX11_image_2 (fun H locs hI => ?_)
  refine lv_aload_n hx hb dX11_image_5 rfl (lv_at hl 0 rfl) ?_
  refine lv_aload_n hx hb dX11_image_6 rfl (lv_at hl 0 rfl) ?_
  obtain ⟨v3, g4, h⟩ := hq_bind h
  obtain ⟨fs_g4, hs_g4, hv_g4⟩ := gI_at g4
  refine hq_get hx hb hts hown hE hI hs_g4 inG11 rfl 0 (by decide) kw_132 hv_g4 dX11_image_7 ?_
  obtain ⟨S5, g6, h⟩ := hq_bind h
  obtain ⟨fs_g6, hs_g6, hl_g6, e_g6⟩ := pV_at g6
  refine hq_put hx hb hts hown hE hI hs_g6 inG11 tyX11 tyX11_ok nmX11 rfl 12 (by decide) kw_144 rfl (v := .int v3) rfl rfl rfl hl_g6 e_g6 dX11_image_10 (fun H locs hI => ?_)
  refine lv_aload_n hx hb dX11_image_13 rfl (lv_at hl 0 rfl) ?_
  refine lv_aload_n hx hb dX11_image_14 rfl (lv_at hl 0 rfl) ?_
  obtain ⟨v7, g8, h⟩ := hq_bind h
  obtain ⟨fs_g8, hs_g8, hv_g8⟩ := gI_at g8
  refine hq_get hx hb hts hown hE hI hs_g8 inG11 rfl 2 (by decide) kw_134 hv_g8 dX11_image_15 ?_
  obtain ⟨S9, g10, h⟩ := hq_bind h
  obtain ⟨fs_g10, hs_g10, hl_g10, e_g10⟩ := pV_at g10
  refine hq_put hx hb hts hown hE hI hs_g10 inG11 tyX11 tyX11_ok nmX11 rfl 13 (by decide) kw_145 rfl (v := .int v7) rfl rfl rfl hl_g10 e_g10 dX11_image_18 (fun H locs hI => ?_)
  refine lv_aload_n hx hb dX11_image_21 rfl (lv_at hl 0 rfl) ?_
  refine lv_aload_n hx hb dX11_image_22 rfl (lv_at hl 0 rfl) ?_
  obtain ⟨v11, g12, h⟩ := hq_bind h
  obtain ⟨fs_g12, hs_g12, hv_g12⟩ := gI_at g12
  refine hq_get hx hb hts hown hE hI hs_g12 inG11 rfl 5 (by decide) kw_137 hv_g12 dX11_image_23 ?_
  obtain ⟨S13, g14, h⟩ := hq_bind h
  obtain ⟨fs_g14, hs_g14, hl_g14, e_g14⟩ := pV_at g14
  refine hq_put hx hb hts hown hE hI hs_g14 inG11 tyX11 tyX11_ok nmX11 rfl 14 (by decide) kw_146 rfl (v := .int v11) rfl rfl rfl hl_g14 e_g14 dX11_image_26 (fun H locs hI => ?_)
  refine lv_aload_n hx hb dX11_image_29 rfl (lv_at hl 0 rfl) ?_
  refine lv_aload_n hx hb dX11_image_30 rfl (lv_at hl 0 rfl) ?_
  obtain ⟨v15, g16, h⟩ := hq_bind h
  obtain ⟨fs_g16, hs_g16, hv_g16⟩ := gI_at g16
  refine hq_get hx hb hts hown hE hI hs_g16 inG11 rfl 7 (by decide) kw_139 hv_g16 dX11_image_31 ?_
  obtain ⟨S17, g18, h⟩ := hq_bind h
  obtain ⟨fs_g18, hs_g18, hl_g18, e_g18⟩ := pV_at g18
  refine hq_put hx hb hts hown hE hI hs_g18 inG11 tyX11 tyX11_ok nmX11 rfl 15 (by decide) kw_147 rfl (v := .int v15) rfl rfl rfl hl_g18 e_g18 dX11_image_34 (fun H locs hI => ?_)
  refine lv_iconst (v := 0) hx hb dX11_image_37 (by decide) ?_
  refine lv_istore_n (lv' := [(1, .int 0), (0, .ref a0)]) hx hb dX11_image_38 rfl hl (by decide) rfl (fun ls hl => ?_)
  have hK82 : ∀ (S19 : HSt) (H : Heap) (locs : List Loc) (ls : Array Slot), (f_X11_image_K82 a0) S19 = some res → hqX D kA HB S.2 S19 H locs → lv_has ls 3 [(0, .ref a0)] → W p l e rm_X11_image s m ([.ref a0] : List Value).toArray below meth c H locs 0 0 (MQ below (hQi D kA HB S res) ([.ref a0] : List Value).toArray s 0 0 (hFree HB)) (F0 m 82 ls []) := by
    intro S19 H locs ls h hI hl
    unfold f_X11_image_K82 at h
    refine lv_aload_n hx hb dX11_image_82 rfl (lv_at hl 0 rfl) ?_
    obtain ⟨b20, g21, h⟩ := hq_bind h
    obtain ⟨fs_g21, hs_g21, hv_g21⟩ := gR_at g21
    refine hq_get hx hb hts hown hE hI hs_g21 inG11 rfl 17 (by decide) kw_149 hv_g21 dX11_image_83 ?_
    refine lv_aload_n hx hb dX11_image_86 rfl (lv_at hl 0 rfl) ?_
    obtain ⟨b22, g23, h⟩ := hq_bind h
    obtain ⟨fs_g23, hs_g23, hv_g23⟩ := gR_at g23
    refine hq_get hx hb hts hown hE hI hs_g23 inG11 rfl 3 (by decide) kw_135 hv_g23 dX11_image_87 ?_
    obtain ⟨g25, h⟩ := hq_g h
    obtain ⟨S26, g24, h⟩ := hq_bind h
    refine hq_callv hI (va_runV (As := [.ref b22]) (rest := []) ⟨hx, hb, hml, hown, hts⟩ (c_X6_copyOf l D kA ρ HB S19 b20 b22 _ g24) (cwV 1 hts (gdIn (List.forall_mem_cons.mpr ⟨kw_923, (List.forall_mem_cons.mpr ⟨kw_924, (List.forall_mem_cons.mpr ⟨kw_925, (List.forall_mem_cons.mpr ⟨kw_2, (fun _ h => absurd h List.not_mem_nil)⟩)⟩)⟩)⟩) kw_926) rfl rfl rfl ye_X6_copyOf ⟨Nat.le_of_ble_eq_true rfl, Nat.le_of_ble_eq_true rfl⟩) (hq_preC hE hI g25 rfl _) rfl rfl hl.1 rfl (lv_room (Nat.le_of_ble_eq_true rfl)) dX11_image_90 ⟨Nat.le_of_ble_eq_true rfl, Nat.le_of_ble_eq_true rfl⟩) (fun H locs hI => ?_)
    refine lv_aload_n hx hb dX11_image_93 rfl (lv_at hl 0 rfl) ?_
    obtain ⟨v27, g28, h⟩ := hq_bind h
    obtain ⟨fs_g28, hs_g28, hv_g28⟩ := gI_at g28
    refine hq_get hx hb hts hown hE hI hs_g28 inG11 rfl 2 (by decide) kw_134 hv_g28 dX11_image_94 ?_
    exact hq_iret hx hb hr hlocks h0 hI h dX11_image_97
  have hL39 : ∀ (n39 : Nat) (x29 : Int32) (S30 : HSt) (H : Heap) (locs : List Loc) (ls : Array Slot), (f_X11_image_L39 a0 (f_X11_image_K82 a0) n39) x29 S30 = some res → hqX D kA HB S.2 S30 H locs → lv_has ls 3 [(0, .ref a0), (1, .int x29)] → W p l e rm_X11_image s m ([.ref a0] : List Value).toArray below meth c H locs 0 0 (MQ below (hQi D kA HB S res) ([.ref a0] : List Value).toArray s 0 0 (hFree HB)) (F0 m 39 ls []) := by
    intro n39
    induction n39 with
    | zero =>
      intro x29 S30 H locs ls h
      have h : (none : Option (Int32 × HSt)) = some res := h
      cases h
    | succ n39 ih39 =>
      intro x29 S30 H locs ls h hI hl
      have h : f_X11_image_B39 a0 (f_X11_image_K82 a0) (f_X11_image_L39 a0 (f_X11_image_K82 a0) n39) x29 S30 = some res := h
      unfold f_X11_image_B39 at h
      refine lv_iload_n hx hb dX11_image_39 rfl (lv_at hl 1 rfl) ?_
      refine lv_aload_n hx hb dX11_image_40 rfl (lv_at hl 0 rfl) ?_
      obtain ⟨v31, g32, h⟩ := hq_bind h
      obtain ⟨fs_g32, hs_g32, hv_g32⟩ := gI_at g32
      refine hq_get hx hb hts hown hE hI hs_g32 inG11 rfl 2 (by decide) kw_134 hv_g32 dX11_image_41 ?_
      refine lv_icmp_ge (tgt := 82) hx hb dX11_image_44 (by decide) (fun c33 => ?_) (fun c33 => ?_)
      · have h := hq_t h c33
        exact hK82 S30 _ _ _ h hI (lv_sub hl [0] rfl)
      · have h := hq_f h c33
        refine lv_iload_n hx hb dX11_image_47 rfl (lv_at hl 1 rfl) ?_
        refine lv_aload_n hx hb dX11_image_48 rfl (lv_at hl 0 rfl) ?_
        obtain ⟨b34, g35, h⟩ := hq_bind h
        obtain ⟨fs_g35, hs_g35, hv_g35⟩ := gR_at g35
        refine hq_get hx hb hts hown hE hI hs_g35 inG11 rfl 16 (by decide) kw_148 hv_g35 dX11_image_49 ?_
        obtain ⟨v36, g37, h⟩ := hq_bind h
        refine hq_alen hx hb hE hI g37 dX11_image_52 ?_
        refine lv_icmp_ge (tgt := 82) hx hb dX11_image_53 (by decide) (fun c38 => ?_) (fun c38 => ?_)
        · have h := hq_t h c38
          exact hK82 S30 _ _ _ h hI (lv_sub hl [0] rfl)
        · have h := hq_f h c38
          refine lv_aload_n hx hb dX11_image_56 rfl (lv_at hl 0 rfl) ?_
          refine lv_iload_n hx hb dX11_image_57 rfl (lv_at hl 1 rfl) ?_
          obtain ⟨g40, h⟩ := hq_g h
          obtain ⟨b42, S41, g39, h⟩ := hq_bd2 h
          refine hq_callq hI (va_runV (As := [.int x29]) (rest := []) ⟨hx, hb, hml, hown, hts⟩ (c_X11_tryAt l D kA ρ HB S30 a0 x29 _ g39) (cwV 1 hts (gdIn (List.forall_mem_cons.mpr ⟨kw_354, (List.forall_mem_cons.mpr ⟨kw_356, (List.forall_mem_cons.mpr ⟨ks_2, (List.forall_mem_cons.mpr ⟨kw_1, (fun _ h => absurd h List.not_mem_nil)⟩)⟩)⟩)⟩) kw_357) rfl rfl rfl ye_X11_tryAt ⟨Nat.le_of_ble_eq_true rfl, Nat.le_of_ble_eq_true rfl⟩) (hq_preC hE hI g40 rfl _) rfl rfl hl.1 rfl (lv_room (Nat.le_of_ble_eq_true rfl)) dX11_image_58 ⟨Nat.le_of_ble_eq_true rfl, Nat.le_of_ble_eq_true rfl⟩) (fun H locs hI => ?_)
          rcases b42 with _ | r43
          · have h := oC_n h
            refine lv_astore_nN (lv' := [(2, .null), (0, .ref a0), (1, .int x29)]) hx hb dX11_image_61 rfl hl (by decide) rfl (fun ls hl => ?_)
            refine lv_aload_nN hx hb dX11_image_62 rfl (lv_at hl 0 rfl) ?_
            refine lv_ifnullN (tgt := 76) hx hb dX11_image_63 (by decide) ?_
            refine lv_iinc (v := (x29 + 1)) (lv' := [(1, .int (x29 + 1)), (2, .null), (0, .ref a0)]) hx hb dX11_image_76 hl (k := 2) rfl rfl (by decide) rfl (fun ls hl => ?_)
            refine lv_goto (tgt := 39) hx hb dX11_image_79 (by decide) ?_
            exact ih39 (x29 + 1) S41 _ _ _ h hI (lv_sub hl [2, 0] rfl)
          · have h := oC_s h
            refine lv_astore_n (lv' := [(2, .ref r43), (0, .ref a0), (1, .int x29)]) hx hb dX11_image_61 rfl hl (by decide) rfl (fun ls hl => ?_)
            refine lv_aload_n hx hb dX11_image_62 rfl (lv_at hl 0 rfl) ?_
            refine lv_ifnull hx hb dX11_image_63 ?_
            refine lv_aload_n hx hb dX11_image_66 rfl (lv_at hl 1 rfl) ?_
            obtain ⟨b44, g45, h⟩ := hq_bind h
            obtain ⟨fs_g45, hs_g45, hv_g45⟩ := gR_at g45
            refine hq_get hx hb hts hown hE hI hs_g45 inG11 rfl 16 (by decide) kw_148 hv_g45 dX11_image_67 ?_
            refine lv_iload_n hx hb dX11_image_70 rfl (lv_at hl 2 rfl) ?_
            refine lv_aload_n hx hb dX11_image_71 rfl (lv_at hl 0 rfl) ?_
            obtain ⟨v46, g47, h⟩ := hq_bind h
            obtain ⟨c_g47, fs_g47, hk_g47, hs_g47, hv_g47⟩ := gIT_at g47
            obtain ⟨C_g47, hc_g47, hi_g47⟩ := hKin_at hk_g47
            refine hq_getN hx hb hts hown hE hI hs_g47 hi_g47 hc_g47 8 (by decide) kn_234 hv_g47 dX11_image_72 ?_
            obtain ⟨S49, g48, h⟩ := hq_bind h
            refine hq_iast hx hb hE hI g48 dX11_image_75 (fun H locs hI => ?_)
            refine lv_iinc (v := (x29 + 1)) (lv' := [(1, .int (x29 + 1)), (2, .ref r43), (0, .ref a0)]) hx hb dX11_image_76 hl (k := 2) rfl rfl (by decide) rfl (fun ls hl => ?_)
            refine lv_goto (tgt := 39) hx hb dX11_image_79 (by decide) ?_
            exact ih39 (x29 + 1) S49 _ _ _ h hI (lv_sub hl [2, 0] rfl)
  exact hL39 FU 0 S17 _ _ _ h hI (lv_sub hl [1, 0] rfl)
-- RodDips.undo()I
theorem dX11_undo_0 : decode cX11_undo 0 = .ok (.aload_n 0, 1) := by decide +kernel
theorem dX11_undo_1 : decode cX11_undo 1 = .ok (.getfield 63, 3) := by decide +kernel
theorem dX11_undo_4 : decode cX11_undo 4 = .ok (.ifCond .ne 6, 3) := by decide +kernel
theorem dX11_undo_7 : decode cX11_undo 7 = .ok (.bipush (-3), 2) := by decide +kernel
theorem dX11_undo_9 : decode cX11_undo 9 = .ok (.ireturn, 1) := by decide +kernel
theorem dX11_undo_10 : decode cX11_undo 10 = .ok (.aload_n 0, 1) := by decide +kernel
theorem dX11_undo_11 : decode cX11_undo 11 = .ok (.aload_n 0, 1) := by decide +kernel
theorem dX11_undo_12 : decode cX11_undo 12 = .ok (.getfield 67, 3) := by decide +kernel
theorem dX11_undo_15 : decode cX11_undo 15 = .ok (.putfield 11, 3) := by decide +kernel
theorem dX11_undo_18 : decode cX11_undo 18 = .ok (.aload_n 0, 1) := by decide +kernel
theorem dX11_undo_19 : decode cX11_undo 19 = .ok (.aload_n 0, 1) := by decide +kernel
theorem dX11_undo_20 : decode cX11_undo 20 = .ok (.getfield 70, 3) := by decide +kernel
theorem dX11_undo_23 : decode cX11_undo 23 = .ok (.putfield 21, 3) := by decide +kernel
theorem dX11_undo_26 : decode cX11_undo 26 = .ok (.aload_n 0, 1) := by decide +kernel
theorem dX11_undo_27 : decode cX11_undo 27 = .ok (.aload_n 0, 1) := by decide +kernel
theorem dX11_undo_28 : decode cX11_undo 28 = .ok (.getfield 73, 3) := by decide +kernel
theorem dX11_undo_31 : decode cX11_undo 31 = .ok (.putfield 37, 3) := by decide +kernel
theorem dX11_undo_34 : decode cX11_undo 34 = .ok (.aload_n 0, 1) := by decide +kernel
theorem dX11_undo_35 : decode cX11_undo 35 = .ok (.aload_n 0, 1) := by decide +kernel
theorem dX11_undo_36 : decode cX11_undo 36 = .ok (.getfield 76, 3) := by decide +kernel
theorem dX11_undo_39 : decode cX11_undo 39 = .ok (.putfield 43, 3) := by decide +kernel
theorem dX11_undo_42 : decode cX11_undo 42 = .ok (.iconst 0, 1) := by decide +kernel
theorem dX11_undo_43 : decode cX11_undo 43 = .ok (.istore_n 1, 1) := by decide +kernel
theorem dX11_undo_44 : decode cX11_undo 44 = .ok (.iload_n 1, 1) := by decide +kernel
theorem dX11_undo_45 : decode cX11_undo 45 = .ok (.aload_n 0, 1) := by decide +kernel
theorem dX11_undo_46 : decode cX11_undo 46 = .ok (.getfield 21, 3) := by decide +kernel
theorem dX11_undo_49 : decode cX11_undo 49 = .ok (.if_icmp .ge 38, 3) := by decide +kernel
theorem dX11_undo_52 : decode cX11_undo 52 = .ok (.iload_n 1, 1) := by decide +kernel
theorem dX11_undo_53 : decode cX11_undo 53 = .ok (.aload_n 0, 1) := by decide +kernel
theorem dX11_undo_54 : decode cX11_undo 54 = .ok (.getfield 79, 3) := by decide +kernel
theorem dX11_undo_57 : decode cX11_undo 57 = .ok (.arraylength, 1) := by decide +kernel
theorem dX11_undo_58 : decode cX11_undo 58 = .ok (.if_icmp .ge 29, 3) := by decide +kernel
theorem dX11_undo_61 : decode cX11_undo 61 = .ok (.aload_n 0, 1) := by decide +kernel
theorem dX11_undo_62 : decode cX11_undo 62 = .ok (.iload_n 1, 1) := by decide +kernel
theorem dX11_undo_63 : decode cX11_undo 63 = .ok (.invokevirtual 130, 3) := by decide +kernel
theorem dX11_undo_66 : decode cX11_undo 66 = .ok (.astore_n 2, 1) := by decide +kernel
theorem dX11_undo_67 : decode cX11_undo 67 = .ok (.aload_n 2, 1) := by decide +kernel
theorem dX11_undo_68 : decode cX11_undo 68 = .ok (.ifnull 13, 3) := by decide +kernel
theorem dX11_undo_71 : decode cX11_undo 71 = .ok (.aload_n 2, 1) := by decide +kernel
theorem dX11_undo_72 : decode cX11_undo 72 = .ok (.aload_n 0, 1) := by decide +kernel
theorem dX11_undo_73 : decode cX11_undo 73 = .ok (.getfield 79, 3) := by decide +kernel
theorem dX11_undo_76 : decode cX11_undo 76 = .ok (.iload_n 1, 1) := by decide +kernel
theorem dX11_undo_77 : decode cX11_undo 77 = .ok (.iaload, 1) := by decide +kernel
theorem dX11_undo_78 : decode cX11_undo 78 = .ok (.putfield 133, 3) := by decide +kernel
theorem dX11_undo_81 : decode cX11_undo 81 = .ok (.iinc 1 1, 3) := by decide +kernel
theorem dX11_undo_84 : decode cX11_undo 84 = .ok (.goto (-40), 3) := by decide +kernel
theorem dX11_undo_87 : decode cX11_undo 87 = .ok (.aload_n 0, 1) := by decide +kernel
theorem dX11_undo_88 : decode cX11_undo 88 = .ok (.getfield 27, 3) := by decide +kernel
theorem dX11_undo_91 : decode cX11_undo 91 = .ok (.aload_n 0, 1) := by decide +kernel
theorem dX11_undo_92 : decode cX11_undo 92 = .ok (.getfield 83, 3) := by decide +kernel
theorem dX11_undo_95 : decode cX11_undo 95 = .ok (.invokevirtual 285, 3) := by decide +kernel
theorem dX11_undo_98 : decode cX11_undo 98 = .ok (.aload_n 0, 1) := by decide +kernel
theorem dX11_undo_99 : decode cX11_undo 99 = .ok (.getfield 21, 3) := by decide +kernel
theorem dX11_undo_102 : decode cX11_undo 102 = .ok (.ireturn, 1) := by decide +kernel
def f_X11_undo_K87 (a0 : Nat) (S20 : HSt) : Option (Int32 × HSt) := (gR S20 a0 11 3).bind fun b21 => (gR S20 a0 11 17).bind fun b23 => if gC S20 b21 = some 6 then ((f_X6_copyOf S20 b21 b23).bind fun S27 => (gI S27 a0 11 2).bind fun v28 => some (v28, S27)) else none
def f_X11_undo_B44 (a0 : Nat) (kx87 : (HSt → Option (Int32 × HSt))) (kb44 : (Int32 → HSt → Option (Int32 × HSt))) (x30 : Int32) (S31 : HSt) : Option (Int32 × HSt) := (gI S31 a0 11 2).bind fun v32 => if v32 ≤ x30 then (kx87 S31) else ((gR S31 a0 11 16).bind fun b35 => (aN S31 b35).bind fun v37 => if v37 ≤ x30 then (kx87 S31) else (if gC S31 a0 = some 11 then (bd2 (f_X11_tryAt S31 a0 x30) fun b43 S42 => oC b43 (kb44 (x30 + 1) S42) fun r44 => (gR S42 a0 11 16).bind fun b45 => (aI S42 b45 0 x30).bind fun v48 => (pVT S42 r44 8 (.int v48)).bind fun S49 => kb44 (x30 + 1) S49) else none))
def f_X11_undo_L44 (a0 : Nat) (kx87 : (HSt → Option (Int32 × HSt))) : Nat → Int32 → HSt → Option (Int32 × HSt)
  | 0, _, _ => none
  | n + 1, x30, S => f_X11_undo_B44 a0 kx87 (f_X11_undo_L44 a0 kx87 n) x30 S
def f_X11_undo (S : HSt) (a0 : Nat) : Option (Int32 × HSt) := (gI S a0 11 11).bind fun v1 => if v1 = 0 then (some ((-3), S)) else ((gI S a0 11 12).bind fun v4 => (pV S a0 11 0 (.int v4)).bind fun S6 => (gI S6 a0 11 13).bind fun v8 => (pV S6 a0 11 2 (.int v8)).bind fun S10 => (gI S10 a0 11 14).bind fun v12 => (pV S10 a0 11 5 (.int v12)).bind fun S14 => (gI S14 a0 11 15).bind fun v16 => (pV S14 a0 11 7 (.int v16)).bind fun S18 => (f_X11_undo_L44 a0 (f_X11_undo_K87 a0) FU) 0 S18)
abbrev rm_X11_undo : Room := { frames := 2, cells := 0, slots := 0, locals := 81 }
abbrev w_X11_undo : List Cond := Cond.code yX11_undo cX11_undo 3 (Option.some FieldType.int) :: lwG
theorem yd_X11_undo : yX11_undo.cls ≠ "java/lang/invoke/MethodHandle" ∧ yX11_undo.cls ≠ "java/lang/invoke/VarHandle" ∧ (parseMethodDescriptor yX11_undo.desc).map (fun d => d.parameters.length) = some 0 := by decide +kernel
theorem ye_X11_undo : yX11_undo.cls = RX11 ∧ yX11_undo.cls ≠ "java/lang/invoke/MethodHandle" ∧ yX11_undo.cls ≠ "java/lang/invoke/VarHandle" ∧ (parseMethodDescriptor yX11_undo.desc).map (fun d => d.parameters.length) = some 0 := by decide +kernel
set_option maxHeartbeats 4000000 in
set_option maxRecDepth 100000 in
theorem c_X11_undo (l : Launch) (D : va_G) (kA ρ : Nat → Nat) (HB : Heap) (S : HSt) (a0 : Nat) (res : Int32 × HSt) (h : f_X11_undo S a0 = some res) : Met l yX11_undo w_X11_undo rm_X11_undo (hPc D kA ρ HB S [.ref a0]) (hQi D kA HB S res) 0 0 (hFree HB) := by
  refine Met.ofW (cc := cX11_undo) (maxL := 3) (ret := (Option.some FieldType.int)) (by decide) rfl ?_
  intro p e s m args below meth c s₁ B hml hv
  obtain ⟨rfl, hE, h0⟩ := hv
  have hx := B.exec
  have hb := B.bytes
  have hr := B.returns
  have hts0 := atoms_spec (ws := w_X11_undo) B.pre
  have hts : ∀ w ∈ lwG, w.before _ s = true := fun w hw => hts0 w (List.mem_cons_of_mem _ hw)
  have hown : s.vm.findClass RX11 = some m.cls := findClass_of_methodNamed B.named
  have hlocks := B.notSynchronized
  have hI : hqX D kA HB S.2 S s.heap [] := ⟨h0, Nat.le_refl _, fun _ q => absurd q List.not_mem_nil⟩
  have hl := lv_entry ([.ref a0]) (n := 3) (Nat.le_of_ble_eq_true rfl)
  rw [lg_entry_eq]
  generalize (lg_sl ([.ref a0]) ++ List.replicate (3 - (lg_sl ([.ref a0])).length) Slot.unset).toArray = ls at hl ⊢
  have hl : lv_has ls 3 [(0, .ref a0)] := hl
  unfold f_X11_undo at h
  refine lv_aload_n hx hb dX11_undo_0 rfl (lv_at hl 0 rfl) ?_
  obtain ⟨v1, g2, h⟩ := hq_bind h
  obtain ⟨fs_g2, hs_g2, hv_g2⟩ := gI_at g2
  refine hq_get hx hb hts hown hE hI hs_g2 inG11 rfl 11 (by decide) kw_143 hv_g2 dX11_undo_1 ?_
  refine lv_if_ne (tgt := 10) hx hb dX11_undo_4 (by decide) (fun c3 => ?_) (fun c3 => ?_)
  · have h := hq_f h c3
    refine lv_aload_n hx hb dX11_undo_10 rfl (lv_at hl 0 rfl) ?_
    refine lv_aload_n hx hb dX11_undo_11 rfl (lv_at hl 0 rfl) ?_
    obtain ⟨v4, g5, h⟩ := hq_bind h
    obtain ⟨fs_g5, hs_g5, hv_g5⟩ := gI_at g5
    refine hq_get hx hb hts hown hE hI hs_g5 inG11 rfl 12 (by decide) kw_144 hv_g5 dX11_undo_12 ?_
    obtain ⟨S6, g7, h⟩ := hq_bind h
    obtain ⟨fs_g7, hs_g7, hl_g7, e_g7⟩ := pV_at g7
    refine hq_put hx hb hts hown hE hI hs_g7 inG11 tyX11 tyX11_ok nmX11 rfl 0 (by decide) kw_132 rfl (v := .int v4) rfl rfl rfl hl_g7 e_g7 dX11_undo_15 (fun H locs hI => ?_)
    refine lv_aload_n hx hb dX11_undo_18 rfl (lv_at hl 0 rfl) ?_
    refine lv_aload_n hx hb dX11_undo_19 rfl (lv_at hl 0 rfl) ?_
    obtain ⟨v8, g9, h⟩ := hq_bind h
    obtain ⟨fs_g9, hs_g9, hv_g9⟩ := gI_at g9
    refine hq_get hx hb hts hown hE hI hs_g9 inG11 rfl 13 (by decide) kw_145 hv_g9 dX11_undo_20 ?_
    obtain ⟨S10, g11, h⟩ := hq_bind h
    obtain ⟨fs_g11, hs_g11, hl_g11, e_g11⟩ := pV_at g11
    refine hq_put hx hb hts hown hE hI hs_g11 inG11 tyX11 tyX11_ok nmX11 rfl 2 (by decide) kw_134 rfl (v := .int v8) rfl rfl rfl hl_g11 e_g11 dX11_undo_23 (fun H locs hI => ?_)
    refine lv_aload_n hx hb dX11_undo_26 rfl (lv_at hl 0 rfl) ?_
    refine lv_aload_n hx hb dX11_undo_27 rfl (lv_at hl 0 rfl) ?_
    obtain ⟨v12, g13, h⟩ := hq_bind h
    obtain ⟨fs_g13, hs_g13, hv_g13⟩ := gI_at g13
    refine hq_get hx hb hts hown hE hI hs_g13 inG11 rfl 14 (by decide) kw_146 hv_g13 dX11_undo_28 ?_
    obtain ⟨S14, g15, h⟩ := hq_bind h
    obtain ⟨fs_g15, hs_g15, hl_g15, e_g15⟩ := pV_at g15
    refine hq_put hx hb hts hown hE hI hs_g15 inG11 tyX11 tyX11_ok nmX11 rfl 5 (by decide) kw_137 rfl (v := .int v12) rfl rfl rfl hl_g15 e_g15 dX11_undo_31 (fun H locs hI => ?_)
    refine lv_aload_n hx hb dX11_undo_34 rfl (lv_at hl 0 rfl) ?_
    refine lv_aload_n hx hb dX11_undo_35 rfl (lv_at hl 0 rfl) ?_
    obtain ⟨v16, g17, h⟩ := hq_bind h
    obtain ⟨fs_g17, hs_g17, hv_g17⟩ := gI_at g17
    refine hq_get hx hb hts hown hE hI hs_g17 inG11 rfl 15 (by decide) kw_147 hv_g17 dX11_undo_36 ?_
    obtain ⟨S18, g19, h⟩ := hq_bind h
    obtain ⟨fs_g19, hs_g19, hl_g19, e_g19⟩ := pV_at g19
    refine hq_put hx hb hts hown hE hI hs_g19 inG11 tyX11 tyX11_ok nmX11 rfl 7 (by decide) kw_139 rfl (v := .int v16) rfl rfl rfl hl_g19 e_g19 dX11_undo_39 (fun H locs hI => ?_)
    refine lv_iconst (v := 0) hx hb dX11_undo_42 (by decide) ?_
    refine lv_istore_n (lv' := [(1, .int 0), (0, .ref a0)]) hx hb dX11_undo_43 rfl hl (by decide) rfl (fun ls hl => ?_)
    have hK87 : ∀ (S20 : HSt) (H : Heap) (locs : List Loc) (ls : Array Slot), (f_X11_undo_K87 a0) S20 = some res → hqX D kA HB S.2 S20 H locs → lv_has ls 3 [(0, .ref a0)] → W p l e rm_X11_undo s m ([.ref a0] : List Value).toArray below meth c H locs 0 0 (MQ below (hQi D kA HB S res) ([.ref a0] : List Value).toArray s 0 0 (hFree HB)) (F0 m 87 ls []) := by
      intro S20 H locs ls h hI hl
      unfold f_X11_undo_K87 at h
      refine lv_aload_n hx hb dX11_undo_87 rfl (lv_at hl 0 rfl) ?_
      obtain ⟨b21, g22, h⟩ := hq_bind h
      obtain ⟨fs_g22, hs_g22, hv_g22⟩ := gR_at g22
      refine hq_get hx hb hts hown hE hI hs_g22 inG11 rfl 3 (by decide) kw_135 hv_g22 dX11_undo_88 ?_
      refine lv_aload_n hx hb dX11_undo_91 rfl (lv_at hl 0 rfl) ?_
      obtain ⟨b23, g24, h⟩ := hq_bind h
      obtain ⟨fs_g24, hs_g24, hv_g24⟩ := gR_at g24
      refine hq_get hx hb hts hown hE hI hs_g24 inG11 rfl 17 (by decide) kw_149 hv_g24 dX11_undo_92 ?_
      obtain ⟨g26, h⟩ := hq_g h
      obtain ⟨S27, g25, h⟩ := hq_bind h
      refine hq_callv hI (va_runV (As := [.ref b23]) (rest := []) ⟨hx, hb, hml, hown, hts⟩ (c_X6_copyOf l D kA ρ HB S20 b21 b23 _ g25) (cwV 1 hts (gdIn (List.forall_mem_cons.mpr ⟨kw_923, (List.forall_mem_cons.mpr ⟨kw_924, (List.forall_mem_cons.mpr ⟨kw_925, (List.forall_mem_cons.mpr ⟨kw_2, (fun _ h => absurd h List.not_mem_nil)⟩)⟩)⟩)⟩) kw_926) rfl rfl rfl ye_X6_copyOf ⟨Nat.le_of_ble_eq_true rfl, Nat.le_of_ble_eq_true rfl⟩) (hq_preC hE hI g26 rfl _) rfl rfl hl.1 rfl (lv_room (Nat.le_of_ble_eq_true rfl)) dX11_undo_95 ⟨Nat.le_of_ble_eq_true rfl, Nat.le_of_ble_eq_true rfl⟩) (fun H locs hI => ?_)
      refine lv_aload_n hx hb dX11_undo_98 rfl (lv_at hl 0 rfl) ?_
      obtain ⟨v28, g29, h⟩ := hq_bind h
      obtain ⟨fs_g29, hs_g29, hv_g29⟩ := gI_at g29
      refine hq_get hx hb hts hown hE hI hs_g29 inG11 rfl 2 (by decide) kw_134 hv_g29 dX11_undo_99 ?_
      exact hq_iret hx hb hr hlocks h0 hI h dX11_undo_102
    have hL44 : ∀ (n44 : Nat) (x30 : Int32) (S31 : HSt) (H : Heap) (locs : List Loc) (ls : Array Slot), (f_X11_undo_L44 a0 (f_X11_undo_K87 a0) n44) x30 S31 = some res → hqX D kA HB S.2 S31 H locs → lv_has ls 3 [(0, .ref a0), (1, .int x30)] → W p l e rm_X11_undo s m ([.ref a0] : List Value).toArray below meth c H locs 0 0 (MQ below (hQi D kA HB S res) ([.ref a0] : List Value).toArray s 0 0 (hFree HB)) (F0 m 44 ls []) := by
      intro n44
      induction n44 with
      | zero =>
        intro x30 S31 H locs ls h
        have h : (none : Option (Int32 × HSt)) = some res := h
        cases h
      | succ n44 ih44 =>
        intro x30 S31 H locs ls h hI hl
        have h : f_X11_undo_B44 a0 (f_X11_undo_K87 a0) (f_X11_undo_L44 a0 (f_X11_undo_K87 a0) n44) x30 S31 = some res := h
        unfold f_X11_undo_B44 at h
        refine lv_iload_n hx hb dX11_undo_44 rfl (lv_at hl 1 rfl) ?_
        refine lv_aload_n hx hb dX11_undo_45 rfl (lv_at hl 0 rfl) ?_
        obtain ⟨v32, g33, h⟩ := hq_bind h
        obtain ⟨fs_g33, hs_g33, hv_g33⟩ := gI_at g33
        refine hq_get hx hb hts hown hE hI hs_g33 inG11 rfl 2 (by decide) kw_134 hv_g33 dX11_undo_46 ?_
        refine lv_icmp_ge (tgt := 87) hx hb dX11_undo_49 (by decide) (fun c34 => ?_) (fun c34 => ?_)
        · have h := hq_t h c34
          exact hK87 S31 _ _ _ h hI (lv_sub hl [0] rfl)
        · have h := hq_f h c34
          refine lv_iload_n hx hb dX11_undo_52 rfl (lv_at hl 1 rfl) ?_
          refine lv_aload_n hx hb dX11_undo_53 rfl (lv_at hl 0 rfl) ?_
          obtain ⟨b35, g36, h⟩ := hq_bind h
          obtain ⟨fs_g36, hs_g36, hv_g36⟩ := gR_at g36
          refine hq_get hx hb hts hown hE hI hs_g36 inG11 rfl 16 (by decide) kw_148 hv_g36 dX11_undo_54 ?_
          obtain ⟨v37, g38, h⟩ := hq_bind h
          refine hq_alen hx hb hE hI g38 dX11_undo_57 ?_
          refine lv_icmp_ge (tgt := 87) hx hb dX11_undo_58 (by decide) (fun c39 => ?_) (fun c39 => ?_)
          · have h := hq_t h c39
            exact hK87 S31 _ _ _ h hI (lv_sub hl [0] rfl)
          · have h := hq_f h c39
            refine lv_aload_n hx hb dX11_undo_61 rfl (lv_at hl 0 rfl) ?_
            refine lv_iload_n hx hb dX11_undo_62 rfl (lv_at hl 1 rfl) ?_
            obtain ⟨g41, h⟩ := hq_g h
            obtain ⟨b43, S42, g40, h⟩ := hq_bd2 h
            refine hq_callq hI (va_runV (As := [.int x30]) (rest := []) ⟨hx, hb, hml, hown, hts⟩ (c_X11_tryAt l D kA ρ HB S31 a0 x30 _ g40) (cwV 1 hts (gdIn (List.forall_mem_cons.mpr ⟨kw_354, (List.forall_mem_cons.mpr ⟨kw_356, (List.forall_mem_cons.mpr ⟨ks_2, (List.forall_mem_cons.mpr ⟨kw_1, (fun _ h => absurd h List.not_mem_nil)⟩)⟩)⟩)⟩) kw_357) rfl rfl rfl ye_X11_tryAt ⟨Nat.le_of_ble_eq_true rfl, Nat.le_of_ble_eq_true rfl⟩) (hq_preC hE hI g41 rfl _) rfl rfl hl.1 rfl (lv_room (Nat.le_of_ble_eq_true rfl)) dX11_undo_63 ⟨Nat.le_of_ble_eq_true rfl, Nat.le_of_ble_eq_true rfl⟩) (fun H locs hI => ?_)
            rcases b43 with _ | r44
            · have h := oC_n h
              refine lv_astore_nN (lv' := [(2, .null), (0, .ref a0), (1, .int x30)]) hx hb dX11_undo_66 rfl hl (by decide) rfl (fun ls hl => ?_)
              refine lv_aload_nN hx hb dX11_undo_67 rfl (lv_at hl 0 rfl) ?_
              refine lv_ifnullN (tgt := 81) hx hb dX11_undo_68 (by decide) ?_
              refine lv_iinc (v := (x30 + 1)) (lv' := [(1, .int (x30 + 1)), (2, .null), (0, .ref a0)]) hx hb dX11_undo_81 hl (k := 2) rfl rfl (by decide) rfl (fun ls hl => ?_)
              refine lv_goto (tgt := 44) hx hb dX11_undo_84 (by decide) ?_
              exact ih44 (x30 + 1) S42 _ _ _ h hI (lv_sub hl [2, 0] rfl)
            · have h := oC_s h
              refine lv_astore_n (lv' := [(2, .ref r44), (0, .ref a0), (1, .int x30)]) hx hb dX11_undo_66 rfl hl (by decide) rfl (fun ls hl => ?_)
              refine lv_aload_n hx hb dX11_undo_67 rfl (lv_at hl 0 rfl) ?_
              refine lv_ifnull hx hb dX11_undo_68 ?_
              refine lv_aload_n hx hb dX11_undo_71 rfl (lv_at hl 0 rfl) ?_
              refine lv_aload_n hx hb dX11_undo_72 rfl (lv_at hl 1 rfl) ?_
              obtain ⟨b45, g46, h⟩ := hq_bind h
              obtain ⟨fs_g46, hs_g46, hv_g46⟩ := gR_at g46
              refine hq_get hx hb hts hown hE hI hs_g46 inG11 rfl 16 (by decide) kw_148 hv_g46 dX11_undo_73 ?_
              refine lv_iload_n hx hb dX11_undo_76 rfl (lv_at hl 2 rfl) ?_
              obtain ⟨v48, g47, h⟩ := hq_bind h
              refine hq_iald hx hb hE hI g47 dX11_undo_77 ?_
              obtain ⟨S49, g50, h⟩ := hq_bind h
              obtain ⟨c_g50, fs_g50, hk_g50, hs_g50, hl_g50, e_g50⟩ := pVT_at g50
              obtain ⟨C_g50, hc_g50, hi_g50⟩ := hKin_at hk_g50
              refine hq_putN hx hb hts hown hE hI hs_g50 hi_g50 tyX9 tyX9_ok nmX9 hc_g50 8 (by decide) kn_234 rfl (v := .int v48) rfl rfl rfl hl_g50 e_g50 dX11_undo_78 (fun H locs hI => ?_)
              refine lv_iinc (v := (x30 + 1)) (lv' := [(1, .int (x30 + 1)), (2, .ref r44), (0, .ref a0)]) hx hb dX11_undo_81 hl (k := 2) rfl rfl (by decide) rfl (fun ls hl => ?_)
              refine lv_goto (tgt := 44) hx hb dX11_undo_84 (by decide) ?_
              exact ih44 (x30 + 1) S49 _ _ _ h hI (lv_sub hl [2, 0] rfl)
    exact hL44 FU 0 S18 _ _ _ h hI (lv_sub hl [1, 0] rfl)
  · have h := hq_t h c3
    refine lv_bipush (v := (-3)) hx hb dX11_undo_7 (by decide) ?_
    exact hq_iret hx hb hr hlocks h0 hI h dX11_undo_9
-- RodDips.bitsThatLawHas(LRodDips$Text;)I
theorem dX11_bitsThatLawHas_0 : decode cX11_bitsThatLawHas 0 = .ok (.iconst 0, 1) := by decide +kernel
theorem dX11_bitsThatLawHas_1 : decode cX11_bitsThatLawHas 1 = .ok (.istore_n 2, 1) := by decide +kernel
theorem dX11_bitsThatLawHas_2 : decode cX11_bitsThatLawHas 2 = .ok (.iconst 0, 1) := by decide +kernel
theorem dX11_bitsThatLawHas_3 : decode cX11_bitsThatLawHas 3 = .ok (.istore_n 3, 1) := by decide +kernel
theorem dX11_bitsThatLawHas_4 : decode cX11_bitsThatLawHas 4 = .ok (.iload_n 3, 1) := by decide +kernel
theorem dX11_bitsThatLawHas_5 : decode cX11_bitsThatLawHas 5 = .ok (.aload_n 0, 1) := by decide +kernel
theorem dX11_bitsThatLawHas_6 : decode cX11_bitsThatLawHas 6 = .ok (.getfield 21, 3) := by decide +kernel
theorem dX11_bitsThatLawHas_9 : decode cX11_bitsThatLawHas 9 = .ok (.if_icmp .ge 73, 3) := by decide +kernel
theorem dX11_bitsThatLawHas_12 : decode cX11_bitsThatLawHas 12 = .ok (.aload_n 0, 1) := by decide +kernel
theorem dX11_bitsThatLawHas_13 : decode cX11_bitsThatLawHas 13 = .ok (.iload_n 3, 1) := by decide +kernel
theorem dX11_bitsThatLawHas_14 : decode cX11_bitsThatLawHas 14 = .ok (.invokevirtual 130, 3) := by decide +kernel
theorem dX11_bitsThatLawHas_17 : decode cX11_bitsThatLawHas 17 = .ok (.astore 4, 2) := by decide +kernel
theorem dX11_bitsThatLawHas_19 : decode cX11_bitsThatLawHas 19 = .ok (.aload 4, 2) := by decide +kernel
theorem dX11_bitsThatLawHas_21 : decode cX11_bitsThatLawHas 21 = .ok (.ifnonnull 6, 3) := by decide +kernel
theorem dX11_bitsThatLawHas_24 : decode cX11_bitsThatLawHas 24 = .ok (.goto 52, 3) := by decide +kernel
theorem dX11_bitsThatLawHas_27 : decode cX11_bitsThatLawHas 27 = .ok (.aload_n 1, 1) := by decide +kernel
theorem dX11_bitsThatLawHas_28 : decode cX11_bitsThatLawHas 28 = .ok (.aload 4, 2) := by decide +kernel
theorem dX11_bitsThatLawHas_30 : decode cX11_bitsThatLawHas 30 = .ok (.aload_n 0, 1) := by decide +kernel
theorem dX11_bitsThatLawHas_31 : decode cX11_bitsThatLawHas 31 = .ok (.aload 4, 2) := by decide +kernel
theorem dX11_bitsThatLawHas_33 : decode cX11_bitsThatLawHas 33 = .ok (.invokevirtual 232, 3) := by decide +kernel
theorem dX11_bitsThatLawHas_36 : decode cX11_bitsThatLawHas 36 = .ok (.aload_n 0, 1) := by decide +kernel
theorem dX11_bitsThatLawHas_37 : decode cX11_bitsThatLawHas 37 = .ok (.getfield 11, 3) := by decide +kernel
theorem dX11_bitsThatLawHas_40 : decode cX11_bitsThatLawHas 40 = .ok (.invokevirtual 236, 3) := by decide +kernel
theorem dX11_bitsThatLawHas_43 : decode cX11_bitsThatLawHas 43 = .ok (.istore 5, 2) := by decide +kernel
theorem dX11_bitsThatLawHas_45 : decode cX11_bitsThatLawHas 45 = .ok (.iload 5, 2) := by decide +kernel
theorem dX11_bitsThatLawHas_47 : decode cX11_bitsThatLawHas 47 = .ok (.bipush (-5), 2) := by decide +kernel
theorem dX11_bitsThatLawHas_49 : decode cX11_bitsThatLawHas 49 = .ok (.if_icmp .eq 21, 3) := by decide +kernel
theorem dX11_bitsThatLawHas_52 : decode cX11_bitsThatLawHas 52 = .ok (.aload 4, 2) := by decide +kernel
theorem dX11_bitsThatLawHas_54 : decode cX11_bitsThatLawHas 54 = .ok (.getfield 118, 3) := by decide +kernel
theorem dX11_bitsThatLawHas_57 : decode cX11_bitsThatLawHas 57 = .ok (.iload 5, 2) := by decide +kernel
theorem dX11_bitsThatLawHas_59 : decode cX11_bitsThatLawHas 59 = .ok (.isub, 1) := by decide +kernel
theorem dX11_bitsThatLawHas_60 : decode cX11_bitsThatLawHas 60 = .ok (.invokestatic 121, 3) := by decide +kernel
theorem dX11_bitsThatLawHas_63 : decode cX11_bitsThatLawHas 63 = .ok (.aload_n 1, 1) := by decide +kernel
theorem dX11_bitsThatLawHas_64 : decode cX11_bitsThatLawHas 64 = .ok (.getfield 323, 3) := by decide +kernel
theorem dX11_bitsThatLawHas_67 : decode cX11_bitsThatLawHas 67 = .ok (.if_icmp .gt 9, 3) := by decide +kernel
theorem dX11_bitsThatLawHas_70 : decode cX11_bitsThatLawHas 70 = .ok (.iload_n 2, 1) := by decide +kernel
theorem dX11_bitsThatLawHas_71 : decode cX11_bitsThatLawHas 71 = .ok (.iconst 1, 1) := by decide +kernel
theorem dX11_bitsThatLawHas_72 : decode cX11_bitsThatLawHas 72 = .ok (.iload_n 3, 1) := by decide +kernel
theorem dX11_bitsThatLawHas_73 : decode cX11_bitsThatLawHas 73 = .ok (.ishl, 1) := by decide +kernel
theorem dX11_bitsThatLawHas_74 : decode cX11_bitsThatLawHas 74 = .ok (.ior, 1) := by decide +kernel
theorem dX11_bitsThatLawHas_75 : decode cX11_bitsThatLawHas 75 = .ok (.istore_n 2, 1) := by decide +kernel
theorem dX11_bitsThatLawHas_76 : decode cX11_bitsThatLawHas 76 = .ok (.iinc 3 1, 3) := by decide +kernel
theorem dX11_bitsThatLawHas_79 : decode cX11_bitsThatLawHas 79 = .ok (.goto (-75), 3) := by decide +kernel
theorem dX11_bitsThatLawHas_82 : decode cX11_bitsThatLawHas 82 = .ok (.iload_n 2, 1) := by decide +kernel
theorem dX11_bitsThatLawHas_83 : decode cX11_bitsThatLawHas 83 = .ok (.ireturn, 1) := by decide +kernel
def f_X11_bitsThatLawHas_K82 (x1 : Int32) (S2 : HSt) : Option (Int32 × HSt) := some (x1, S2)
def f_X11_bitsThatLawHas_B4 (a0 : Nat) (a1 : Nat) (kx82 : (Int32 → HSt → Option (Int32 × HSt))) (kb4 : (Int32 → Int32 → HSt → Option (Int32 × HSt))) (x3 : Int32) (x4 : Int32) (S5 : HSt) : Option (Int32 × HSt) := (gI S5 a0 11 2).bind fun v6 => if v6 ≤ x4 then (kx82 x3 S5) else (if gC S5 a0 = some 11 then (bd2 (f_X11_tryAt S5 a0 x4) fun b12 S11 => oC b12 (kb4 x3 (x4 + 1) S11) fun r13 => if gC S11 a0 = some 11 then (bd2 (f_X11_saidBefore S11 a0 r13) fun v17 S16 => (gI S16 a0 11 0).bind fun v18 => if gC S16 a1 = some 7 then (bd2 (f_X7_lawful S16 a1 r13 v17 v18) fun v23 S22 => if v23 = (-5) then (kb4 (x3 ||| (1 <<< (x4 &&& 31))) (x4 + 1) S22) else ((gIT S22 r13 6).bind fun v25 => hqn ((if 0 ≤ (v25 - v23) then (v25 - v23) else 0 - (v25 - v23) : Int32)) fun (v27 : Int32) => (gI S22 a1 7 10).bind fun v28 => if v28 < v27 then (kb4 x3 (x4 + 1) S22) else (kb4 (x3 ||| (1 <<< (x4 &&& 31))) (x4 + 1) S22))) else none) else none) else none)
def f_X11_bitsThatLawHas_L4 (a0 : Nat) (a1 : Nat) (kx82 : (Int32 → HSt → Option (Int32 × HSt))) : Nat → Int32 → Int32 → HSt → Option (Int32 × HSt)
  | 0, _, _, _ => none
  | n + 1, x3, x4, S => f_X11_bitsThatLawHas_B4 a0 a1 kx82 (f_X11_bitsThatLawHas_L4 a0 a1 kx82 n) x3 x4 S
def f_X11_bitsThatLawHas (S : HSt) (a0 : Nat) (a1 : Nat) : Option (Int32 × HSt) := (f_X11_bitsThatLawHas_L4 a0 a1 f_X11_bitsThatLawHas_K82 FU) 0 0 S
abbrev rm_X11_bitsThatLawHas : Room := { frames := 4, cells := 0, slots := 0, locals := 98 }
abbrev w_X11_bitsThatLawHas : List Cond := Cond.code yX11_bitsThatLawHas cX11_bitsThatLawHas 6 (Option.some FieldType.int) :: lwG
theorem yd_X11_bitsThatLawHas : yX11_bitsThatLawHas.cls ≠ "java/lang/invoke/MethodHandle" ∧ yX11_bitsThatLawHas.cls ≠ "java/lang/invoke/VarHandle" ∧ (parseMethodDescriptor yX11_bitsThatLawHas.desc).map (fun d => d.parameters.length) = some 1 := by decide +kernel
theorem ye_X11_bitsThatLawHas : yX11_bitsThatLawHas.cls = RX11 ∧ yX11_bitsThatLawHas.cls ≠ "java/lang/invoke/MethodHandle" ∧ yX11_bitsThatLawHas.cls ≠ "java/lang/invoke/VarHandle" ∧ (parseMethodDescriptor yX11_bitsThatLawHas.desc).map (fun d => d.parameters.length) = some 1 := by decide +kernel
set_option maxHeartbeats 4000000 in
set_option maxRecDepth 100000 in
theorem c_X11_bitsThatLawHas (l : Launch) (D : va_G) (kA ρ : Nat → Nat) (HB : Heap) (S : HSt) (a0 : Nat) (a1 : Nat) (res : Int32 × HSt) (h : f_X11_bitsThatLawHas S a0 a1 = some res) : Met l yX11_bitsThatLawHas w_X11_bitsThatLawHas rm_X11_bitsThatLawHas (hPc D kA ρ HB S [.ref a0, .ref a1]) (hQi D kA HB S res) 0 0 (hFree HB) := by
  refine Met.ofW (cc := cX11_bitsThatLawHas) (maxL := 6) (ret := (Option.some FieldType.int)) (by decide) rfl ?_
  intro p e s m args below meth c s₁ B hml hv
  obtain ⟨rfl, hE, h0⟩ := hv
  have hx := B.exec
  have hb := B.bytes
  have hr := B.returns
  have hts0 := atoms_spec (ws := w_X11_bitsThatLawHas) B.pre
  have hts : ∀ w ∈ lwG, w.before _ s = true := fun w hw => hts0 w (List.mem_cons_of_mem _ hw)
  have hown : s.vm.findClass RX11 = some m.cls := findClass_of_methodNamed B.named
  have hlocks := B.notSynchronized
  have hI : hqX D kA HB S.2 S s.heap [] := ⟨h0, Nat.le_refl _, fun _ q => absurd q List.not_mem_nil⟩
  have hl := lv_entry ([.ref a0, .ref a1]) (n := 6) (Nat.le_of_ble_eq_true rfl)
  rw [lg_entry_eq]
  generalize (lg_sl ([.ref a0, .ref a1]) ++ List.replicate (6 - (lg_sl ([.ref a0, .ref a1])).length) Slot.unset).toArray = ls at hl ⊢
  have hl : lv_has ls 6 [(0, .ref a0), (1, .ref a1)] := hl
  unfold f_X11_bitsThatLawHas at h
  refine lv_iconst (v := 0) hx hb dX11_bitsThatLawHas_0 (by decide) ?_
  refine lv_istore_n (lv' := [(2, .int 0), (0, .ref a0), (1, .ref a1)]) hx hb dX11_bitsThatLawHas_1 rfl hl (by decide) rfl (fun ls hl => ?_)
  refine lv_iconst (v := 0) hx hb dX11_bitsThatLawHas_2 (by decide) ?_
  refine lv_istore_n (lv' := [(3, .int 0), (2, .int 0), (0, .ref a0), (1, .ref a1)]) hx hb dX11_bitsThatLawHas_3 rfl hl (by decide) rfl (fun ls hl => ?_)
  have hK82 : ∀ (x1 : Int32) (S2 : HSt) (H : Heap) (locs : List Loc) (ls : Array Slot), f_X11_bitsThatLawHas_K82 x1 S2 = some res → hqX D kA HB S.2 S2 H locs → lv_has ls 6 [(2, .int x1)] → W p l e rm_X11_bitsThatLawHas s m ([.ref a0, .ref a1] : List Value).toArray below meth c H locs 0 0 (MQ below (hQi D kA HB S res) ([.ref a0, .ref a1] : List Value).toArray s 0 0 (hFree HB)) (F0 m 82 ls []) := by
    intro x1 S2 H locs ls h hI hl
    unfold f_X11_bitsThatLawHas_K82 at h
    refine lv_iload_n hx hb dX11_bitsThatLawHas_82 rfl (lv_at hl 0 rfl) ?_
    exact hq_iret hx hb hr hlocks h0 hI h dX11_bitsThatLawHas_83
  have hL4 : ∀ (n4 : Nat) (x3 : Int32) (x4 : Int32) (S5 : HSt) (H : Heap) (locs : List Loc) (ls : Array Slot), (f_X11_bitsThatLawHas_L4 a0 a1 f_X11_bitsThatLawHas_K82 n4) x3 x4 S5 = some res → hqX D kA HB S.2 S5 H locs → lv_has ls 6 [(0, .ref a0), (1, .ref a1), (2, .int x3), (3, .int x4)] → W p l e rm_X11_bitsThatLawHas s m ([.ref a0, .ref a1] : List Value).toArray below meth c H locs 0 0 (MQ below (hQi D kA HB S res) ([.ref a0, .ref a1] : List Value).toArray s 0 0 (hFree HB)) (F0 m 4 ls []) := by
    intro n4
    induction n4 with
    | zero =>
      intro x3 x4 S5 H locs ls h
      have h : (none : Option (Int32 × HSt)) = some res := h
      cases h
    | succ n4 ih4 =>
      intro x3 x4 S5 H locs ls h hI hl
      have h : f_X11_bitsThatLawHas_B4 a0 a1 f_X11_bitsThatLawHas_K82 (f_X11_bitsThatLawHas_L4 a0 a1 f_X11_bitsThatLawHas_K82 n4) x3 x4 S5 = some res := h
      unfold f_X11_bitsThatLawHas_B4 at h
      refine lv_iload_n hx hb dX11_bitsThatLawHas_4 rfl (lv_at hl 3 rfl) ?_
      refine lv_aload_n hx hb dX11_bitsThatLawHas_5 rfl (lv_at hl 0 rfl) ?_
      obtain ⟨v6, g7, h⟩ := hq_bind h
      obtain ⟨fs_g7, hs_g7, hv_g7⟩ := gI_at g7
      refine hq_get hx hb hts hown hE hI hs_g7 inG11 rfl 2 (by decide) kw_134 hv_g7 dX11_bitsThatLawHas_6 ?_
      refine lv_icmp_ge (tgt := 82) hx hb dX11_bitsThatLawHas_9 (by decide) (fun c8 => ?_) (fun c8 => ?_)
      · have h := hq_t h c8
        exact hK82 x3 S5 _ _ _ h hI (lv_sub hl [2] rfl)
      · have h := hq_f h c8
        refine lv_aload_n hx hb dX11_bitsThatLawHas_12 rfl (lv_at hl 0 rfl) ?_
        refine lv_iload_n hx hb dX11_bitsThatLawHas_13 rfl (lv_at hl 3 rfl) ?_
        obtain ⟨g10, h⟩ := hq_g h
        obtain ⟨b12, S11, g9, h⟩ := hq_bd2 h
        refine hq_callq hI (va_runV (As := [.int x4]) (rest := []) ⟨hx, hb, hml, hown, hts⟩ (c_X11_tryAt l D kA ρ HB S5 a0 x4 _ g9) (cwV 1 hts (gdIn (List.forall_mem_cons.mpr ⟨kw_354, (List.forall_mem_cons.mpr ⟨kw_356, (List.forall_mem_cons.mpr ⟨ks_2, (List.forall_mem_cons.mpr ⟨kw_1, (fun _ h => absurd h List.not_mem_nil)⟩)⟩)⟩)⟩) kw_357) rfl rfl rfl ye_X11_tryAt ⟨Nat.le_of_ble_eq_true rfl, Nat.le_of_ble_eq_true rfl⟩) (hq_preC hE hI g10 rfl _) rfl rfl hl.1 rfl (lv_room (Nat.le_of_ble_eq_true rfl)) dX11_bitsThatLawHas_14 ⟨Nat.le_of_ble_eq_true rfl, Nat.le_of_ble_eq_true rfl⟩) (fun H locs hI => ?_)
        rcases b12 with _ | r13
        · have h := oC_n h
          refine lv_astoreN (lv' := [(4, .null), (0, .ref a0), (1, .ref a1), (2, .int x3), (3, .int x4)]) hx hb dX11_bitsThatLawHas_17 hl (by decide) rfl (fun ls hl => ?_)
          refine lv_aloadN hx hb dX11_bitsThatLawHas_19 (lv_at hl 0 rfl) ?_
          refine lv_ifnonnullN hx hb dX11_bitsThatLawHas_21 ?_
          refine lv_goto (tgt := 76) hx hb dX11_bitsThatLawHas_24 (by decide) ?_
          refine lv_iinc (v := (x4 + 1)) (lv' := [(3, .int (x4 + 1)), (4, .null), (0, .ref a0), (1, .ref a1), (2, .int x3)]) hx hb dX11_bitsThatLawHas_76 hl (k := 4) rfl rfl (by decide) rfl (fun ls hl => ?_)
          refine lv_goto (tgt := 4) hx hb dX11_bitsThatLawHas_79 (by decide) ?_
          exact ih4 x3 (x4 + 1) S11 _ _ _ h hI (lv_sub hl [2, 3, 4, 0] rfl)
        · have h := oC_s h
          refine lv_astore (lv' := [(4, .ref r13), (0, .ref a0), (1, .ref a1), (2, .int x3), (3, .int x4)]) hx hb dX11_bitsThatLawHas_17 hl (by decide) rfl (fun ls hl => ?_)
          refine lv_aload hx hb dX11_bitsThatLawHas_19 (lv_at hl 0 rfl) ?_
          refine lv_ifnonnull (tgt := 27) hx hb dX11_bitsThatLawHas_21 (by decide) ?_
          refine lv_aload_n hx hb dX11_bitsThatLawHas_27 rfl (lv_at hl 2 rfl) ?_
          refine lv_aload hx hb dX11_bitsThatLawHas_28 (lv_at hl 0 rfl) ?_
          refine lv_aload_n hx hb dX11_bitsThatLawHas_30 rfl (lv_at hl 1 rfl) ?_
          refine lv_aload hx hb dX11_bitsThatLawHas_31 (lv_at hl 0 rfl) ?_
          obtain ⟨g15, h⟩ := hq_g h
          obtain ⟨v17, S16, g14, h⟩ := hq_bd2 h
          refine hq_calli hI (va_runV (As := [.ref r13]) (rest := [.ref r13, .ref a1]) ⟨hx, hb, hml, hown, hts⟩ (c_X11_saidBefore l D kA ρ HB S11 a0 r13 _ g14) (cwV 1 hts (gdIn (List.forall_mem_cons.mpr ⟨kw_729, (List.forall_mem_cons.mpr ⟨kw_731, (List.forall_mem_cons.mpr ⟨ks_27, (List.forall_mem_cons.mpr ⟨kw_1, (fun _ h => absurd h List.not_mem_nil)⟩)⟩)⟩)⟩) kw_732) rfl rfl rfl ye_X11_saidBefore ⟨Nat.le_of_ble_eq_true rfl, Nat.le_of_ble_eq_true rfl⟩) (hq_preC hE hI g15 rfl _) rfl rfl hl.1 rfl (lv_room (Nat.le_of_ble_eq_true rfl)) dX11_bitsThatLawHas_33 ⟨Nat.le_of_ble_eq_true rfl, Nat.le_of_ble_eq_true rfl⟩) (fun H locs hI => ?_)
          refine lv_aload_n hx hb dX11_bitsThatLawHas_36 rfl (lv_at hl 1 rfl) ?_
          obtain ⟨v18, g19, h⟩ := hq_bind h
          obtain ⟨fs_g19, hs_g19, hv_g19⟩ := gI_at g19
          refine hq_get hx hb hts hown hE hI hs_g19 inG11 rfl 0 (by decide) kw_132 hv_g19 dX11_bitsThatLawHas_37 ?_
          obtain ⟨g21, h⟩ := hq_g h
          obtain ⟨v23, S22, g20, h⟩ := hq_bd2 h
          refine hq_calli hI (va_runV (As := [.ref r13, .int v17, .int v18]) (rest := []) ⟨hx, hb, hml, hown, hts⟩ (c_X7_lawful l D kA ρ HB S16 a1 r13 v17 v18 _ g20) (cwV 3 hts (gdIn (List.forall_mem_cons.mpr ⟨kw_733, (List.forall_mem_cons.mpr ⟨kw_734, (List.forall_mem_cons.mpr ⟨kw_735, (List.forall_mem_cons.mpr ⟨kw_5, (fun _ h => absurd h List.not_mem_nil)⟩)⟩)⟩)⟩) kw_736) rfl rfl rfl ye_X7_lawful ⟨Nat.le_of_ble_eq_true rfl, Nat.le_of_ble_eq_true rfl⟩) (hq_preC hE hI g21 rfl _) rfl rfl hl.1 rfl (lv_room (Nat.le_of_ble_eq_true rfl)) dX11_bitsThatLawHas_40 ⟨Nat.le_of_ble_eq_true rfl, Nat.le_of_ble_eq_true rfl⟩) (fun H locs hI => ?_)
          refine lv_istore (lv' := [(5, .int v23), (4, .ref r13), (0, .ref a0), (1, .ref a1), (2, .int x3), (3, .int x4)]) hx hb dX11_bitsThatLawHas_43 hl (by decide) rfl (fun ls hl => ?_)
          refine lv_iload hx hb dX11_bitsThatLawHas_45 (lv_at hl 0 rfl) ?_
          refine lv_bipush (v := (-5)) hx hb dX11_bitsThatLawHas_47 (by decide) ?_
          refine lv_icmp_eq (tgt := 70) hx hb dX11_bitsThatLawHas_49 (by decide) (fun c24 => ?_) (fun c24 => ?_)
          · have h := hq_t h c24
            refine lv_iload_n hx hb dX11_bitsThatLawHas_70 rfl (lv_at hl 4 rfl) ?_
            refine lv_iconst (v := 1) hx hb dX11_bitsThatLawHas_71 (by decide) ?_
            refine lv_iload_n hx hb dX11_bitsThatLawHas_72 rfl (lv_at hl 5 rfl) ?_
            refine lv_ishl hx hb dX11_bitsThatLawHas_73 ?_
            refine lv_ior hx hb dX11_bitsThatLawHas_74 ?_
            refine lv_istore_n (lv' := [(2, .int (x3 ||| (1 <<< (x4 &&& 31)))), (5, .int v23), (4, .ref r13), (0, .ref a0), (1, .ref a1), (3, .int x4)]) hx hb dX11_bitsThatLawHas_75 rfl hl (by decide) rfl (fun ls hl => ?_)
            refine lv_iinc (v := (x4 + 1)) (lv' := [(3, .int (x4 + 1)), (2, .int (x3 ||| (1 <<< (x4 &&& 31)))), (5, .int v23), (4, .ref r13), (0, .ref a0), (1, .ref a1)]) hx hb dX11_bitsThatLawHas_76 hl (k := 5) rfl rfl (by decide) rfl (fun ls hl => ?_)
            refine lv_goto (tgt := 4) hx hb dX11_bitsThatLawHas_79 (by decide) ?_
            exact ih4 (x3 ||| (1 <<< (x4 &&& 31))) (x4 + 1) S22 _ _ _ h hI (lv_sub hl [4, 5, 1, 0] rfl)
          · have h := hq_f h c24
            refine lv_aload hx hb dX11_bitsThatLawHas_52 (lv_at hl 1 rfl) ?_
            obtain ⟨v25, g26, h⟩ := hq_bind h
            obtain ⟨c_g26, fs_g26, hk_g26, hs_g26, hv_g26⟩ := gIT_at g26
            obtain ⟨C_g26, hc_g26, hi_g26⟩ := hKin_at hk_g26
            refine hq_getN hx hb hts hown hE hI hs_g26 hi_g26 hc_g26 6 (by decide) kn_231 hv_g26 dX11_bitsThatLawHas_54 ?_
            refine lv_iload hx hb dX11_bitsThatLawHas_57 (lv_at hl 0 rfl) ?_
            refine lv_isub hx hb dX11_bitsThatLawHas_59 ?_
            refine va_mabs hx hb (hml.trans hl.1.symm) hown (hts _ kw_347) (hts _ kw_348) (hts _ kw_14) (hts _ kw_349) (Nat.le_of_ble_eq_true rfl) (Nat.le_of_ble_eq_true rfl) (Nat.le_of_ble_eq_true rfl) (Nat.le_of_ble_eq_true rfl) dX11_bitsThatLawHas_60 ?_
            refine lv_topi (fun v27 e_v27 => ?_)
            have h := hq_nm h e_v27
            refine lv_aload_n hx hb dX11_bitsThatLawHas_63 rfl (lv_at hl 3 rfl) ?_
            obtain ⟨v28, g29, h⟩ := hq_bind h
            obtain ⟨fs_g29, hs_g29, hv_g29⟩ := gI_at g29
            refine hq_getN hx hb hts hown hE hI hs_g29 inG7 rfl 10 (by decide) kn_108 hv_g29 dX11_bitsThatLawHas_64 ?_
            refine lv_icmp_gt (tgt := 76) hx hb dX11_bitsThatLawHas_67 (by decide) (fun c30 => ?_) (fun c30 => ?_)
            · have h := hq_t h c30
              refine lv_iinc (v := (x4 + 1)) (lv' := [(3, .int (x4 + 1)), (5, .int v23), (4, .ref r13), (0, .ref a0), (1, .ref a1), (2, .int x3)]) hx hb dX11_bitsThatLawHas_76 hl (k := 5) rfl rfl (by decide) rfl (fun ls hl => ?_)
              refine lv_goto (tgt := 4) hx hb dX11_bitsThatLawHas_79 (by decide) ?_
              exact ih4 x3 (x4 + 1) S22 _ _ _ h hI (lv_sub hl [3, 4, 5, 0] rfl)
            · have h := hq_f h c30
              refine lv_iload_n hx hb dX11_bitsThatLawHas_70 rfl (lv_at hl 4 rfl) ?_
              refine lv_iconst (v := 1) hx hb dX11_bitsThatLawHas_71 (by decide) ?_
              refine lv_iload_n hx hb dX11_bitsThatLawHas_72 rfl (lv_at hl 5 rfl) ?_
              refine lv_ishl hx hb dX11_bitsThatLawHas_73 ?_
              refine lv_ior hx hb dX11_bitsThatLawHas_74 ?_
              refine lv_istore_n (lv' := [(2, .int (x3 ||| (1 <<< (x4 &&& 31)))), (5, .int v23), (4, .ref r13), (0, .ref a0), (1, .ref a1), (3, .int x4)]) hx hb dX11_bitsThatLawHas_75 rfl hl (by decide) rfl (fun ls hl => ?_)
              refine lv_iinc (v := (x4 + 1)) (lv' := [(3, .int (x4 + 1)), (2, .int (x3 ||| (1 <<< (x4 &&& 31)))), (5, .int v23), (4, .ref r13), (0, .ref a0), (1, .ref a1)]) hx hb dX11_bitsThatLawHas_76 hl (k := 5) rfl rfl (by decide) rfl (fun ls hl => ?_)
              refine lv_goto (tgt := 4) hx hb dX11_bitsThatLawHas_79 (by decide) ?_
              exact ih4 (x3 ||| (1 <<< (x4 &&& 31))) (x4 + 1) S22 _ _ _ h hI (lv_sub hl [4, 5, 1, 0] rfl)
  exact hL4 FU 0 0 S _ _ _ h hI (lv_sub hl [2, 3, 1, 0] rfl)
-- RodDips.partOf(JJI)J
theorem dX11_partOf_0 : decode cX11_partOf 0 = .ok (.lload_n 0, 1) := by decide +kernel
theorem dX11_partOf_1 : decode cX11_partOf 1 = .ok (.lload_n 2, 1) := by decide +kernel
theorem dX11_partOf_2 : decode cX11_partOf 2 = .ok (.invokestatic 330, 3) := by decide +kernel
theorem dX11_partOf_5 : decode cX11_partOf 5 = .ok (.lstore 5, 2) := by decide +kernel
theorem dX11_partOf_7 : decode cX11_partOf 7 = .ok (.lload 5, 2) := by decide +kernel
theorem dX11_partOf_9 : decode cX11_partOf 9 = .ok (.lconst 1, 1) := by decide +kernel
theorem dX11_partOf_10 : decode cX11_partOf 10 = .ok (.lcmp, 1) := by decide +kernel
theorem dX11_partOf_11 : decode cX11_partOf 11 = .ok (.ifCond .lt 11, 3) := by decide +kernel
theorem dX11_partOf_14 : decode cX11_partOf 14 = .ok (.iload 4, 2) := by decide +kernel
theorem dX11_partOf_16 : decode cX11_partOf 16 = .ok (.invokestatic 182, 3) := by decide +kernel
theorem dX11_partOf_19 : decode cX11_partOf 19 = .ok (.ifCond .ne 7, 3) := by decide +kernel
theorem dX11_partOf_22 : decode cX11_partOf 22 = .ok (.ldc2_w 167, 3) := by decide +kernel
theorem dX11_partOf_25 : decode cX11_partOf 25 = .ok (.lreturn, 1) := by decide +kernel
theorem dX11_partOf_26 : decode cX11_partOf 26 = .ok (.iload 4, 2) := by decide +kernel
theorem dX11_partOf_28 : decode cX11_partOf 28 = .ok (.ifCond .ne 10, 3) := by decide +kernel
theorem dX11_partOf_31 : decode cX11_partOf 31 = .ok (.lload_n 0, 1) := by decide +kernel
theorem dX11_partOf_32 : decode cX11_partOf 32 = .ok (.lload 5, 2) := by decide +kernel
theorem dX11_partOf_34 : decode cX11_partOf 34 = .ok (.ldiv, 1) := by decide +kernel
theorem dX11_partOf_35 : decode cX11_partOf 35 = .ok (.goto 7, 3) := by decide +kernel
theorem dX11_partOf_38 : decode cX11_partOf 38 = .ok (.lload_n 2, 1) := by decide +kernel
theorem dX11_partOf_39 : decode cX11_partOf 39 = .ok (.lload 5, 2) := by decide +kernel
theorem dX11_partOf_41 : decode cX11_partOf 41 = .ok (.ldiv, 1) := by decide +kernel
theorem dX11_partOf_42 : decode cX11_partOf 42 = .ok (.lreturn, 1) := by decide +kernel
def f_X11_partOf (S : HSt) (a0 : Int64) (a1 : Int64) (a2 : Int32) : Option (Int64 × HSt) := bd2 (f_X11_greatestDivisor S a0 a1) fun v3 S2 => if (lg_cmp v3 1) < 0 then (some ((-9223372036854775808), S2)) else (bd2 (f_X11_isOneOfTwo S2 a2) fun v7 S6 => if v7 = 0 then (some ((-9223372036854775808), S6)) else (if a2 = 0 then (if ¬ v3 = 0 then (some (a0 / v3, S6)) else none) else (if ¬ v3 = 0 then (some (a1 / v3, S6)) else none)))
abbrev rm_X11_partOf : Room := { frames := 1, cells := 0, slots := 0, locals := 30 }
abbrev w_X11_partOf : List Cond := Cond.code yX11_partOf cX11_partOf 7 (Option.some FieldType.long) :: lwG
theorem yd_X11_partOf : yX11_partOf.cls ≠ "java/lang/invoke/MethodHandle" ∧ yX11_partOf.cls ≠ "java/lang/invoke/VarHandle" ∧ (parseMethodDescriptor yX11_partOf.desc).map (fun d => d.parameters.length) = some 3 := by decide +kernel
set_option maxHeartbeats 4000000 in
set_option maxRecDepth 100000 in
theorem c_X11_partOf (l : Launch) (D : va_G) (kA ρ : Nat → Nat) (HB : Heap) (S : HSt) (a0 : Int64) (a1 : Int64) (a2 : Int32) (res : Int64 × HSt) (h : f_X11_partOf S a0 a1 a2 = some res) : Met l yX11_partOf w_X11_partOf rm_X11_partOf (hPc D kA ρ HB S [.long a0, .long a1, .int a2]) (hQl D kA HB S res) 0 0 (hFree HB) := by
  refine Met.ofW (cc := cX11_partOf) (maxL := 7) (ret := (Option.some FieldType.long)) (by decide) rfl ?_
  intro p e s m args below meth c s₁ B hml hv
  obtain ⟨rfl, hE, h0⟩ := hv
  have hx := B.exec
  have hb := B.bytes
  have hr := B.returns
  have hts0 := atoms_spec (ws := w_X11_partOf) B.pre
  have hts : ∀ w ∈ lwG, w.before _ s = true := fun w hw => hts0 w (List.mem_cons_of_mem _ hw)
  have hown : s.vm.findClass RX11 = some m.cls := findClass_of_methodNamed B.named
  have hlocks := B.notSynchronized
  have hI : hqX D kA HB S.2 S s.heap [] := ⟨h0, Nat.le_refl _, fun _ q => absurd q List.not_mem_nil⟩
  have hl := lv_entry ([.long a0, .long a1, .int a2]) (n := 7) (Nat.le_of_ble_eq_true rfl)
  rw [lg_entry_eq]
  generalize (lg_sl ([.long a0, .long a1, .int a2]) ++ List.replicate (7 - (lg_sl ([.long a0, .long a1, .int a2])).length) Slot.unset).toArray = ls at hl ⊢
  have hl : lv_has ls 7 [(0, .long a0), (2, .long a1), (4, .int a2)] := hl
  unfold f_X11_partOf at h
  refine lv_lload_n hx hb dX11_partOf_0 rfl (lv_at hl 0 rfl) ?_
  refine lv_lload_n hx hb dX11_partOf_1 rfl (lv_at hl 1 rfl) ?_
  obtain ⟨v3, S2, g1, h⟩ := hq_bd2 h
  refine hq_calll hI (va_runS (As := [.long a0, .long a1]) (rest := []) ⟨hx, hb, hml, hown, hts⟩ (c_X11_greatestDivisor l D kA ρ HB S a0 a1 _ g1) (va_cwS 2 hts (gdIn (List.forall_mem_cons.mpr ⟨kw_627, (List.forall_mem_cons.mpr ⟨kw_628, (List.forall_mem_cons.mpr ⟨kw_1, (fun _ h => absurd h List.not_mem_nil)⟩)⟩)⟩) kw_629) rfl rfl rfl yd_X11_greatestDivisor ⟨Nat.le_of_ble_eq_true rfl, Nat.le_of_ble_eq_true rfl⟩) (hq_preS hE hI _) rfl rfl hl.1 rfl (lv_room (Nat.le_of_ble_eq_true rfl)) dX11_partOf_2 ⟨Nat.le_of_ble_eq_true rfl, Nat.le_of_ble_eq_true rfl⟩) (fun H locs hI => ?_)
  refine lv_lstore (lv' := [(5, .long v3), (0, .long a0), (2, .long a1), (4, .int a2)]) hx hb dX11_partOf_5 hl (by decide) rfl (fun ls hl => ?_)
  refine lv_lload hx hb dX11_partOf_7 (lv_at hl 0 rfl) ?_
  refine lv_lconst (v := 1) hx hb dX11_partOf_9 (by decide) ?_
  refine W.lcmp hx hb dX11_partOf_10 ?_
  refine lv_if_lt (tgt := 22) hx hb dX11_partOf_11 (by decide) (fun c4 => ?_) (fun c4 => ?_)
  · have h := hq_t h c4
    refine lv_ldc2 (v := (-9223372036854775808)) hx hb hown (hts _ kw_617) dX11_partOf_22 ?_
    exact hq_lret hx hb hr hlocks h0 hI h dX11_partOf_25
  · have h := hq_f h c4
    refine lv_iload hx hb dX11_partOf_14 (lv_at hl 3 rfl) ?_
    obtain ⟨v7, S6, g5, h⟩ := hq_bd2 h
    refine hq_calli hI (va_runS (As := [.int a2]) (rest := []) ⟨hx, hb, hml, hown, hts⟩ (c_X11_isOneOfTwo l D kA ρ HB S2 a2 _ g5) (va_cwS 1 hts (gdIn (List.forall_mem_cons.mpr ⟨kw_630, (List.forall_mem_cons.mpr ⟨kw_631, (List.forall_mem_cons.mpr ⟨kw_1, (fun _ h => absurd h List.not_mem_nil)⟩)⟩)⟩) kw_632) rfl rfl rfl yd_X11_isOneOfTwo ⟨Nat.le_of_ble_eq_true rfl, Nat.le_of_ble_eq_true rfl⟩) (hq_preS hE hI _) rfl rfl hl.1 rfl (lv_room (Nat.le_of_ble_eq_true rfl)) dX11_partOf_16 ⟨Nat.le_of_ble_eq_true rfl, Nat.le_of_ble_eq_true rfl⟩) (fun H locs hI => ?_)
    refine lv_if_ne (tgt := 26) hx hb dX11_partOf_19 (by decide) (fun c8 => ?_) (fun c8 => ?_)
    · have h := hq_f h c8
      refine lv_iload hx hb dX11_partOf_26 (lv_at hl 3 rfl) ?_
      refine lv_if_ne (tgt := 38) hx hb dX11_partOf_28 (by decide) (fun c9 => ?_) (fun c9 => ?_)
      · have h := hq_f h c9
        refine lv_lload_n hx hb dX11_partOf_38 rfl (lv_at hl 2 rfl) ?_
        refine lv_lload hx hb dX11_partOf_39 (lv_at hl 0 rfl) ?_
        obtain ⟨c10, h⟩ := hq_g h
        refine lv_ldiv hx hb dX11_partOf_41 c10 ?_
        exact hq_lret hx hb hr hlocks h0 hI h dX11_partOf_42
      · have h := hq_t h c9
        refine lv_lload_n hx hb dX11_partOf_31 rfl (lv_at hl 1 rfl) ?_
        refine lv_lload hx hb dX11_partOf_32 (lv_at hl 0 rfl) ?_
        obtain ⟨c11, h⟩ := hq_g h
        refine lv_ldiv hx hb dX11_partOf_34 c11 ?_
        refine lv_goto (tgt := 42) hx hb dX11_partOf_35 (by decide) ?_
        exact hq_lret hx hb hr hlocks h0 hI h dX11_partOf_42
    · have h := hq_t h c8
      refine lv_ldc2 (v := (-9223372036854775808)) hx hb hown (hts _ kw_617) dX11_partOf_22 ?_
      exact hq_lret hx hb hr hlocks h0 hI h dX11_partOf_25
-- RodDips.chance(III)J
theorem dX11_chance_0 : decode cX11_chance 0 = .ok (.aload_n 0, 1) := by decide +kernel
theorem dX11_chance_1 : decode cX11_chance 1 = .ok (.iload_n 1, 1) := by decide +kernel
theorem dX11_chance_2 : decode cX11_chance 2 = .ok (.invokevirtual 147, 3) := by decide +kernel
theorem dX11_chance_5 : decode cX11_chance 5 = .ok (.astore 4, 2) := by decide +kernel
theorem dX11_chance_7 : decode cX11_chance 7 = .ok (.aload_n 0, 1) := by decide +kernel
theorem dX11_chance_8 : decode cX11_chance 8 = .ok (.iload_n 2, 1) := by decide +kernel
theorem dX11_chance_9 : decode cX11_chance 9 = .ok (.invokevirtual 130, 3) := by decide +kernel
theorem dX11_chance_12 : decode cX11_chance 12 = .ok (.astore 5, 2) := by decide +kernel
theorem dX11_chance_14 : decode cX11_chance 14 = .ok (.aload 4, 2) := by decide +kernel
theorem dX11_chance_16 : decode cX11_chance 16 = .ok (.ifnull 8, 3) := by decide +kernel
theorem dX11_chance_19 : decode cX11_chance 19 = .ok (.aload 5, 2) := by decide +kernel
theorem dX11_chance_21 : decode cX11_chance 21 = .ok (.ifnonnull 7, 3) := by decide +kernel
theorem dX11_chance_24 : decode cX11_chance 24 = .ok (.ldc2_w 167, 3) := by decide +kernel
theorem dX11_chance_27 : decode cX11_chance 27 = .ok (.lreturn, 1) := by decide +kernel
theorem dX11_chance_28 : decode cX11_chance 28 = .ok (.aload_n 0, 1) := by decide +kernel
theorem dX11_chance_29 : decode cX11_chance 29 = .ok (.aload 5, 2) := by decide +kernel
theorem dX11_chance_31 : decode cX11_chance 31 = .ok (.getfield 118, 3) := by decide +kernel
theorem dX11_chance_34 : decode cX11_chance 34 = .ok (.aload 4, 2) := by decide +kernel
theorem dX11_chance_36 : decode cX11_chance 36 = .ok (.getfield 151, 3) := by decide +kernel
theorem dX11_chance_39 : decode cX11_chance 39 = .ok (.invokevirtual 169, 3) := by decide +kernel
theorem dX11_chance_42 : decode cX11_chance 42 = .ok (.i2l, 1) := by decide +kernel
theorem dX11_chance_43 : decode cX11_chance 43 = .ok (.aload_n 0, 1) := by decide +kernel
theorem dX11_chance_44 : decode cX11_chance 44 = .ok (.getfield 11, 3) := by decide +kernel
theorem dX11_chance_47 : decode cX11_chance 47 = .ok (.i2l, 1) := by decide +kernel
theorem dX11_chance_48 : decode cX11_chance 48 = .ok (.iload_n 3, 1) := by decide +kernel
theorem dX11_chance_49 : decode cX11_chance 49 = .ok (.invokestatic 172, 3) := by decide +kernel
theorem dX11_chance_52 : decode cX11_chance 52 = .ok (.lreturn, 1) := by decide +kernel
def f_X11_chance (S : HSt) (a0 : Nat) (a1 : Int32) (a2 : Int32) (a3 : Int32) : Option (Int64 × HSt) := if gC S a0 = some 11 then (bd2 (f_X11_planAt S a0 a1) fun b4 S3 => oC b4 (if gC S3 a0 = some 11 then (bd2 (f_X11_tryAt S3 a0 a2) fun b9 S8 => oC b9 (some ((-9223372036854775808), S8)) fun r10 => some ((-9223372036854775808), S8)) else none) fun r5 => if gC S3 a0 = some 11 then (bd2 (f_X11_tryAt S3 a0 a2) fun b14 S13 => oC b14 (some ((-9223372036854775808), S13)) fun r15 => (gIT S13 r15 6).bind fun v16 => (gI S13 r5 7 8).bind fun v18 => if gC S13 a0 = some 11 then (bd2 (f_X11_placesWithin S13 a0 v16 v18) fun v23 S22 => (gI S22 a0 11 0).bind fun v24 => bd2 (f_X11_partOf S22 (Int32.toInt64 v23) (Int32.toInt64 v24) a3) fun v28 S27 => some (v28, S27)) else none) else none) else none
abbrev rm_X11_chance : Room := { frames := 2, cells := 0, slots := 0, locals := 56 }
abbrev w_X11_chance : List Cond := Cond.code yX11_chance cX11_chance 6 (Option.some FieldType.long) :: lwG
theorem yd_X11_chance : yX11_chance.cls ≠ "java/lang/invoke/MethodHandle" ∧ yX11_chance.cls ≠ "java/lang/invoke/VarHandle" ∧ (parseMethodDescriptor yX11_chance.desc).map (fun d => d.parameters.length) = some 3 := by decide +kernel
theorem ye_X11_chance : yX11_chance.cls = RX11 ∧ yX11_chance.cls ≠ "java/lang/invoke/MethodHandle" ∧ yX11_chance.cls ≠ "java/lang/invoke/VarHandle" ∧ (parseMethodDescriptor yX11_chance.desc).map (fun d => d.parameters.length) = some 3 := by decide +kernel
set_option maxHeartbeats 4000000 in
set_option maxRecDepth 100000 in
theorem c_X11_chance (l : Launch) (D : va_G) (kA ρ : Nat → Nat) (HB : Heap) (S : HSt) (a0 : Nat) (a1 : Int32) (a2 : Int32) (a3 : Int32) (res : Int64 × HSt) (h : f_X11_chance S a0 a1 a2 a3 = some res) : Met l yX11_chance w_X11_chance rm_X11_chance (hPc D kA ρ HB S [.ref a0, .int a1, .int a2, .int a3]) (hQl D kA HB S res) 0 0 (hFree HB) := by
  refine Met.ofW (cc := cX11_chance) (maxL := 6) (ret := (Option.some FieldType.long)) (by decide) rfl ?_
  intro p e s m args below meth c s₁ B hml hv
  obtain ⟨rfl, hE, h0⟩ := hv
  have hx := B.exec
  have hb := B.bytes
  have hr := B.returns
  have hts0 := atoms_spec (ws := w_X11_chance) B.pre
  have hts : ∀ w ∈ lwG, w.before _ s = true := fun w hw => hts0 w (List.mem_cons_of_mem _ hw)
  have hown : s.vm.findClass RX11 = some m.cls := findClass_of_methodNamed B.named
  have hlocks := B.notSynchronized
  have hI : hqX D kA HB S.2 S s.heap [] := ⟨h0, Nat.le_refl _, fun _ q => absurd q List.not_mem_nil⟩
  have hl := lv_entry ([.ref a0, .int a1, .int a2, .int a3]) (n := 6) (Nat.le_of_ble_eq_true rfl)
  rw [lg_entry_eq]
  generalize (lg_sl ([.ref a0, .int a1, .int a2, .int a3]) ++ List.replicate (6 - (lg_sl ([.ref a0, .int a1, .int a2, .int a3])).length) Slot.unset).toArray = ls at hl ⊢
  have hl : lv_has ls 6 [(0, .ref a0), (1, .int a1), (2, .int a2), (3, .int a3)] := hl
  unfold f_X11_chance at h
  refine lv_aload_n hx hb dX11_chance_0 rfl (lv_at hl 0 rfl) ?_
  refine lv_iload_n hx hb dX11_chance_1 rfl (lv_at hl 1 rfl) ?_
  obtain ⟨g2, h⟩ := hq_g h
  obtain ⟨b4, S3, g1, h⟩ := hq_bd2 h
  refine hq_callq hI (va_runV (As := [.int a1]) (rest := []) ⟨hx, hb, hml, hown, hts⟩ (c_X11_planAt l D kA ρ HB S a0 a1 _ g1) (cwV 1 hts (gdIn (List.forall_mem_cons.mpr ⟨kw_557, (List.forall_mem_cons.mpr ⟨kw_559, (List.forall_mem_cons.mpr ⟨ks_10, (List.forall_mem_cons.mpr ⟨kw_1, (fun _ h => absurd h List.not_mem_nil)⟩)⟩)⟩)⟩) kw_560) rfl rfl rfl ye_X11_planAt ⟨Nat.le_of_ble_eq_true rfl, Nat.le_of_ble_eq_true rfl⟩) (hq_preC hE hI g2 rfl _) rfl rfl hl.1 rfl (lv_room (Nat.le_of_ble_eq_true rfl)) dX11_chance_2 ⟨Nat.le_of_ble_eq_true rfl, Nat.le_of_ble_eq_true rfl⟩) (fun H locs hI => ?_)
  rcases b4 with _ | r5
  · have h := oC_n h
    refine lv_astoreN (lv' := [(4, .null), (0, .ref a0), (1, .int a1), (2, .int a2), (3, .int a3)]) hx hb dX11_chance_5 hl (by decide) rfl (fun ls hl => ?_)
    refine lv_aload_n hx hb dX11_chance_7 rfl (lv_at hl 1 rfl) ?_
    refine lv_iload_n hx hb dX11_chance_8 rfl (lv_at hl 3 rfl) ?_
    obtain ⟨g7, h⟩ := hq_g h
    obtain ⟨b9, S8, g6, h⟩ := hq_bd2 h
    refine hq_callq hI (va_runV (As := [.int a2]) (rest := []) ⟨hx, hb, hml, hown, hts⟩ (c_X11_tryAt l D kA ρ HB S3 a0 a2 _ g6) (cwV 1 hts (gdIn (List.forall_mem_cons.mpr ⟨kw_354, (List.forall_mem_cons.mpr ⟨kw_356, (List.forall_mem_cons.mpr ⟨ks_2, (List.forall_mem_cons.mpr ⟨kw_1, (fun _ h => absurd h List.not_mem_nil)⟩)⟩)⟩)⟩) kw_357) rfl rfl rfl ye_X11_tryAt ⟨Nat.le_of_ble_eq_true rfl, Nat.le_of_ble_eq_true rfl⟩) (hq_preC hE hI g7 rfl _) rfl rfl hl.1 rfl (lv_room (Nat.le_of_ble_eq_true rfl)) dX11_chance_9 ⟨Nat.le_of_ble_eq_true rfl, Nat.le_of_ble_eq_true rfl⟩) (fun H locs hI => ?_)
    rcases b9 with _ | r10
    · have h := oC_n h
      refine lv_astoreN (lv' := [(5, .null), (4, .null), (0, .ref a0), (1, .int a1), (2, .int a2), (3, .int a3)]) hx hb dX11_chance_12 hl (by decide) rfl (fun ls hl => ?_)
      refine lv_aloadN hx hb dX11_chance_14 (lv_at hl 1 rfl) ?_
      refine lv_ifnullN (tgt := 24) hx hb dX11_chance_16 (by decide) ?_
      refine lv_ldc2 (v := (-9223372036854775808)) hx hb hown (hts _ kw_617) dX11_chance_24 ?_
      exact hq_lret hx hb hr hlocks h0 hI h dX11_chance_27
    · have h := oC_s h
      refine lv_astore (lv' := [(5, .ref r10), (4, .null), (0, .ref a0), (1, .int a1), (2, .int a2), (3, .int a3)]) hx hb dX11_chance_12 hl (by decide) rfl (fun ls hl => ?_)
      refine lv_aloadN hx hb dX11_chance_14 (lv_at hl 1 rfl) ?_
      refine lv_ifnullN (tgt := 24) hx hb dX11_chance_16 (by decide) ?_
      refine lv_ldc2 (v := (-9223372036854775808)) hx hb hown (hts _ kw_617) dX11_chance_24 ?_
      exact hq_lret hx hb hr hlocks h0 hI h dX11_chance_27
  · have h := oC_s h
    refine lv_astore (lv' := [(4, .ref r5), (0, .ref a0), (1, .int a1), (2, .int a2), (3, .int a3)]) hx hb dX11_chance_5 hl (by decide) rfl (fun ls hl => ?_)
    refine lv_aload_n hx hb dX11_chance_7 rfl (lv_at hl 1 rfl) ?_
    refine lv_iload_n hx hb dX11_chance_8 rfl (lv_at hl 3 rfl) ?_
    obtain ⟨g12, h⟩ := hq_g h
    obtain ⟨b14, S13, g11, h⟩ := hq_bd2 h
    refine hq_callq hI (va_runV (As := [.int a2]) (rest := []) ⟨hx, hb, hml, hown, hts⟩ (c_X11_tryAt l D kA ρ HB S3 a0 a2 _ g11) (cwV 1 hts (gdIn (List.forall_mem_cons.mpr ⟨kw_354, (List.forall_mem_cons.mpr ⟨kw_356, (List.forall_mem_cons.mpr ⟨ks_2, (List.forall_mem_cons.mpr ⟨kw_1, (fun _ h => absurd h List.not_mem_nil)⟩)⟩)⟩)⟩) kw_357) rfl rfl rfl ye_X11_tryAt ⟨Nat.le_of_ble_eq_true rfl, Nat.le_of_ble_eq_true rfl⟩) (hq_preC hE hI g12 rfl _) rfl rfl hl.1 rfl (lv_room (Nat.le_of_ble_eq_true rfl)) dX11_chance_9 ⟨Nat.le_of_ble_eq_true rfl, Nat.le_of_ble_eq_true rfl⟩) (fun H locs hI => ?_)
    rcases b14 with _ | r15
    · have h := oC_n h
      refine lv_astoreN (lv' := [(5, .null), (4, .ref r5), (0, .ref a0), (1, .int a1), (2, .int a2), (3, .int a3)]) hx hb dX11_chance_12 hl (by decide) rfl (fun ls hl => ?_)
      refine lv_aload hx hb dX11_chance_14 (lv_at hl 1 rfl) ?_
      refine lv_ifnull hx hb dX11_chance_16 ?_
      refine lv_aloadN hx hb dX11_chance_19 (lv_at hl 0 rfl) ?_
      refine lv_ifnonnullN hx hb dX11_chance_21 ?_
      refine lv_ldc2 (v := (-9223372036854775808)) hx hb hown (hts _ kw_617) dX11_chance_24 ?_
      exact hq_lret hx hb hr hlocks h0 hI h dX11_chance_27
    · have h := oC_s h
      refine lv_astore (lv' := [(5, .ref r15), (4, .ref r5), (0, .ref a0), (1, .int a1), (2, .int a2), (3, .int a3)]) hx hb dX11_chance_12 hl (by decide) rfl (fun ls hl => ?_)
      refine lv_aload hx hb dX11_chance_14 (lv_at hl 1 rfl) ?_
      refine lv_ifnull hx hb dX11_chance_16 ?_
      refine lv_aload hx hb dX11_chance_19 (lv_at hl 0 rfl) ?_
      refine lv_ifnonnull (tgt := 28) hx hb dX11_chance_21 (by decide) ?_
      refine lv_aload_n hx hb dX11_chance_28 rfl (lv_at hl 2 rfl) ?_
      refine lv_aload hx hb dX11_chance_29 (lv_at hl 0 rfl) ?_
      obtain ⟨v16, g17, h⟩ := hq_bind h
      obtain ⟨c_g17, fs_g17, hk_g17, hs_g17, hv_g17⟩ := gIT_at g17
      obtain ⟨C_g17, hc_g17, hi_g17⟩ := hKin_at hk_g17
      refine hq_getN hx hb hts hown hE hI hs_g17 hi_g17 hc_g17 6 (by decide) kn_231 hv_g17 dX11_chance_31 ?_
      refine lv_aload hx hb dX11_chance_34 (lv_at hl 1 rfl) ?_
      obtain ⟨v18, g19, h⟩ := hq_bind h
      obtain ⟨fs_g19, hs_g19, hv_g19⟩ := gI_at g19
      refine hq_getN hx hb hts hown hE hI hs_g19 inG7 rfl 8 (by decide) kn_104 hv_g19 dX11_chance_36 ?_
      obtain ⟨g21, h⟩ := hq_g h
      obtain ⟨v23, S22, g20, h⟩ := hq_bd2 h
      refine hq_calli hI (va_runV (As := [.int v16, .int v18]) (rest := []) ⟨hx, hb, hml, hown, hts⟩ (c_X11_placesWithin l D kA ρ HB S13 a0 v16 v18 _ g20) (cwV 2 hts (gdIn (List.forall_mem_cons.mpr ⟨kw_618, (List.forall_mem_cons.mpr ⟨kw_620, (List.forall_mem_cons.mpr ⟨ks_17, (List.forall_mem_cons.mpr ⟨kw_1, (fun _ h => absurd h List.not_mem_nil)⟩)⟩)⟩)⟩) kw_621) rfl rfl rfl ye_X11_placesWithin ⟨Nat.le_of_ble_eq_true rfl, Nat.le_of_ble_eq_true rfl⟩) (hq_preC hE hI g21 rfl _) rfl rfl hl.1 rfl (lv_room (Nat.le_of_ble_eq_true rfl)) dX11_chance_39 ⟨Nat.le_of_ble_eq_true rfl, Nat.le_of_ble_eq_true rfl⟩) (fun H locs hI => ?_)
      refine lv_i2l (v := Int32.toInt64 v23) hx hb dX11_chance_42 rfl ?_
      refine lv_aload_n hx hb dX11_chance_43 rfl (lv_at hl 2 rfl) ?_
      obtain ⟨v24, g25, h⟩ := hq_bind h
      obtain ⟨fs_g25, hs_g25, hv_g25⟩ := gI_at g25
      refine hq_get hx hb hts hown hE hI hs_g25 inG11 rfl 0 (by decide) kw_132 hv_g25 dX11_chance_44 ?_
      refine lv_i2l (v := Int32.toInt64 v24) hx hb dX11_chance_47 rfl ?_
      refine lv_iload_n hx hb dX11_chance_48 rfl (lv_at hl 5 rfl) ?_
      obtain ⟨v28, S27, g26, h⟩ := hq_bd2 h
      refine hq_calll hI (va_runS (As := [.long (Int32.toInt64 v23), .long (Int32.toInt64 v24), .int a3]) (rest := []) ⟨hx, hb, hml, hown, hts⟩ (c_X11_partOf l D kA ρ HB S22 (Int32.toInt64 v23) (Int32.toInt64 v24) a3 _ g26) (va_cwS 3 hts (gdIn (List.forall_mem_cons.mpr ⟨kw_624, (List.forall_mem_cons.mpr ⟨kw_625, (List.forall_mem_cons.mpr ⟨kw_1, (fun _ h => absurd h List.not_mem_nil)⟩)⟩)⟩) kw_626) rfl rfl rfl yd_X11_partOf ⟨Nat.le_of_ble_eq_true rfl, Nat.le_of_ble_eq_true rfl⟩) (hq_preS hE hI _) rfl rfl hl.1 rfl (lv_room (Nat.le_of_ble_eq_true rfl)) dX11_chance_49 ⟨Nat.le_of_ble_eq_true rfl, Nat.le_of_ble_eq_true rfl⟩) (fun H locs hI => ?_)
      exact hq_lret hx hb hr hlocks h0 hI h dX11_chance_52
-- RodDips.odds(IIIII)J
theorem dX11_odds_0 : decode cX11_odds 0 = .ok (.aload_n 0, 1) := by decide +kernel
theorem dX11_odds_1 : decode cX11_odds 1 = .ok (.iload_n 1, 1) := by decide +kernel
theorem dX11_odds_2 : decode cX11_odds 2 = .ok (.invokevirtual 147, 3) := by decide +kernel
theorem dX11_odds_5 : decode cX11_odds 5 = .ok (.astore 6, 2) := by decide +kernel
theorem dX11_odds_7 : decode cX11_odds 7 = .ok (.aload 6, 2) := by decide +kernel
theorem dX11_odds_9 : decode cX11_odds 9 = .ok (.ifnull 26, 3) := by decide +kernel
theorem dX11_odds_12 : decode cX11_odds 12 = .ok (.aload_n 0, 1) := by decide +kernel
theorem dX11_odds_13 : decode cX11_odds 13 = .ok (.iload_n 2, 1) := by decide +kernel
theorem dX11_odds_14 : decode cX11_odds 14 = .ok (.invokevirtual 176, 3) := by decide +kernel
theorem dX11_odds_17 : decode cX11_odds 17 = .ok (.ifCond .eq 18, 3) := by decide +kernel
theorem dX11_odds_20 : decode cX11_odds 20 = .ok (.iload_n 3, 1) := by decide +kernel
theorem dX11_odds_21 : decode cX11_odds 21 = .ok (.invokestatic 179, 3) := by decide +kernel
theorem dX11_odds_24 : decode cX11_odds 24 = .ok (.ifCond .eq 11, 3) := by decide +kernel
theorem dX11_odds_27 : decode cX11_odds 27 = .ok (.iload 4, 2) := by decide +kernel
theorem dX11_odds_29 : decode cX11_odds 29 = .ok (.invokestatic 182, 3) := by decide +kernel
theorem dX11_odds_32 : decode cX11_odds 32 = .ok (.ifCond .ne 7, 3) := by decide +kernel
theorem dX11_odds_35 : decode cX11_odds 35 = .ok (.ldc2_w 167, 3) := by decide +kernel
theorem dX11_odds_38 : decode cX11_odds 38 = .ok (.lreturn, 1) := by decide +kernel
theorem dX11_odds_39 : decode cX11_odds 39 = .ok (.iload_n 2, 1) := by decide +kernel
theorem dX11_odds_40 : decode cX11_odds 40 = .ok (.invokestatic 185, 3) := by decide +kernel
theorem dX11_odds_43 : decode cX11_odds 43 = .ok (.bipush 9, 2) := by decide +kernel
theorem dX11_odds_45 : decode cX11_odds 45 = .ok (.if_icmp .le 7, 3) := by decide +kernel
theorem dX11_odds_48 : decode cX11_odds 48 = .ok (.ldc2_w 167, 3) := by decide +kernel
theorem dX11_odds_51 : decode cX11_odds 51 = .ok (.lreturn, 1) := by decide +kernel
theorem dX11_odds_52 : decode cX11_odds 52 = .ok (.aload_n 0, 1) := by decide +kernel
theorem dX11_odds_53 : decode cX11_odds 53 = .ok (.iload_n 2, 1) := by decide +kernel
theorem dX11_odds_54 : decode cX11_odds 54 = .ok (.aload 6, 2) := by decide +kernel
theorem dX11_odds_56 : decode cX11_odds 56 = .ok (.getfield 151, 3) := by decide +kernel
theorem dX11_odds_59 : decode cX11_odds 59 = .ok (.invokevirtual 190, 3) := by decide +kernel
theorem dX11_odds_62 : decode cX11_odds 62 = .ok (.iload 4, 2) := by decide +kernel
theorem dX11_odds_64 : decode cX11_odds 64 = .ok (.ifCond .ne 14, 3) := by decide +kernel
theorem dX11_odds_67 : decode cX11_odds 67 = .ok (.aload_n 0, 1) := by decide +kernel
theorem dX11_odds_68 : decode cX11_odds 68 = .ok (.getfield 49, 3) := by decide +kernel
theorem dX11_odds_71 : decode cX11_odds 71 = .ok (.iload_n 3, 1) := by decide +kernel
theorem dX11_odds_72 : decode cX11_odds 72 = .ok (.invokevirtual 194, 3) := by decide +kernel
theorem dX11_odds_75 : decode cX11_odds 75 = .ok (.goto 11, 3) := by decide +kernel
theorem dX11_odds_78 : decode cX11_odds 78 = .ok (.aload_n 0, 1) := by decide +kernel
theorem dX11_odds_79 : decode cX11_odds 79 = .ok (.getfield 49, 3) := by decide +kernel
theorem dX11_odds_82 : decode cX11_odds 82 = .ok (.iload_n 3, 1) := by decide +kernel
theorem dX11_odds_83 : decode cX11_odds 83 = .ok (.invokevirtual 198, 3) := by decide +kernel
theorem dX11_odds_86 : decode cX11_odds 86 = .ok (.aload_n 0, 1) := by decide +kernel
theorem dX11_odds_87 : decode cX11_odds 87 = .ok (.getfield 49, 3) := by decide +kernel
theorem dX11_odds_90 : decode cX11_odds 90 = .ok (.getfield 201, 3) := by decide +kernel
theorem dX11_odds_93 : decode cX11_odds 93 = .ok (.iload 5, 2) := by decide +kernel
theorem dX11_odds_95 : decode cX11_odds 95 = .ok (.invokestatic 172, 3) := by decide +kernel
theorem dX11_odds_98 : decode cX11_odds 98 = .ok (.lreturn, 1) := by decide +kernel
def f_X11_odds (S : HSt) (a0 : Nat) (a1 : Int32) (a2 : Int32) (a3 : Int32) (a4 : Int32) (a5 : Int32) : Option (Int64 × HSt) := if gC S a0 = some 11 then (bd2 (f_X11_planAt S a0 a1) fun b4 S3 => oC b4 (some ((-9223372036854775808), S3)) fun r5 => if gC S3 a0 = some 11 then (bd2 (f_X11_isSet S3 a0 a2) fun v9 S8 => if v9 = 0 then (some ((-9223372036854775808), S8)) else (bd2 (f_X11_isHitNumber S8 a3) fun v13 S12 => if v13 = 0 then (some ((-9223372036854775808), S12)) else (bd2 (f_X11_isOneOfTwo S12 a4) fun v17 S16 => if v17 = 0 then (some ((-9223372036854775808), S16)) else (bd2 (f_J6_bitCount_0f7a4 S16 a2) fun v21 S20 => if v21 ≤ 9 then ((gI S20 r5 7 8).bind fun v23 => if gC S20 a0 = some 11 then ((f_X11_setOdds S20 a0 a2 v23).bind fun S27 => if a4 = 0 then ((gR S27 a0 11 8).bind fun b42 => if gC S27 b42 = some 4 then (bd2 (f_X4_orMore S27 b42 a3) fun v47 S46 => (gR S46 a0 11 8).bind fun b48 => (gL S46 b48 4 2).bind fun v50 => bd2 (f_X11_partOf S46 v47 v50 a5) fun v54 S53 => some (v54, S53)) else none) else ((gR S27 a0 11 8).bind fun b29 => if gC S27 b29 = some 4 then (bd2 (f_X4_exactly S27 b29 a3) fun v34 S33 => (gR S33 a0 11 8).bind fun b35 => (gL S33 b35 4 2).bind fun v37 => bd2 (f_X11_partOf S33 v34 v37 a5) fun v41 S40 => some (v41, S40)) else none)) else none) else (some ((-9223372036854775808), S20)))))) else none) else none
abbrev rm_X11_odds : Room := { frames := 3, cells := 0, slots := 0, locals := 68 }
abbrev w_X11_odds : List Cond := Cond.code yX11_odds cX11_odds 7 (Option.some FieldType.long) :: lwG
theorem yd_X11_odds : yX11_odds.cls ≠ "java/lang/invoke/MethodHandle" ∧ yX11_odds.cls ≠ "java/lang/invoke/VarHandle" ∧ (parseMethodDescriptor yX11_odds.desc).map (fun d => d.parameters.length) = some 5 := by decide +kernel
theorem ye_X11_odds : yX11_odds.cls = RX11 ∧ yX11_odds.cls ≠ "java/lang/invoke/MethodHandle" ∧ yX11_odds.cls ≠ "java/lang/invoke/VarHandle" ∧ (parseMethodDescriptor yX11_odds.desc).map (fun d => d.parameters.length) = some 5 := by decide +kernel
set_option maxHeartbeats 4000000 in
set_option maxRecDepth 100000 in
theorem c_X11_odds (l : Launch) (D : va_G) (kA ρ : Nat → Nat) (HB : Heap) (S : HSt) (a0 : Nat) (a1 : Int32) (a2 : Int32) (a3 : Int32) (a4 : Int32) (a5 : Int32) (res : Int64 × HSt) (h : f_X11_odds S a0 a1 a2 a3 a4 a5 = some res) : Met l yX11_odds w_X11_odds rm_X11_odds (hPc D kA ρ HB S [.ref a0, .int a1, .int a2, .int a3, .int a4, .int a5]) (hQl D kA HB S res) 0 0 (hFree HB) := by
  refine Met.ofW (cc := cX11_odds) (maxL := 7) (ret := (Option.some FieldType.long)) (by decide) rfl ?_
  intro p e s m args below meth c s₁ B hml hv
  obtain ⟨rfl, hE, h0⟩ := hv
  have hx := B.exec
  have hb := B.bytes
  have hr := B.returns
  have hts0 := atoms_spec (ws := w_X11_odds) B.pre
  have hts : ∀ w ∈ lwG, w.before _ s = true := fun w hw => hts0 w (List.mem_cons_of_mem _ hw)
  have hown : s.vm.findClass RX11 = some m.cls := findClass_of_methodNamed B.named
  have hlocks := B.notSynchronized
  have hI : hqX D kA HB S.2 S s.heap [] := ⟨h0, Nat.le_refl _, fun _ q => absurd q List.not_mem_nil⟩
  have hl := lv_entry ([.ref a0, .int a1, .int a2, .int a3, .int a4, .int a5]) (n := 7) (Nat.le_of_ble_eq_true rfl)
  rw [lg_entry_eq]
  generalize (lg_sl ([.ref a0, .int a1, .int a2, .int a3, .int a4, .int a5]) ++ List.replicate (7 - (lg_sl ([.ref a0, .int a1, .int a2, .int a3, .int a4, .int a5])).length) Slot.unset).toArray = ls at hl ⊢
  have hl : lv_has ls 7 [(0, .ref a0), (1, .int a1), (2, .int a2), (3, .int a3), (4, .int a4), (5, .int a5)] := hl
  unfold f_X11_odds at h
  refine lv_aload_n hx hb dX11_odds_0 rfl (lv_at hl 0 rfl) ?_
  refine lv_iload_n hx hb dX11_odds_1 rfl (lv_at hl 1 rfl) ?_
  obtain ⟨g2, h⟩ := hq_g h
  obtain ⟨b4, S3, g1, h⟩ := hq_bd2 h
  refine hq_callq hI (va_runV (As := [.int a1]) (rest := []) ⟨hx, hb, hml, hown, hts⟩ (c_X11_planAt l D kA ρ HB S a0 a1 _ g1) (cwV 1 hts (gdIn (List.forall_mem_cons.mpr ⟨kw_557, (List.forall_mem_cons.mpr ⟨kw_559, (List.forall_mem_cons.mpr ⟨ks_10, (List.forall_mem_cons.mpr ⟨kw_1, (fun _ h => absurd h List.not_mem_nil)⟩)⟩)⟩)⟩) kw_560) rfl rfl rfl ye_X11_planAt ⟨Nat.le_of_ble_eq_true rfl, Nat.le_of_ble_eq_true rfl⟩) (hq_preC hE hI g2 rfl _) rfl rfl hl.1 rfl (lv_room (Nat.le_of_ble_eq_true rfl)) dX11_odds_2 ⟨Nat.le_of_ble_eq_true rfl, Nat.le_of_ble_eq_true rfl⟩) (fun H locs hI => ?_)
  rcases b4 with _ | r5
  · have h := oC_n h
    refine lv_astoreN (lv' := [(6, .null), (0, .ref a0), (1, .int a1), (2, .int a2), (3, .int a3), (4, .int a4), (5, .int a5)]) hx hb dX11_odds_5 hl (by decide) rfl (fun ls hl => ?_)
    refine lv_aloadN hx hb dX11_odds_7 (lv_at hl 0 rfl) ?_
    refine lv_ifnullN (tgt := 35) hx hb dX11_odds_9 (by decide) ?_
    refine lv_ldc2 (v := (-9223372036854775808)) hx hb hown (hts _ kw_617) dX11_odds_35 ?_
    exact hq_lret hx hb hr hlocks h0 hI h dX11_odds_38
  · have h := oC_s h
    refine lv_astore (lv' := [(6, .ref r5), (0, .ref a0), (1, .int a1), (2, .int a2), (3, .int a3), (4, .int a4), (5, .int a5)]) hx hb dX11_odds_5 hl (by decide) rfl (fun ls hl => ?_)
    refine lv_aload hx hb dX11_odds_7 (lv_at hl 0 rfl) ?_
    refine lv_ifnull hx hb dX11_odds_9 ?_
    refine lv_aload_n hx hb dX11_odds_12 rfl (lv_at hl 1 rfl) ?_
    refine lv_iload_n hx hb dX11_odds_13 rfl (lv_at hl 3 rfl) ?_
    obtain ⟨g7, h⟩ := hq_g h
    obtain ⟨v9, S8, g6, h⟩ := hq_bd2 h
    refine hq_calli hI (va_runV (As := [.int a2]) (rest := []) ⟨hx, hb, hml, hown, hts⟩ (c_X11_isSet l D kA ρ HB S3 a0 a2 _ g6) (cwV 1 hts (gdIn (List.forall_mem_cons.mpr ⟨kw_637, (List.forall_mem_cons.mpr ⟨kw_639, (List.forall_mem_cons.mpr ⟨ks_18, (List.forall_mem_cons.mpr ⟨kw_1, (fun _ h => absurd h List.not_mem_nil)⟩)⟩)⟩)⟩) kw_640) rfl rfl rfl ye_X11_isSet ⟨Nat.le_of_ble_eq_true rfl, Nat.le_of_ble_eq_true rfl⟩) (hq_preC hE hI g7 rfl _) rfl rfl hl.1 rfl (lv_room (Nat.le_of_ble_eq_true rfl)) dX11_odds_14 ⟨Nat.le_of_ble_eq_true rfl, Nat.le_of_ble_eq_true rfl⟩) (fun H locs hI => ?_)
    refine lv_if_eq (tgt := 35) hx hb dX11_odds_17 (by decide) (fun c10 => ?_) (fun c10 => ?_)
    · have h := hq_t h c10
      refine lv_ldc2 (v := (-9223372036854775808)) hx hb hown (hts _ kw_617) dX11_odds_35 ?_
      exact hq_lret hx hb hr hlocks h0 hI h dX11_odds_38
    · have h := hq_f h c10
      refine lv_iload_n hx hb dX11_odds_20 rfl (lv_at hl 4 rfl) ?_
      obtain ⟨v13, S12, g11, h⟩ := hq_bd2 h
      refine hq_calli hI (va_runS (As := [.int a3]) (rest := []) ⟨hx, hb, hml, hown, hts⟩ (c_X11_isHitNumber l D kA ρ HB S8 a3 _ g11) (va_cwS 1 hts (gdIn (List.forall_mem_cons.mpr ⟨kw_641, (List.forall_mem_cons.mpr ⟨kw_642, (List.forall_mem_cons.mpr ⟨kw_1, (fun _ h => absurd h List.not_mem_nil)⟩)⟩)⟩) kw_643) rfl rfl rfl yd_X11_isHitNumber ⟨Nat.le_of_ble_eq_true rfl, Nat.le_of_ble_eq_true rfl⟩) (hq_preS hE hI _) rfl rfl hl.1 rfl (lv_room (Nat.le_of_ble_eq_true rfl)) dX11_odds_21 ⟨Nat.le_of_ble_eq_true rfl, Nat.le_of_ble_eq_true rfl⟩) (fun H locs hI => ?_)
      refine lv_if_eq (tgt := 35) hx hb dX11_odds_24 (by decide) (fun c14 => ?_) (fun c14 => ?_)
      · have h := hq_t h c14
        refine lv_ldc2 (v := (-9223372036854775808)) hx hb hown (hts _ kw_617) dX11_odds_35 ?_
        exact hq_lret hx hb hr hlocks h0 hI h dX11_odds_38
      · have h := hq_f h c14
        refine lv_iload hx hb dX11_odds_27 (lv_at hl 5 rfl) ?_
        obtain ⟨v17, S16, g15, h⟩ := hq_bd2 h
        refine hq_calli hI (va_runS (As := [.int a4]) (rest := []) ⟨hx, hb, hml, hown, hts⟩ (c_X11_isOneOfTwo l D kA ρ HB S12 a4 _ g15) (va_cwS 1 hts (gdIn (List.forall_mem_cons.mpr ⟨kw_630, (List.forall_mem_cons.mpr ⟨kw_631, (List.forall_mem_cons.mpr ⟨kw_1, (fun _ h => absurd h List.not_mem_nil)⟩)⟩)⟩) kw_632) rfl rfl rfl yd_X11_isOneOfTwo ⟨Nat.le_of_ble_eq_true rfl, Nat.le_of_ble_eq_true rfl⟩) (hq_preS hE hI _) rfl rfl hl.1 rfl (lv_room (Nat.le_of_ble_eq_true rfl)) dX11_odds_29 ⟨Nat.le_of_ble_eq_true rfl, Nat.le_of_ble_eq_true rfl⟩) (fun H locs hI => ?_)
        refine lv_if_ne (tgt := 39) hx hb dX11_odds_32 (by decide) (fun c18 => ?_) (fun c18 => ?_)
        · have h := hq_f h c18
          refine lv_iload_n hx hb dX11_odds_39 rfl (lv_at hl 3 rfl) ?_
          obtain ⟨v21, S20, g19, h⟩ := hq_bd2 h
          refine hq_calli hI (va_runS (As := [.int a2]) (rest := []) ⟨hx, hb, hml, hown, hts⟩ (c_J6_bitCount_0f7a4 l D kA ρ HB S16 a2 _ g19) (va_cwS 1 hts (gdIn (List.forall_mem_cons.mpr ⟨kw_607, (List.forall_mem_cons.mpr ⟨kw_608, (List.forall_mem_cons.mpr ⟨kw_20, (fun _ h => absurd h List.not_mem_nil)⟩)⟩)⟩) kw_609) rfl rfl rfl yd_J6_bitCount_0f7a4 ⟨Nat.le_of_ble_eq_true rfl, Nat.le_of_ble_eq_true rfl⟩) (hq_preS hE hI _) rfl rfl hl.1 rfl (lv_room (Nat.le_of_ble_eq_true rfl)) dX11_odds_40 ⟨Nat.le_of_ble_eq_true rfl, Nat.le_of_ble_eq_true rfl⟩) (fun H locs hI => ?_)
          refine lv_bipush (v := 9) hx hb dX11_odds_43 (by decide) ?_
          refine lv_icmp_le (tgt := 52) hx hb dX11_odds_45 (by decide) (fun c22 => ?_) (fun c22 => ?_)
          · have h := hq_t h c22
            refine lv_aload_n hx hb dX11_odds_52 rfl (lv_at hl 1 rfl) ?_
            refine lv_iload_n hx hb dX11_odds_53 rfl (lv_at hl 3 rfl) ?_
            refine lv_aload hx hb dX11_odds_54 (lv_at hl 0 rfl) ?_
            obtain ⟨v23, g24, h⟩ := hq_bind h
            obtain ⟨fs_g24, hs_g24, hv_g24⟩ := gI_at g24
            refine hq_getN hx hb hts hown hE hI hs_g24 inG7 rfl 8 (by decide) kn_104 hv_g24 dX11_odds_56 ?_
            obtain ⟨g26, h⟩ := hq_g h
            obtain ⟨S27, g25, h⟩ := hq_bind h
            refine hq_callv hI (va_runV (As := [.int a2, .int v23]) (rest := []) ⟨hx, hb, hml, hown, hts⟩ (c_X11_setOdds l D kA ρ HB S20 a0 a2 v23 _ g25) (cwV 2 hts (gdIn (List.forall_mem_cons.mpr ⟨kw_644, (List.forall_mem_cons.mpr ⟨kw_646, (List.forall_mem_cons.mpr ⟨ks_19, (List.forall_mem_cons.mpr ⟨kw_1, (fun _ h => absurd h List.not_mem_nil)⟩)⟩)⟩)⟩) kw_647) rfl rfl rfl ye_X11_setOdds ⟨Nat.le_of_ble_eq_true rfl, Nat.le_of_ble_eq_true rfl⟩) (hq_preC hE hI g26 rfl _) rfl rfl hl.1 rfl (lv_room (Nat.le_of_ble_eq_true rfl)) dX11_odds_59 ⟨Nat.le_of_ble_eq_true rfl, Nat.le_of_ble_eq_true rfl⟩) (fun H locs hI => ?_)
            refine lv_iload hx hb dX11_odds_62 (lv_at hl 5 rfl) ?_
            refine lv_if_ne (tgt := 78) hx hb dX11_odds_64 (by decide) (fun c28 => ?_) (fun c28 => ?_)
            · have h := hq_f h c28
              refine lv_aload_n hx hb dX11_odds_78 rfl (lv_at hl 1 rfl) ?_
              obtain ⟨b29, g30, h⟩ := hq_bind h
              obtain ⟨fs_g30, hs_g30, hv_g30⟩ := gR_at g30
              refine hq_get hx hb hts hown hE hI hs_g30 inG11 rfl 8 (by decide) kw_140 hv_g30 dX11_odds_79 ?_
              refine lv_iload_n hx hb dX11_odds_82 rfl (lv_at hl 4 rfl) ?_
              obtain ⟨g32, h⟩ := hq_g h
              obtain ⟨v34, S33, g31, h⟩ := hq_bd2 h
              refine hq_calll hI (va_runV (As := [.int a3]) (rest := []) ⟨hx, hb, hml, hown, hts⟩ (c_X4_exactly l D kA ρ HB S27 b29 a3 _ g31) (cwV 1 hts (gdIn (List.forall_mem_cons.mpr ⟨kw_671, (List.forall_mem_cons.mpr ⟨kw_668, (List.forall_mem_cons.mpr ⟨kw_669, (List.forall_mem_cons.mpr ⟨kw_3, (fun _ h => absurd h List.not_mem_nil)⟩)⟩)⟩)⟩) kw_670) rfl rfl rfl ye_X4_exactly ⟨Nat.le_of_ble_eq_true rfl, Nat.le_of_ble_eq_true rfl⟩) (hq_preC hE hI g32 rfl _) rfl rfl hl.1 rfl (lv_room (Nat.le_of_ble_eq_true rfl)) dX11_odds_83 ⟨Nat.le_of_ble_eq_true rfl, Nat.le_of_ble_eq_true rfl⟩) (fun H locs hI => ?_)
              refine lv_aload_n hx hb dX11_odds_86 rfl (lv_at hl 1 rfl) ?_
              obtain ⟨b35, g36, h⟩ := hq_bind h
              obtain ⟨fs_g36, hs_g36, hv_g36⟩ := gR_at g36
              refine hq_get hx hb hts hown hE hI hs_g36 inG11 rfl 8 (by decide) kw_140 hv_g36 dX11_odds_87 ?_
              obtain ⟨v37, g38, h⟩ := hq_bind h
              obtain ⟨fs_g38, hs_g38, hv_g38⟩ := gL_at g38
              refine hq_getN hx hb hts hown hE hI hs_g38 inG4 rfl 2 (by decide) kn_62 hv_g38 dX11_odds_90 ?_
              refine lv_iload hx hb dX11_odds_93 (lv_at hl 6 rfl) ?_
              obtain ⟨v41, S40, g39, h⟩ := hq_bd2 h
              refine hq_calll hI (va_runS (As := [.long v34, .long v37, .int a5]) (rest := []) ⟨hx, hb, hml, hown, hts⟩ (c_X11_partOf l D kA ρ HB S33 v34 v37 a5 _ g39) (va_cwS 3 hts (gdIn (List.forall_mem_cons.mpr ⟨kw_624, (List.forall_mem_cons.mpr ⟨kw_625, (List.forall_mem_cons.mpr ⟨kw_1, (fun _ h => absurd h List.not_mem_nil)⟩)⟩)⟩) kw_626) rfl rfl rfl yd_X11_partOf ⟨Nat.le_of_ble_eq_true rfl, Nat.le_of_ble_eq_true rfl⟩) (hq_preS hE hI _) rfl rfl hl.1 rfl (lv_room (Nat.le_of_ble_eq_true rfl)) dX11_odds_95 ⟨Nat.le_of_ble_eq_true rfl, Nat.le_of_ble_eq_true rfl⟩) (fun H locs hI => ?_)
              exact hq_lret hx hb hr hlocks h0 hI h dX11_odds_98
            · have h := hq_t h c28
              refine lv_aload_n hx hb dX11_odds_67 rfl (lv_at hl 1 rfl) ?_
              obtain ⟨b42, g43, h⟩ := hq_bind h
              obtain ⟨fs_g43, hs_g43, hv_g43⟩ := gR_at g43
              refine hq_get hx hb hts hown hE hI hs_g43 inG11 rfl 8 (by decide) kw_140 hv_g43 dX11_odds_68 ?_
              refine lv_iload_n hx hb dX11_odds_71 rfl (lv_at hl 4 rfl) ?_
              obtain ⟨g45, h⟩ := hq_g h
              obtain ⟨v47, S46, g44, h⟩ := hq_bd2 h
              refine hq_calll hI (va_runV (As := [.int a3]) (rest := []) ⟨hx, hb, hml, hown, hts⟩ (c_X4_orMore l D kA ρ HB S27 b42 a3 _ g44) (cwV 1 hts (gdIn (List.forall_mem_cons.mpr ⟨kw_659, (List.forall_mem_cons.mpr ⟨kw_660, (List.forall_mem_cons.mpr ⟨kw_661, (List.forall_mem_cons.mpr ⟨kw_3, (fun _ h => absurd h List.not_mem_nil)⟩)⟩)⟩)⟩) kw_662) rfl rfl rfl ye_X4_orMore ⟨Nat.le_of_ble_eq_true rfl, Nat.le_of_ble_eq_true rfl⟩) (hq_preC hE hI g45 rfl _) rfl rfl hl.1 rfl (lv_room (Nat.le_of_ble_eq_true rfl)) dX11_odds_72 ⟨Nat.le_of_ble_eq_true rfl, Nat.le_of_ble_eq_true rfl⟩) (fun H locs hI => ?_)
              refine lv_goto (tgt := 86) hx hb dX11_odds_75 (by decide) ?_
              refine lv_aload_n hx hb dX11_odds_86 rfl (lv_at hl 1 rfl) ?_
              obtain ⟨b48, g49, h⟩ := hq_bind h
              obtain ⟨fs_g49, hs_g49, hv_g49⟩ := gR_at g49
              refine hq_get hx hb hts hown hE hI hs_g49 inG11 rfl 8 (by decide) kw_140 hv_g49 dX11_odds_87 ?_
              obtain ⟨v50, g51, h⟩ := hq_bind h
              obtain ⟨fs_g51, hs_g51, hv_g51⟩ := gL_at g51
              refine hq_getN hx hb hts hown hE hI hs_g51 inG4 rfl 2 (by decide) kn_62 hv_g51 dX11_odds_90 ?_
              refine lv_iload hx hb dX11_odds_93 (lv_at hl 6 rfl) ?_
              obtain ⟨v54, S53, g52, h⟩ := hq_bd2 h
              refine hq_calll hI (va_runS (As := [.long v47, .long v50, .int a5]) (rest := []) ⟨hx, hb, hml, hown, hts⟩ (c_X11_partOf l D kA ρ HB S46 v47 v50 a5 _ g52) (va_cwS 3 hts (gdIn (List.forall_mem_cons.mpr ⟨kw_624, (List.forall_mem_cons.mpr ⟨kw_625, (List.forall_mem_cons.mpr ⟨kw_1, (fun _ h => absurd h List.not_mem_nil)⟩)⟩)⟩) kw_626) rfl rfl rfl yd_X11_partOf ⟨Nat.le_of_ble_eq_true rfl, Nat.le_of_ble_eq_true rfl⟩) (hq_preS hE hI _) rfl rfl hl.1 rfl (lv_room (Nat.le_of_ble_eq_true rfl)) dX11_odds_95 ⟨Nat.le_of_ble_eq_true rfl, Nat.le_of_ble_eq_true rfl⟩) (fun H locs hI => ?_)
              exact hq_lret hx hb hr hlocks h0 hI h dX11_odds_98
          · have h := hq_f h c22
            refine lv_ldc2 (v := (-9223372036854775808)) hx hb hown (hts _ kw_617) dX11_odds_48 ?_
            exact hq_lret hx hb hr hlocks h0 hI h dX11_odds_51
        · have h := hq_t h c18
          refine lv_ldc2 (v := (-9223372036854775808)) hx hb hown (hts _ kw_617) dX11_odds_35 ?_
          exact hq_lret hx hb hr hlocks h0 hI h dX11_odds_38
-- RodDips.cannot(I)I
theorem dX11_cannot_0 : decode cX11_cannot 0 = .ok (.aload_n 0, 1) := by decide +kernel
theorem dX11_cannot_1 : decode cX11_cannot 1 = .ok (.iload_n 1, 1) := by decide +kernel
theorem dX11_cannot_2 : decode cX11_cannot 2 = .ok (.invokevirtual 229, 3) := by decide +kernel
theorem dX11_cannot_5 : decode cX11_cannot 5 = .ok (.astore_n 2, 1) := by decide +kernel
theorem dX11_cannot_6 : decode cX11_cannot 6 = .ok (.aload_n 2, 1) := by decide +kernel
theorem dX11_cannot_7 : decode cX11_cannot 7 = .ok (.ifnonnull 5, 3) := by decide +kernel
theorem dX11_cannot_10 : decode cX11_cannot 10 = .ok (.iconst (-1), 1) := by decide +kernel
theorem dX11_cannot_11 : decode cX11_cannot 11 = .ok (.ireturn, 1) := by decide +kernel
theorem dX11_cannot_12 : decode cX11_cannot 12 = .ok (.aload_n 0, 1) := by decide +kernel
theorem dX11_cannot_13 : decode cX11_cannot 13 = .ok (.aload_n 2, 1) := by decide +kernel
theorem dX11_cannot_14 : decode cX11_cannot 14 = .ok (.invokevirtual 240, 3) := by decide +kernel
theorem dX11_cannot_17 : decode cX11_cannot 17 = .ok (.istore_n 3, 1) := by decide +kernel
theorem dX11_cannot_18 : decode cX11_cannot 18 = .ok (.iconst 0, 1) := by decide +kernel
theorem dX11_cannot_19 : decode cX11_cannot 19 = .ok (.istore 4, 2) := by decide +kernel
theorem dX11_cannot_21 : decode cX11_cannot 21 = .ok (.iload 4, 2) := by decide +kernel
theorem dX11_cannot_23 : decode cX11_cannot 23 = .ok (.aload_n 0, 1) := by decide +kernel
theorem dX11_cannot_24 : decode cX11_cannot 24 = .ok (.getfield 21, 3) := by decide +kernel
theorem dX11_cannot_27 : decode cX11_cannot 27 = .ok (.if_icmp .ge 21, 3) := by decide +kernel
theorem dX11_cannot_30 : decode cX11_cannot 30 = .ok (.iload_n 3, 1) := by decide +kernel
theorem dX11_cannot_31 : decode cX11_cannot 31 = .ok (.iload 4, 2) := by decide +kernel
theorem dX11_cannot_33 : decode cX11_cannot 33 = .ok (.ishr, 1) := by decide +kernel
theorem dX11_cannot_34 : decode cX11_cannot 34 = .ok (.iconst 1, 1) := by decide +kernel
theorem dX11_cannot_35 : decode cX11_cannot 35 = .ok (.iand, 1) := by decide +kernel
theorem dX11_cannot_36 : decode cX11_cannot 36 = .ok (.ifCond .ne 6, 3) := by decide +kernel
theorem dX11_cannot_39 : decode cX11_cannot 39 = .ok (.iload 4, 2) := by decide +kernel
theorem dX11_cannot_41 : decode cX11_cannot 41 = .ok (.ireturn, 1) := by decide +kernel
theorem dX11_cannot_42 : decode cX11_cannot 42 = .ok (.iinc 4 1, 3) := by decide +kernel
theorem dX11_cannot_45 : decode cX11_cannot 45 = .ok (.goto (-24), 3) := by decide +kernel
theorem dX11_cannot_48 : decode cX11_cannot 48 = .ok (.bipush (-5), 2) := by decide +kernel
theorem dX11_cannot_50 : decode cX11_cannot 50 = .ok (.ireturn, 1) := by decide +kernel
def f_X11_cannot_K48 (S10 : HSt) : Option (Int32 × HSt) := some ((-5), S10)
def f_X11_cannot_B21 (a0 : Nat) (v9 : Int32) (kx48 : (HSt → Option (Int32 × HSt))) (kb21 : (Int32 → HSt → Option (Int32 × HSt))) (x11 : Int32) (S12 : HSt) : Option (Int32 × HSt) := (gI S12 a0 11 2).bind fun v13 => if v13 ≤ x11 then (kx48 S12) else (if ((v9 >>> (x11 &&& 31)) &&& 1) = 0 then (some (x11, S12)) else (kb21 (x11 + 1) S12))
def f_X11_cannot_L21 (a0 : Nat) (v9 : Int32) (kx48 : (HSt → Option (Int32 × HSt))) : Nat → Int32 → HSt → Option (Int32 × HSt)
  | 0, _, _ => none
  | n + 1, x11, S => f_X11_cannot_B21 a0 v9 kx48 (f_X11_cannot_L21 a0 v9 kx48 n) x11 S
def f_X11_cannot (S : HSt) (a0 : Nat) (a1 : Int32) : Option (Int32 × HSt) := if gC S a0 = some 11 then (bd2 (f_X11_lawAt S a0 a1) fun b4 S3 => oC b4 (some ((-1), S3)) fun r5 => if gC S3 a0 = some 11 then (bd2 (f_X11_bitsThatLawHas S3 a0 r5) fun v9 S8 => (f_X11_cannot_L21 a0 v9 f_X11_cannot_K48 FU) 0 S8) else none) else none
abbrev rm_X11_cannot : Room := { frames := 5, cells := 0, slots := 0, locals := 123 }
abbrev w_X11_cannot : List Cond := Cond.code yX11_cannot cX11_cannot 5 (Option.some FieldType.int) :: lwG
theorem yd_X11_cannot : yX11_cannot.cls ≠ "java/lang/invoke/MethodHandle" ∧ yX11_cannot.cls ≠ "java/lang/invoke/VarHandle" ∧ (parseMethodDescriptor yX11_cannot.desc).map (fun d => d.parameters.length) = some 1 := by decide +kernel
theorem ye_X11_cannot : yX11_cannot.cls = RX11 ∧ yX11_cannot.cls ≠ "java/lang/invoke/MethodHandle" ∧ yX11_cannot.cls ≠ "java/lang/invoke/VarHandle" ∧ (parseMethodDescriptor yX11_cannot.desc).map (fun d => d.parameters.length) = some 1 := by decide +kernel
set_option maxHeartbeats 4000000 in
set_option maxRecDepth 100000 in
theorem c_X11_cannot (l : Launch) (D : va_G) (kA ρ : Nat → Nat) (HB : Heap) (S : HSt) (a0 : Nat) (a1 : Int32) (res : Int32 × HSt) (h : f_X11_cannot S a0 a1 = some res) : Met l yX11_cannot w_X11_cannot rm_X11_cannot (hPc D kA ρ HB S [.ref a0, .int a1]) (hQi D kA HB S res) 0 0 (hFree HB) := by
  refine Met.ofW (cc := cX11_cannot) (maxL := 5) (ret := (Option.some FieldType.int)) (by decide) rfl ?_
  intro p e s m args below meth c s₁ B hml hv
  obtain ⟨rfl, hE, h0⟩ := hv
  have hx := B.exec
  have hb := B.bytes
  have hr := B.returns
  have hts0 := atoms_spec (ws := w_X11_cannot) B.pre
  have hts : ∀ w ∈ lwG, w.before _ s = true := fun w hw => hts0 w (List.mem_cons_of_mem _ hw)
  have hown : s.vm.findClass RX11 = some m.cls := findClass_of_methodNamed B.named
  have hlocks := B.notSynchronized
  have hI : hqX D kA HB S.2 S s.heap [] := ⟨h0, Nat.le_refl _, fun _ q => absurd q List.not_mem_nil⟩
  have hl := lv_entry ([.ref a0, .int a1]) (n := 5) (Nat.le_of_ble_eq_true rfl)
  rw [lg_entry_eq]
  generalize (lg_sl ([.ref a0, .int a1]) ++ List.replicate (5 - (lg_sl ([.ref a0, .int a1])).length) Slot.unset).toArray = ls at hl ⊢
  have hl : lv_has ls 5 [(0, .ref a0), (1, .int a1)] := hl
  unfold f_X11_cannot at h
  refine lv_aload_n hx hb dX11_cannot_0 rfl (lv_at hl 0 rfl) ?_
  refine lv_iload_n hx hb dX11_cannot_1 rfl (lv_at hl 1 rfl) ?_
  obtain ⟨g2, h⟩ := hq_g h
  obtain ⟨b4, S3, g1, h⟩ := hq_bd2 h
  refine hq_callq hI (va_runV (As := [.int a1]) (rest := []) ⟨hx, hb, hml, hown, hts⟩ (c_X11_lawAt l D kA ρ HB S a0 a1 _ g1) (cwV 1 hts (gdIn (List.forall_mem_cons.mpr ⟨kw_725, (List.forall_mem_cons.mpr ⟨kw_727, (List.forall_mem_cons.mpr ⟨ks_26, (List.forall_mem_cons.mpr ⟨kw_1, (fun _ h => absurd h List.not_mem_nil)⟩)⟩)⟩)⟩) kw_728) rfl rfl rfl ye_X11_lawAt ⟨Nat.le_of_ble_eq_true rfl, Nat.le_of_ble_eq_true rfl⟩) (hq_preC hE hI g2 rfl _) rfl rfl hl.1 rfl (lv_room (Nat.le_of_ble_eq_true rfl)) dX11_cannot_2 ⟨Nat.le_of_ble_eq_true rfl, Nat.le_of_ble_eq_true rfl⟩) (fun H locs hI => ?_)
  rcases b4 with _ | r5
  · have h := oC_n h
    refine lv_astore_nN (lv' := [(2, .null), (0, .ref a0), (1, .int a1)]) hx hb dX11_cannot_5 rfl hl (by decide) rfl (fun ls hl => ?_)
    refine lv_aload_nN hx hb dX11_cannot_6 rfl (lv_at hl 0 rfl) ?_
    refine lv_ifnonnullN hx hb dX11_cannot_7 ?_
    refine lv_iconst (v := (-1)) hx hb dX11_cannot_10 (by decide) ?_
    exact hq_iret hx hb hr hlocks h0 hI h dX11_cannot_11
  · have h := oC_s h
    refine lv_astore_n (lv' := [(2, .ref r5), (0, .ref a0), (1, .int a1)]) hx hb dX11_cannot_5 rfl hl (by decide) rfl (fun ls hl => ?_)
    refine lv_aload_n hx hb dX11_cannot_6 rfl (lv_at hl 0 rfl) ?_
    refine lv_ifnonnull (tgt := 12) hx hb dX11_cannot_7 (by decide) ?_
    refine lv_aload_n hx hb dX11_cannot_12 rfl (lv_at hl 1 rfl) ?_
    refine lv_aload_n hx hb dX11_cannot_13 rfl (lv_at hl 0 rfl) ?_
    obtain ⟨g7, h⟩ := hq_g h
    obtain ⟨v9, S8, g6, h⟩ := hq_bd2 h
    refine hq_calli hI (va_runV (As := [.ref r5]) (rest := []) ⟨hx, hb, hml, hown, hts⟩ (c_X11_bitsThatLawHas l D kA ρ HB S3 a0 r5 _ g6) (cwV 1 hts (gdIn (List.forall_mem_cons.mpr ⟨kw_743, (List.forall_mem_cons.mpr ⟨kw_745, (List.forall_mem_cons.mpr ⟨ks_28, (List.forall_mem_cons.mpr ⟨kw_1, (fun _ h => absurd h List.not_mem_nil)⟩)⟩)⟩)⟩) kw_746) rfl rfl rfl ye_X11_bitsThatLawHas ⟨Nat.le_of_ble_eq_true rfl, Nat.le_of_ble_eq_true rfl⟩) (hq_preC hE hI g7 rfl _) rfl rfl hl.1 rfl (lv_room (Nat.le_of_ble_eq_true rfl)) dX11_cannot_14 ⟨Nat.le_of_ble_eq_true rfl, Nat.le_of_ble_eq_true rfl⟩) (fun H locs hI => ?_)
    refine lv_istore_n (lv' := [(3, .int v9), (2, .ref r5), (0, .ref a0), (1, .int a1)]) hx hb dX11_cannot_17 rfl hl (by decide) rfl (fun ls hl => ?_)
    refine lv_iconst (v := 0) hx hb dX11_cannot_18 (by decide) ?_
    refine lv_istore (lv' := [(4, .int 0), (3, .int v9), (2, .ref r5), (0, .ref a0), (1, .int a1)]) hx hb dX11_cannot_19 hl (by decide) rfl (fun ls hl => ?_)
    have hK48 : ∀ (S10 : HSt) (H : Heap) (locs : List Loc) (ls : Array Slot), f_X11_cannot_K48 S10 = some res → hqX D kA HB S.2 S10 H locs → lv_has ls 5 [] → W p l e rm_X11_cannot s m ([.ref a0, .int a1] : List Value).toArray below meth c H locs 0 0 (MQ below (hQi D kA HB S res) ([.ref a0, .int a1] : List Value).toArray s 0 0 (hFree HB)) (F0 m 48 ls []) := by
      intro S10 H locs ls h hI hl
      unfold f_X11_cannot_K48 at h
      refine lv_bipush (v := (-5)) hx hb dX11_cannot_48 (by decide) ?_
      exact hq_iret hx hb hr hlocks h0 hI h dX11_cannot_50
    have hL21 : ∀ (n21 : Nat) (x11 : Int32) (S12 : HSt) (H : Heap) (locs : List Loc) (ls : Array Slot), (f_X11_cannot_L21 a0 v9 f_X11_cannot_K48 n21) x11 S12 = some res → hqX D kA HB S.2 S12 H locs → lv_has ls 5 [(0, .ref a0), (3, .int v9), (4, .int x11)] → W p l e rm_X11_cannot s m ([.ref a0, .int a1] : List Value).toArray below meth c H locs 0 0 (MQ below (hQi D kA HB S res) ([.ref a0, .int a1] : List Value).toArray s 0 0 (hFree HB)) (F0 m 21 ls []) := by
      intro n21
      induction n21 with
      | zero =>
        intro x11 S12 H locs ls h
        have h : (none : Option (Int32 × HSt)) = some res := h
        cases h
      | succ n21 ih21 =>
        intro x11 S12 H locs ls h hI hl
        have h : f_X11_cannot_B21 a0 v9 f_X11_cannot_K48 (f_X11_cannot_L21 a0 v9 f_X11_cannot_K48 n21) x11 S12 = some res := h
        unfold f_X11_cannot_B21 at h
        refine lv_iload hx hb dX11_cannot_21 (lv_at hl 2 rfl) ?_
        refine lv_aload_n hx hb dX11_cannot_23 rfl (lv_at hl 0 rfl) ?_
        obtain ⟨v13, g14, h⟩ := hq_bind h
        obtain ⟨fs_g14, hs_g14, hv_g14⟩ := gI_at g14
        refine hq_get hx hb hts hown hE hI hs_g14 inG11 rfl 2 (by decide) kw_134 hv_g14 dX11_cannot_24 ?_
        refine lv_icmp_ge (tgt := 48) hx hb dX11_cannot_27 (by decide) (fun c15 => ?_) (fun c15 => ?_)
        · have h := hq_t h c15
          exact hK48 S12 _ _ _ h hI (lv_sub hl [] rfl)
        · have h := hq_f h c15
          refine lv_iload_n hx hb dX11_cannot_30 rfl (lv_at hl 1 rfl) ?_
          refine lv_iload hx hb dX11_cannot_31 (lv_at hl 2 rfl) ?_
          refine lv_ishr hx hb dX11_cannot_33 ?_
          refine lv_iconst (v := 1) hx hb dX11_cannot_34 (by decide) ?_
          refine lv_iand hx hb dX11_cannot_35 ?_
          refine lv_if_ne (tgt := 42) hx hb dX11_cannot_36 (by decide) (fun c16 => ?_) (fun c16 => ?_)
          · have h := hq_f h c16
            refine lv_iinc (v := (x11 + 1)) (lv' := [(4, .int (x11 + 1)), (0, .ref a0), (3, .int v9)]) hx hb dX11_cannot_42 hl (k := 2) rfl rfl (by decide) rfl (fun ls hl => ?_)
            refine lv_goto (tgt := 21) hx hb dX11_cannot_45 (by decide) ?_
            exact ih21 (x11 + 1) S12 _ _ _ h hI (lv_sub hl [1, 2, 0] rfl)
          · have h := hq_t h c16
            refine lv_iload hx hb dX11_cannot_39 (lv_at hl 2 rfl) ?_
            exact hq_iret hx hb hr hlocks h0 hI h dX11_cannot_41
    exact hL21 FU 0 S8 _ _ _ h hI (lv_sub hl [3, 1, 0] rfl)
-- RodDips.fits(II)I
theorem dX11_fits_0 : decode cX11_fits 0 = .ok (.aload_n 0, 1) := by decide +kernel
theorem dX11_fits_1 : decode cX11_fits 1 = .ok (.iload_n 1, 1) := by decide +kernel
theorem dX11_fits_2 : decode cX11_fits 2 = .ok (.invokevirtual 229, 3) := by decide +kernel
theorem dX11_fits_5 : decode cX11_fits 5 = .ok (.astore_n 3, 1) := by decide +kernel
theorem dX11_fits_6 : decode cX11_fits 6 = .ok (.aload_n 3, 1) := by decide +kernel
theorem dX11_fits_7 : decode cX11_fits 7 = .ok (.ifnonnull 5, 3) := by decide +kernel
theorem dX11_fits_10 : decode cX11_fits 10 = .ok (.iconst (-1), 1) := by decide +kernel
theorem dX11_fits_11 : decode cX11_fits 11 = .ok (.ireturn, 1) := by decide +kernel
theorem dX11_fits_12 : decode cX11_fits 12 = .ok (.aload_n 0, 1) := by decide +kernel
theorem dX11_fits_13 : decode cX11_fits 13 = .ok (.iload_n 2, 1) := by decide +kernel
theorem dX11_fits_14 : decode cX11_fits 14 = .ok (.invokevirtual 176, 3) := by decide +kernel
theorem dX11_fits_17 : decode cX11_fits 17 = .ok (.ifCond .ne 6, 3) := by decide +kernel
theorem dX11_fits_20 : decode cX11_fits 20 = .ok (.bipush (-2), 2) := by decide +kernel
theorem dX11_fits_22 : decode cX11_fits 22 = .ok (.ireturn, 1) := by decide +kernel
theorem dX11_fits_23 : decode cX11_fits 23 = .ok (.aload_n 0, 1) := by decide +kernel
theorem dX11_fits_24 : decode cX11_fits 24 = .ok (.aload_n 3, 1) := by decide +kernel
theorem dX11_fits_25 : decode cX11_fits 25 = .ok (.invokevirtual 240, 3) := by decide +kernel
theorem dX11_fits_28 : decode cX11_fits 28 = .ok (.iload_n 2, 1) := by decide +kernel
theorem dX11_fits_29 : decode cX11_fits 29 = .ok (.iand, 1) := by decide +kernel
theorem dX11_fits_30 : decode cX11_fits 30 = .ok (.invokestatic 185, 3) := by decide +kernel
theorem dX11_fits_33 : decode cX11_fits 33 = .ok (.ireturn, 1) := by decide +kernel
def f_X11_fits (S : HSt) (a0 : Nat) (a1 : Int32) (a2 : Int32) : Option (Int32 × HSt) := if gC S a0 = some 11 then (bd2 (f_X11_lawAt S a0 a1) fun b4 S3 => oC b4 (some ((-1), S3)) fun r5 => if gC S3 a0 = some 11 then (bd2 (f_X11_isSet S3 a0 a2) fun v9 S8 => if v9 = 0 then (some ((-2), S8)) else (if gC S8 a0 = some 11 then (bd2 (f_X11_bitsThatLawHas S8 a0 r5) fun v14 S13 => bd2 (f_J6_bitCount_0f7a4 S13 (v14 &&& a2)) fun v17 S16 => some (v17, S16)) else none)) else none) else none
abbrev rm_X11_fits : Room := { frames := 5, cells := 0, slots := 0, locals := 123 }
abbrev w_X11_fits : List Cond := Cond.code yX11_fits cX11_fits 4 (Option.some FieldType.int) :: lwG
theorem yd_X11_fits : yX11_fits.cls ≠ "java/lang/invoke/MethodHandle" ∧ yX11_fits.cls ≠ "java/lang/invoke/VarHandle" ∧ (parseMethodDescriptor yX11_fits.desc).map (fun d => d.parameters.length) = some 2 := by decide +kernel
theorem ye_X11_fits : yX11_fits.cls = RX11 ∧ yX11_fits.cls ≠ "java/lang/invoke/MethodHandle" ∧ yX11_fits.cls ≠ "java/lang/invoke/VarHandle" ∧ (parseMethodDescriptor yX11_fits.desc).map (fun d => d.parameters.length) = some 2 := by decide +kernel
set_option maxHeartbeats 4000000 in
set_option maxRecDepth 100000 in
theorem c_X11_fits (l : Launch) (D : va_G) (kA ρ : Nat → Nat) (HB : Heap) (S : HSt) (a0 : Nat) (a1 : Int32) (a2 : Int32) (res : Int32 × HSt) (h : f_X11_fits S a0 a1 a2 = some res) : Met l yX11_fits w_X11_fits rm_X11_fits (hPc D kA ρ HB S [.ref a0, .int a1, .int a2]) (hQi D kA HB S res) 0 0 (hFree HB) := by
  refine Met.ofW (cc := cX11_fits) (maxL := 4) (ret := (Option.some FieldType.int)) (by decide) rfl ?_
  intro p e s m args below meth c s₁ B hml hv
  obtain ⟨rfl, hE, h0⟩ := hv
  have hx := B.exec
  have hb := B.bytes
  have hr := B.returns
  have hts0 := atoms_spec (ws := w_X11_fits) B.pre
  have hts : ∀ w ∈ lwG, w.before _ s = true := fun w hw => hts0 w (List.mem_cons_of_mem _ hw)
  have hown : s.vm.findClass RX11 = some m.cls := findClass_of_methodNamed B.named
  have hlocks := B.notSynchronized
  have hI : hqX D kA HB S.2 S s.heap [] := ⟨h0, Nat.le_refl _, fun _ q => absurd q List.not_mem_nil⟩
  have hl := lv_entry ([.ref a0, .int a1, .int a2]) (n := 4) (Nat.le_of_ble_eq_true rfl)
  rw [lg_entry_eq]
  generalize (lg_sl ([.ref a0, .int a1, .int a2]) ++ List.replicate (4 - (lg_sl ([.ref a0, .int a1, .int a2])).length) Slot.unset).toArray = ls at hl ⊢
  have hl : lv_has ls 4 [(0, .ref a0), (1, .int a1), (2, .int a2)] := hl
  unfold f_X11_fits at h
  refine lv_aload_n hx hb dX11_fits_0 rfl (lv_at hl 0 rfl) ?_
  refine lv_iload_n hx hb dX11_fits_1 rfl (lv_at hl 1 rfl) ?_
  obtain ⟨g2, h⟩ := hq_g h
  obtain ⟨b4, S3, g1, h⟩ := hq_bd2 h
  refine hq_callq hI (va_runV (As := [.int a1]) (rest := []) ⟨hx, hb, hml, hown, hts⟩ (c_X11_lawAt l D kA ρ HB S a0 a1 _ g1) (cwV 1 hts (gdIn (List.forall_mem_cons.mpr ⟨kw_725, (List.forall_mem_cons.mpr ⟨kw_727, (List.forall_mem_cons.mpr ⟨ks_26, (List.forall_mem_cons.mpr ⟨kw_1, (fun _ h => absurd h List.not_mem_nil)⟩)⟩)⟩)⟩) kw_728) rfl rfl rfl ye_X11_lawAt ⟨Nat.le_of_ble_eq_true rfl, Nat.le_of_ble_eq_true rfl⟩) (hq_preC hE hI g2 rfl _) rfl rfl hl.1 rfl (lv_room (Nat.le_of_ble_eq_true rfl)) dX11_fits_2 ⟨Nat.le_of_ble_eq_true rfl, Nat.le_of_ble_eq_true rfl⟩) (fun H locs hI => ?_)
  rcases b4 with _ | r5
  · have h := oC_n h
    refine lv_astore_nN (lv' := [(3, .null), (0, .ref a0), (1, .int a1), (2, .int a2)]) hx hb dX11_fits_5 rfl hl (by decide) rfl (fun ls hl => ?_)
    refine lv_aload_nN hx hb dX11_fits_6 rfl (lv_at hl 0 rfl) ?_
    refine lv_ifnonnullN hx hb dX11_fits_7 ?_
    refine lv_iconst (v := (-1)) hx hb dX11_fits_10 (by decide) ?_
    exact hq_iret hx hb hr hlocks h0 hI h dX11_fits_11
  · have h := oC_s h
    refine lv_astore_n (lv' := [(3, .ref r5), (0, .ref a0), (1, .int a1), (2, .int a2)]) hx hb dX11_fits_5 rfl hl (by decide) rfl (fun ls hl => ?_)
    refine lv_aload_n hx hb dX11_fits_6 rfl (lv_at hl 0 rfl) ?_
    refine lv_ifnonnull (tgt := 12) hx hb dX11_fits_7 (by decide) ?_
    refine lv_aload_n hx hb dX11_fits_12 rfl (lv_at hl 1 rfl) ?_
    refine lv_iload_n hx hb dX11_fits_13 rfl (lv_at hl 3 rfl) ?_
    obtain ⟨g7, h⟩ := hq_g h
    obtain ⟨v9, S8, g6, h⟩ := hq_bd2 h
    refine hq_calli hI (va_runV (As := [.int a2]) (rest := []) ⟨hx, hb, hml, hown, hts⟩ (c_X11_isSet l D kA ρ HB S3 a0 a2 _ g6) (cwV 1 hts (gdIn (List.forall_mem_cons.mpr ⟨kw_637, (List.forall_mem_cons.mpr ⟨kw_639, (List.forall_mem_cons.mpr ⟨ks_18, (List.forall_mem_cons.mpr ⟨kw_1, (fun _ h => absurd h List.not_mem_nil)⟩)⟩)⟩)⟩) kw_640) rfl rfl rfl ye_X11_isSet ⟨Nat.le_of_ble_eq_true rfl, Nat.le_of_ble_eq_true rfl⟩) (hq_preC hE hI g7 rfl _) rfl rfl hl.1 rfl (lv_room (Nat.le_of_ble_eq_true rfl)) dX11_fits_14 ⟨Nat.le_of_ble_eq_true rfl, Nat.le_of_ble_eq_true rfl⟩) (fun H locs hI => ?_)
    refine lv_if_ne (tgt := 23) hx hb dX11_fits_17 (by decide) (fun c10 => ?_) (fun c10 => ?_)
    · have h := hq_f h c10
      refine lv_aload_n hx hb dX11_fits_23 rfl (lv_at hl 1 rfl) ?_
      refine lv_aload_n hx hb dX11_fits_24 rfl (lv_at hl 0 rfl) ?_
      obtain ⟨g12, h⟩ := hq_g h
      obtain ⟨v14, S13, g11, h⟩ := hq_bd2 h
      refine hq_calli hI (va_runV (As := [.ref r5]) (rest := []) ⟨hx, hb, hml, hown, hts⟩ (c_X11_bitsThatLawHas l D kA ρ HB S8 a0 r5 _ g11) (cwV 1 hts (gdIn (List.forall_mem_cons.mpr ⟨kw_743, (List.forall_mem_cons.mpr ⟨kw_745, (List.forall_mem_cons.mpr ⟨ks_28, (List.forall_mem_cons.mpr ⟨kw_1, (fun _ h => absurd h List.not_mem_nil)⟩)⟩)⟩)⟩) kw_746) rfl rfl rfl ye_X11_bitsThatLawHas ⟨Nat.le_of_ble_eq_true rfl, Nat.le_of_ble_eq_true rfl⟩) (hq_preC hE hI g12 rfl _) rfl rfl hl.1 rfl (lv_room (Nat.le_of_ble_eq_true rfl)) dX11_fits_25 ⟨Nat.le_of_ble_eq_true rfl, Nat.le_of_ble_eq_true rfl⟩) (fun H locs hI => ?_)
      refine lv_iload_n hx hb dX11_fits_28 rfl (lv_at hl 3 rfl) ?_
      refine lv_iand hx hb dX11_fits_29 ?_
      obtain ⟨v17, S16, g15, h⟩ := hq_bd2 h
      refine hq_calli hI (va_runS (As := [.int (v14 &&& a2)]) (rest := []) ⟨hx, hb, hml, hown, hts⟩ (c_J6_bitCount_0f7a4 l D kA ρ HB S13 (v14 &&& a2) _ g15) (va_cwS 1 hts (gdIn (List.forall_mem_cons.mpr ⟨kw_607, (List.forall_mem_cons.mpr ⟨kw_608, (List.forall_mem_cons.mpr ⟨kw_20, (fun _ h => absurd h List.not_mem_nil)⟩)⟩)⟩) kw_609) rfl rfl rfl yd_J6_bitCount_0f7a4 ⟨Nat.le_of_ble_eq_true rfl, Nat.le_of_ble_eq_true rfl⟩) (hq_preS hE hI _) rfl rfl hl.1 rfl (lv_room (Nat.le_of_ble_eq_true rfl)) dX11_fits_30 ⟨Nat.le_of_ble_eq_true rfl, Nat.le_of_ble_eq_true rfl⟩) (fun H locs hI => ?_)
      exact hq_iret hx hb hr hlocks h0 hI h dX11_fits_33
    · have h := hq_t h c10
      refine lv_bipush (v := (-2)) hx hb dX11_fits_20 (by decide) ?_
      exact hq_iret hx hb hr hlocks h0 hI h dX11_fits_22
-- RodDips.let(I)I
theorem dX11_let_0 : decode cX11_let 0 = .ok (.aload_n 0, 1) := by decide +kernel
theorem dX11_let_1 : decode cX11_let 1 = .ok (.iload_n 1, 1) := by decide +kernel
theorem dX11_let_2 : decode cX11_let 2 = .ok (.invokevirtual 176, 3) := by decide +kernel
theorem dX11_let_5 : decode cX11_let 5 = .ok (.ifCond .ne 6, 3) := by decide +kernel
theorem dX11_let_8 : decode cX11_let 8 = .ok (.bipush (-2), 2) := by decide +kernel
theorem dX11_let_10 : decode cX11_let 10 = .ok (.ireturn, 1) := by decide +kernel
theorem dX11_let_11 : decode cX11_let 11 = .ok (.iconst 0, 1) := by decide +kernel
theorem dX11_let_12 : decode cX11_let 12 = .ok (.istore_n 2, 1) := by decide +kernel
theorem dX11_let_13 : decode cX11_let 13 = .ok (.iconst 0, 1) := by decide +kernel
theorem dX11_let_14 : decode cX11_let 14 = .ok (.istore_n 3, 1) := by decide +kernel
theorem dX11_let_15 : decode cX11_let 15 = .ok (.iload_n 3, 1) := by decide +kernel
theorem dX11_let_16 : decode cX11_let 16 = .ok (.aload_n 0, 1) := by decide +kernel
theorem dX11_let_17 : decode cX11_let 17 = .ok (.getfield 43, 3) := by decide +kernel
theorem dX11_let_20 : decode cX11_let 20 = .ok (.if_icmp .ge 40, 3) := by decide +kernel
theorem dX11_let_23 : decode cX11_let 23 = .ok (.aload_n 0, 1) := by decide +kernel
theorem dX11_let_24 : decode cX11_let 24 = .ok (.iload_n 3, 1) := by decide +kernel
theorem dX11_let_25 : decode cX11_let 25 = .ok (.invokevirtual 229, 3) := by decide +kernel
theorem dX11_let_28 : decode cX11_let 28 = .ok (.astore 4, 2) := by decide +kernel
theorem dX11_let_30 : decode cX11_let 30 = .ok (.aload 4, 2) := by decide +kernel
theorem dX11_let_32 : decode cX11_let 32 = .ok (.ifnull 22, 3) := by decide +kernel
theorem dX11_let_35 : decode cX11_let 35 = .ok (.iload_n 1, 1) := by decide +kernel
theorem dX11_let_36 : decode cX11_let 36 = .ok (.aload_n 0, 1) := by decide +kernel
theorem dX11_let_37 : decode cX11_let 37 = .ok (.aload 4, 2) := by decide +kernel
theorem dX11_let_39 : decode cX11_let 39 = .ok (.invokevirtual 240, 3) := by decide +kernel
theorem dX11_let_42 : decode cX11_let 42 = .ok (.iconst (-1), 1) := by decide +kernel
theorem dX11_let_43 : decode cX11_let 43 = .ok (.ixor, 1) := by decide +kernel
theorem dX11_let_44 : decode cX11_let 44 = .ok (.iand, 1) := by decide +kernel
theorem dX11_let_45 : decode cX11_let 45 = .ok (.ifCond .ne 9, 3) := by decide +kernel
theorem dX11_let_48 : decode cX11_let 48 = .ok (.iload_n 2, 1) := by decide +kernel
theorem dX11_let_49 : decode cX11_let 49 = .ok (.iconst 1, 1) := by decide +kernel
theorem dX11_let_50 : decode cX11_let 50 = .ok (.iload_n 3, 1) := by decide +kernel
theorem dX11_let_51 : decode cX11_let 51 = .ok (.ishl, 1) := by decide +kernel
theorem dX11_let_52 : decode cX11_let 52 = .ok (.ior, 1) := by decide +kernel
theorem dX11_let_53 : decode cX11_let 53 = .ok (.istore_n 2, 1) := by decide +kernel
theorem dX11_let_54 : decode cX11_let 54 = .ok (.iinc 3 1, 3) := by decide +kernel
theorem dX11_let_57 : decode cX11_let 57 = .ok (.goto (-42), 3) := by decide +kernel
theorem dX11_let_60 : decode cX11_let 60 = .ok (.iload_n 2, 1) := by decide +kernel
theorem dX11_let_61 : decode cX11_let 61 = .ok (.ireturn, 1) := by decide +kernel
def f_X11_let_K60 (x6 : Int32) (S7 : HSt) : Option (Int32 × HSt) := some (x6, S7)
def f_X11_let_B15 (a0 : Nat) (a1 : Int32) (kx60 : (Int32 → HSt → Option (Int32 × HSt))) (kb15 : (Int32 → Int32 → HSt → Option (Int32 × HSt))) (x8 : Int32) (x9 : Int32) (S10 : HSt) : Option (Int32 × HSt) := (gI S10 a0 11 7).bind fun v11 => if v11 ≤ x9 then (kx60 x8 S10) else (if gC S10 a0 = some 11 then (bd2 (f_X11_lawAt S10 a0 x9) fun b17 S16 => oC b17 (kb15 x8 (x9 + 1) S16) fun r18 => if gC S16 a0 = some 11 then (bd2 (f_X11_bitsThatLawHas S16 a0 r18) fun v22 S21 => if (a1 &&& (v22 ^^^ (-1))) = 0 then (kb15 (x8 ||| (1 <<< (x9 &&& 31))) (x9 + 1) S21) else (kb15 x8 (x9 + 1) S21)) else none) else none)
def f_X11_let_L15 (a0 : Nat) (a1 : Int32) (kx60 : (Int32 → HSt → Option (Int32 × HSt))) : Nat → Int32 → Int32 → HSt → Option (Int32 × HSt)
  | 0, _, _, _ => none
  | n + 1, x8, x9, S => f_X11_let_B15 a0 a1 kx60 (f_X11_let_L15 a0 a1 kx60 n) x8 x9 S
def f_X11_let (S : HSt) (a0 : Nat) (a1 : Int32) : Option (Int32 × HSt) := if gC S a0 = some 11 then (bd2 (f_X11_isSet S a0 a1) fun v4 S3 => if v4 = 0 then (some ((-2), S3)) else ((f_X11_let_L15 a0 a1 f_X11_let_K60 FU) 0 0 S3)) else none
abbrev rm_X11_let : Room := { frames := 5, cells := 0, slots := 0, locals := 123 }
abbrev w_X11_let : List Cond := Cond.code yX11_let cX11_let 5 (Option.some FieldType.int) :: lwG
theorem yd_X11_let : yX11_let.cls ≠ "java/lang/invoke/MethodHandle" ∧ yX11_let.cls ≠ "java/lang/invoke/VarHandle" ∧ (parseMethodDescriptor yX11_let.desc).map (fun d => d.parameters.length) = some 1 := by decide +kernel
theorem ye_X11_let : yX11_let.cls = RX11 ∧ yX11_let.cls ≠ "java/lang/invoke/MethodHandle" ∧ yX11_let.cls ≠ "java/lang/invoke/VarHandle" ∧ (parseMethodDescriptor yX11_let.desc).map (fun d => d.parameters.length) = some 1 := by decide +kernel
set_option maxHeartbeats 4000000 in
set_option maxRecDepth 100000 in
theorem c_X11_let (l : Launch) (D : va_G) (kA ρ : Nat → Nat) (HB : Heap) (S : HSt) (a0 : Nat) (a1 : Int32) (res : Int32 × HSt) (h : f_X11_let S a0 a1 = some res) : Met l yX11_let w_X11_let rm_X11_let (hPc D kA ρ HB S [.ref a0, .int a1]) (hQi D kA HB S res) 0 0 (hFree HB) := by
  refine Met.ofW (cc := cX11_let) (maxL := 5) (ret := (Option.some FieldType.int)) (by decide) rfl ?_
  intro p e s m args below meth c s₁ B hml hv
  obtain ⟨rfl, hE, h0⟩ := hv
  have hx := B.exec
  have hb := B.bytes
  have hr := B.returns
  have hts0 := atoms_spec (ws := w_X11_let) B.pre
  have hts : ∀ w ∈ lwG, w.before _ s = true := fun w hw => hts0 w (List.mem_cons_of_mem _ hw)
  have hown : s.vm.findClass RX11 = some m.cls := findClass_of_methodNamed B.named
  have hlocks := B.notSynchronized
  have hI : hqX D kA HB S.2 S s.heap [] := ⟨h0, Nat.le_refl _, fun _ q => absurd q List.not_mem_nil⟩
  have hl := lv_entry ([.ref a0, .int a1]) (n := 5) (Nat.le_of_ble_eq_true rfl)
  rw [lg_entry_eq]
  generalize (lg_sl ([.ref a0, .int a1]) ++ List.replicate (5 - (lg_sl ([.ref a0, .int a1])).length) Slot.unset).toArray = ls at hl ⊢
  have hl : lv_has ls 5 [(0, .ref a0), (1, .int a1)] := hl
  unfold f_X11_let at h
  refine lv_aload_n hx hb dX11_let_0 rfl (lv_at hl 0 rfl) ?_
  refine lv_iload_n hx hb dX11_let_1 rfl (lv_at hl 1 rfl) ?_
  obtain ⟨g2, h⟩ := hq_g h
  obtain ⟨v4, S3, g1, h⟩ := hq_bd2 h
  refine hq_calli hI (va_runV (As := [.int a1]) (rest := []) ⟨hx, hb, hml, hown, hts⟩ (c_X11_isSet l D kA ρ HB S a0 a1 _ g1) (cwV 1 hts (gdIn (List.forall_mem_cons.mpr ⟨kw_637, (List.forall_mem_cons.mpr ⟨kw_639, (List.forall_mem_cons.mpr ⟨ks_18, (List.forall_mem_cons.mpr ⟨kw_1, (fun _ h => absurd h List.not_mem_nil)⟩)⟩)⟩)⟩) kw_640) rfl rfl rfl ye_X11_isSet ⟨Nat.le_of_ble_eq_true rfl, Nat.le_of_ble_eq_true rfl⟩) (hq_preC hE hI g2 rfl _) rfl rfl hl.1 rfl (lv_room (Nat.le_of_ble_eq_true rfl)) dX11_let_2 ⟨Nat.le_of_ble_eq_true rfl, Nat.le_of_ble_eq_true rfl⟩) (fun H locs hI => ?_)
  refine lv_if_ne (tgt := 11) hx hb dX11_let_5 (by decide) (fun c5 => ?_) (fun c5 => ?_)
  · have h := hq_f h c5
    refine lv_iconst (v := 0) hx hb dX11_let_11 (by decide) ?_
    refine lv_istore_n (lv' := [(2, .int 0), (0, .ref a0), (1, .int a1)]) hx hb dX11_let_12 rfl hl (by decide) rfl (fun ls hl => ?_)
    refine lv_iconst (v := 0) hx hb dX11_let_13 (by decide) ?_
    refine lv_istore_n (lv' := [(3, .int 0), (2, .int 0), (0, .ref a0), (1, .int a1)]) hx hb dX11_let_14 rfl hl (by decide) rfl (fun ls hl => ?_)
    have hK60 : ∀ (x6 : Int32) (S7 : HSt) (H : Heap) (locs : List Loc) (ls : Array Slot), f_X11_let_K60 x6 S7 = some res → hqX D kA HB S.2 S7 H locs → lv_has ls 5 [(2, .int x6)] → W p l e rm_X11_let s m ([.ref a0, .int a1] : List Value).toArray below meth c H locs 0 0 (MQ below (hQi D kA HB S res) ([.ref a0, .int a1] : List Value).toArray s 0 0 (hFree HB)) (F0 m 60 ls []) := by
      intro x6 S7 H locs ls h hI hl
      unfold f_X11_let_K60 at h
      refine lv_iload_n hx hb dX11_let_60 rfl (lv_at hl 0 rfl) ?_
      exact hq_iret hx hb hr hlocks h0 hI h dX11_let_61
    have hL15 : ∀ (n15 : Nat) (x8 : Int32) (x9 : Int32) (S10 : HSt) (H : Heap) (locs : List Loc) (ls : Array Slot), (f_X11_let_L15 a0 a1 f_X11_let_K60 n15) x8 x9 S10 = some res → hqX D kA HB S.2 S10 H locs → lv_has ls 5 [(0, .ref a0), (1, .int a1), (2, .int x8), (3, .int x9)] → W p l e rm_X11_let s m ([.ref a0, .int a1] : List Value).toArray below meth c H locs 0 0 (MQ below (hQi D kA HB S res) ([.ref a0, .int a1] : List Value).toArray s 0 0 (hFree HB)) (F0 m 15 ls []) := by
      intro n15
      induction n15 with
      | zero =>
        intro x8 x9 S10 H locs ls h
        have h : (none : Option (Int32 × HSt)) = some res := h
        cases h
      | succ n15 ih15 =>
        intro x8 x9 S10 H locs ls h hI hl
        have h : f_X11_let_B15 a0 a1 f_X11_let_K60 (f_X11_let_L15 a0 a1 f_X11_let_K60 n15) x8 x9 S10 = some res := h
        unfold f_X11_let_B15 at h
        refine lv_iload_n hx hb dX11_let_15 rfl (lv_at hl 3 rfl) ?_
        refine lv_aload_n hx hb dX11_let_16 rfl (lv_at hl 0 rfl) ?_
        obtain ⟨v11, g12, h⟩ := hq_bind h
        obtain ⟨fs_g12, hs_g12, hv_g12⟩ := gI_at g12
        refine hq_get hx hb hts hown hE hI hs_g12 inG11 rfl 7 (by decide) kw_139 hv_g12 dX11_let_17 ?_
        refine lv_icmp_ge (tgt := 60) hx hb dX11_let_20 (by decide) (fun c13 => ?_) (fun c13 => ?_)
        · have h := hq_t h c13
          exact hK60 x8 S10 _ _ _ h hI (lv_sub hl [2] rfl)
        · have h := hq_f h c13
          refine lv_aload_n hx hb dX11_let_23 rfl (lv_at hl 0 rfl) ?_
          refine lv_iload_n hx hb dX11_let_24 rfl (lv_at hl 3 rfl) ?_
          obtain ⟨g15, h⟩ := hq_g h
          obtain ⟨b17, S16, g14, h⟩ := hq_bd2 h
          refine hq_callq hI (va_runV (As := [.int x9]) (rest := []) ⟨hx, hb, hml, hown, hts⟩ (c_X11_lawAt l D kA ρ HB S10 a0 x9 _ g14) (cwV 1 hts (gdIn (List.forall_mem_cons.mpr ⟨kw_725, (List.forall_mem_cons.mpr ⟨kw_727, (List.forall_mem_cons.mpr ⟨ks_26, (List.forall_mem_cons.mpr ⟨kw_1, (fun _ h => absurd h List.not_mem_nil)⟩)⟩)⟩)⟩) kw_728) rfl rfl rfl ye_X11_lawAt ⟨Nat.le_of_ble_eq_true rfl, Nat.le_of_ble_eq_true rfl⟩) (hq_preC hE hI g15 rfl _) rfl rfl hl.1 rfl (lv_room (Nat.le_of_ble_eq_true rfl)) dX11_let_25 ⟨Nat.le_of_ble_eq_true rfl, Nat.le_of_ble_eq_true rfl⟩) (fun H locs hI => ?_)
          rcases b17 with _ | r18
          · have h := oC_n h
            refine lv_astoreN (lv' := [(4, .null), (0, .ref a0), (1, .int a1), (2, .int x8), (3, .int x9)]) hx hb dX11_let_28 hl (by decide) rfl (fun ls hl => ?_)
            refine lv_aloadN hx hb dX11_let_30 (lv_at hl 0 rfl) ?_
            refine lv_ifnullN (tgt := 54) hx hb dX11_let_32 (by decide) ?_
            refine lv_iinc (v := (x9 + 1)) (lv' := [(3, .int (x9 + 1)), (4, .null), (0, .ref a0), (1, .int a1), (2, .int x8)]) hx hb dX11_let_54 hl (k := 4) rfl rfl (by decide) rfl (fun ls hl => ?_)
            refine lv_goto (tgt := 15) hx hb dX11_let_57 (by decide) ?_
            exact ih15 x8 (x9 + 1) S16 _ _ _ h hI (lv_sub hl [2, 3, 4, 0] rfl)
          · have h := oC_s h
            refine lv_astore (lv' := [(4, .ref r18), (0, .ref a0), (1, .int a1), (2, .int x8), (3, .int x9)]) hx hb dX11_let_28 hl (by decide) rfl (fun ls hl => ?_)
            refine lv_aload hx hb dX11_let_30 (lv_at hl 0 rfl) ?_
            refine lv_ifnull hx hb dX11_let_32 ?_
            refine lv_iload_n hx hb dX11_let_35 rfl (lv_at hl 2 rfl) ?_
            refine lv_aload_n hx hb dX11_let_36 rfl (lv_at hl 1 rfl) ?_
            refine lv_aload hx hb dX11_let_37 (lv_at hl 0 rfl) ?_
            obtain ⟨g20, h⟩ := hq_g h
            obtain ⟨v22, S21, g19, h⟩ := hq_bd2 h
            refine hq_calli hI (va_runV (As := [.ref r18]) (rest := [.int a1]) ⟨hx, hb, hml, hown, hts⟩ (c_X11_bitsThatLawHas l D kA ρ HB S16 a0 r18 _ g19) (cwV 1 hts (gdIn (List.forall_mem_cons.mpr ⟨kw_743, (List.forall_mem_cons.mpr ⟨kw_745, (List.forall_mem_cons.mpr ⟨ks_28, (List.forall_mem_cons.mpr ⟨kw_1, (fun _ h => absurd h List.not_mem_nil)⟩)⟩)⟩)⟩) kw_746) rfl rfl rfl ye_X11_bitsThatLawHas ⟨Nat.le_of_ble_eq_true rfl, Nat.le_of_ble_eq_true rfl⟩) (hq_preC hE hI g20 rfl _) rfl rfl hl.1 rfl (lv_room (Nat.le_of_ble_eq_true rfl)) dX11_let_39 ⟨Nat.le_of_ble_eq_true rfl, Nat.le_of_ble_eq_true rfl⟩) (fun H locs hI => ?_)
            refine lv_iconst (v := (-1)) hx hb dX11_let_42 (by decide) ?_
            refine lv_ixor hx hb dX11_let_43 ?_
            refine lv_iand hx hb dX11_let_44 ?_
            refine lv_if_ne (tgt := 54) hx hb dX11_let_45 (by decide) (fun c23 => ?_) (fun c23 => ?_)
            · have h := hq_f h c23
              refine lv_iinc (v := (x9 + 1)) (lv' := [(3, .int (x9 + 1)), (4, .ref r18), (0, .ref a0), (1, .int a1), (2, .int x8)]) hx hb dX11_let_54 hl (k := 4) rfl rfl (by decide) rfl (fun ls hl => ?_)
              refine lv_goto (tgt := 15) hx hb dX11_let_57 (by decide) ?_
              exact ih15 x8 (x9 + 1) S21 _ _ _ h hI (lv_sub hl [2, 3, 4, 0] rfl)
            · have h := hq_t h c23
              refine lv_iload_n hx hb dX11_let_48 rfl (lv_at hl 3 rfl) ?_
              refine lv_iconst (v := 1) hx hb dX11_let_49 (by decide) ?_
              refine lv_iload_n hx hb dX11_let_50 rfl (lv_at hl 4 rfl) ?_
              refine lv_ishl hx hb dX11_let_51 ?_
              refine lv_ior hx hb dX11_let_52 ?_
              refine lv_istore_n (lv' := [(2, .int (x8 ||| (1 <<< (x9 &&& 31)))), (4, .ref r18), (0, .ref a0), (1, .int a1), (3, .int x9)]) hx hb dX11_let_53 rfl hl (by decide) rfl (fun ls hl => ?_)
              refine lv_iinc (v := (x9 + 1)) (lv' := [(3, .int (x9 + 1)), (2, .int (x8 ||| (1 <<< (x9 &&& 31)))), (4, .ref r18), (0, .ref a0), (1, .int a1)]) hx hb dX11_let_54 hl (k := 4) rfl rfl (by decide) rfl (fun ls hl => ?_)
              refine lv_goto (tgt := 15) hx hb dX11_let_57 (by decide) ?_
              exact ih15 (x8 ||| (1 <<< (x9 &&& 31))) (x9 + 1) S21 _ _ _ h hI (lv_sub hl [3, 4, 1, 0] rfl)
    exact hL15 FU 0 0 S3 _ _ _ h hI (lv_sub hl [2, 3, 1, 0] rfl)
  · have h := hq_t h c5
    refine lv_bipush (v := (-2)) hx hb dX11_let_8 (by decide) ?_
    exact hq_iret hx hb hr hlocks h0 hI h dX11_let_10
-- RodDips.field(III)J
theorem dX11_field_0 : decode cX11_field 0 = .ok (.iload_n 1, 1) := by decide +kernel
theorem dX11_field_1 : decode cX11_field 1 = .ok (.ifCond .lt 19, 3) := by decide +kernel
theorem dX11_field_4 : decode cX11_field 4 = .ok (.iload_n 1, 1) := by decide +kernel
theorem dX11_field_5 : decode cX11_field 5 = .ok (.sipush 1000, 3) := by decide +kernel
theorem dX11_field_8 : decode cX11_field 8 = .ok (.if_icmp .gt 12, 3) := by decide +kernel
theorem dX11_field_11 : decode cX11_field 11 = .ok (.iload_n 2, 1) := by decide +kernel
theorem dX11_field_12 : decode cX11_field 12 = .ok (.ifCond .lt 8, 3) := by decide +kernel
theorem dX11_field_15 : decode cX11_field 15 = .ok (.iload_n 2, 1) := by decide +kernel
theorem dX11_field_16 : decode cX11_field 16 = .ok (.iconst 5, 1) := by decide +kernel
theorem dX11_field_17 : decode cX11_field 17 = .ok (.if_icmp .le 7, 3) := by decide +kernel
theorem dX11_field_20 : decode cX11_field 20 = .ok (.ldc2_w 167, 3) := by decide +kernel
theorem dX11_field_23 : decode cX11_field 23 = .ok (.lreturn, 1) := by decide +kernel
theorem dX11_field_24 : decode cX11_field 24 = .ok (.lconst 1, 1) := by decide +kernel
theorem dX11_field_25 : decode cX11_field 25 = .ok (.lstore 4, 2) := by decide +kernel
theorem dX11_field_27 : decode cX11_field 27 = .ok (.lconst 1, 1) := by decide +kernel
theorem dX11_field_28 : decode cX11_field 28 = .ok (.lstore 6, 2) := by decide +kernel
theorem dX11_field_30 : decode cX11_field 30 = .ok (.iconst 0, 1) := by decide +kernel
theorem dX11_field_31 : decode cX11_field 31 = .ok (.istore 8, 2) := by decide +kernel
theorem dX11_field_33 : decode cX11_field 33 = .ok (.iload 8, 2) := by decide +kernel
theorem dX11_field_35 : decode cX11_field 35 = .ok (.iload_n 2, 1) := by decide +kernel
theorem dX11_field_36 : decode cX11_field 36 = .ok (.if_icmp .ge 24, 3) := by decide +kernel
theorem dX11_field_39 : decode cX11_field 39 = .ok (.lload 4, 2) := by decide +kernel
theorem dX11_field_41 : decode cX11_field 41 = .ok (.iload_n 1, 1) := by decide +kernel
theorem dX11_field_42 : decode cX11_field 42 = .ok (.i2l, 1) := by decide +kernel
theorem dX11_field_43 : decode cX11_field 43 = .ok (.lmul, 1) := by decide +kernel
theorem dX11_field_44 : decode cX11_field 44 = .ok (.lstore 4, 2) := by decide +kernel
theorem dX11_field_46 : decode cX11_field 46 = .ok (.lload 6, 2) := by decide +kernel
theorem dX11_field_48 : decode cX11_field 48 = .ok (.ldc2_w 264, 3) := by decide +kernel
theorem dX11_field_51 : decode cX11_field 51 = .ok (.lmul, 1) := by decide +kernel
theorem dX11_field_52 : decode cX11_field 52 = .ok (.lstore 6, 2) := by decide +kernel
theorem dX11_field_54 : decode cX11_field 54 = .ok (.iinc 8 1, 3) := by decide +kernel
theorem dX11_field_57 : decode cX11_field 57 = .ok (.goto (-24), 3) := by decide +kernel
theorem dX11_field_60 : decode cX11_field 60 = .ok (.lload 4, 2) := by decide +kernel
theorem dX11_field_62 : decode cX11_field 62 = .ok (.lload 6, 2) := by decide +kernel
theorem dX11_field_64 : decode cX11_field 64 = .ok (.iload_n 3, 1) := by decide +kernel
theorem dX11_field_65 : decode cX11_field 65 = .ok (.invokestatic 172, 3) := by decide +kernel
theorem dX11_field_68 : decode cX11_field 68 = .ok (.lreturn, 1) := by decide +kernel
def f_X11_field_K60 (a3 : Int32) (x5 : Int64) (x6 : Int64) (S7 : HSt) : Option (Int64 × HSt) := bd2 (f_X11_partOf S7 x5 x6 a3) fun v10 S9 => some (v10, S9)
def f_X11_field_B33 (a1 : Int32) (a2 : Int32) (kx60 : (Int64 → Int64 → HSt → Option (Int64 × HSt))) (kb33 : (Int64 → Int64 → Int32 → HSt → Option (Int64 × HSt))) (x11 : Int64) (x12 : Int64) (x13 : Int32) (S14 : HSt) : Option (Int64 × HSt) := if a2 ≤ x13 then (kx60 x11 x12 S14) else (kb33 (x11 * (Int32.toInt64 a1)) (x12 * 1000) (x13 + 1) S14)
def f_X11_field_L33 (a1 : Int32) (a2 : Int32) (kx60 : (Int64 → Int64 → HSt → Option (Int64 × HSt))) : Nat → Int64 → Int64 → Int32 → HSt → Option (Int64 × HSt)
  | 0, _, _, _, _ => none
  | n + 1, x11, x12, x13, S => f_X11_field_B33 a1 a2 kx60 (f_X11_field_L33 a1 a2 kx60 n) x11 x12 x13 S
def f_X11_field (S : HSt) (a0 : Nat) (a1 : Int32) (a2 : Int32) (a3 : Int32) : Option (Int64 × HSt) := if a1 < 0 then (some ((-9223372036854775808), S)) else (if 1000 < a1 then (some ((-9223372036854775808), S)) else (if a2 < 0 then (some ((-9223372036854775808), S)) else (if a2 ≤ 5 then ((f_X11_field_L33 a1 a2 (f_X11_field_K60 a3) FU) 1 1 0 S) else (some ((-9223372036854775808), S)))))
abbrev rm_X11_field : Room := { frames := 2, cells := 0, slots := 0, locals := 56 }
abbrev w_X11_field : List Cond := Cond.code yX11_field cX11_field 9 (Option.some FieldType.long) :: lwG
theorem yd_X11_field : yX11_field.cls ≠ "java/lang/invoke/MethodHandle" ∧ yX11_field.cls ≠ "java/lang/invoke/VarHandle" ∧ (parseMethodDescriptor yX11_field.desc).map (fun d => d.parameters.length) = some 3 := by decide +kernel
theorem ye_X11_field : yX11_field.cls = RX11 ∧ yX11_field.cls ≠ "java/lang/invoke/MethodHandle" ∧ yX11_field.cls ≠ "java/lang/invoke/VarHandle" ∧ (parseMethodDescriptor yX11_field.desc).map (fun d => d.parameters.length) = some 3 := by decide +kernel
set_option maxHeartbeats 4000000 in
set_option maxRecDepth 100000 in
theorem c_X11_field (l : Launch) (D : va_G) (kA ρ : Nat → Nat) (HB : Heap) (S : HSt) (a0 : Nat) (a1 : Int32) (a2 : Int32) (a3 : Int32) (res : Int64 × HSt) (h : f_X11_field S a0 a1 a2 a3 = some res) : Met l yX11_field w_X11_field rm_X11_field (hPc D kA ρ HB S [.ref a0, .int a1, .int a2, .int a3]) (hQl D kA HB S res) 0 0 (hFree HB) := by
  refine Met.ofW (cc := cX11_field) (maxL := 9) (ret := (Option.some FieldType.long)) (by decide) rfl ?_
  intro p e s m args below meth c s₁ B hml hv
  obtain ⟨rfl, hE, h0⟩ := hv
  have hx := B.exec
  have hb := B.bytes
  have hr := B.returns
  have hts0 := atoms_spec (ws := w_X11_field) B.pre
  have hts : ∀ w ∈ lwG, w.before _ s = true := fun w hw => hts0 w (List.mem_cons_of_mem _ hw)
  have hown : s.vm.findClass RX11 = some m.cls := findClass_of_methodNamed B.named
  have hlocks := B.notSynchronized
  have hI : hqX D kA HB S.2 S s.heap [] := ⟨h0, Nat.le_refl _, fun _ q => absurd q List.not_mem_nil⟩
  have hl := lv_entry ([.ref a0, .int a1, .int a2, .int a3]) (n := 9) (Nat.le_of_ble_eq_true rfl)
  rw [lg_entry_eq]
  generalize (lg_sl ([.ref a0, .int a1, .int a2, .int a3]) ++ List.replicate (9 - (lg_sl ([.ref a0, .int a1, .int a2, .int a3])).length) Slot.unset).toArray = ls at hl ⊢
  have hl : lv_has ls 9 [(0, .ref a0), (1, .int a1), (2, .int a2), (3, .int a3)] := hl
  unfold f_X11_field at h
  refine lv_iload_n hx hb dX11_field_0 rfl (lv_at hl 1 rfl) ?_
  refine lv_if_lt (tgt := 20) hx hb dX11_field_1 (by decide) (fun c1 => ?_) (fun c1 => ?_)
  · have h := hq_t h c1
    refine lv_ldc2 (v := (-9223372036854775808)) hx hb hown (hts _ kw_617) dX11_field_20 ?_
    exact hq_lret hx hb hr hlocks h0 hI h dX11_field_23
  · have h := hq_f h c1
    refine lv_iload_n hx hb dX11_field_4 rfl (lv_at hl 1 rfl) ?_
    refine lv_sipush (v := 1000) hx hb dX11_field_5 (by decide) ?_
    refine lv_icmp_gt (tgt := 20) hx hb dX11_field_8 (by decide) (fun c2 => ?_) (fun c2 => ?_)
    · have h := hq_t h c2
      refine lv_ldc2 (v := (-9223372036854775808)) hx hb hown (hts _ kw_617) dX11_field_20 ?_
      exact hq_lret hx hb hr hlocks h0 hI h dX11_field_23
    · have h := hq_f h c2
      refine lv_iload_n hx hb dX11_field_11 rfl (lv_at hl 2 rfl) ?_
      refine lv_if_lt (tgt := 20) hx hb dX11_field_12 (by decide) (fun c3 => ?_) (fun c3 => ?_)
      · have h := hq_t h c3
        refine lv_ldc2 (v := (-9223372036854775808)) hx hb hown (hts _ kw_617) dX11_field_20 ?_
        exact hq_lret hx hb hr hlocks h0 hI h dX11_field_23
      · have h := hq_f h c3
        refine lv_iload_n hx hb dX11_field_15 rfl (lv_at hl 2 rfl) ?_
        refine lv_iconst (v := 5) hx hb dX11_field_16 (by decide) ?_
        refine lv_icmp_le (tgt := 24) hx hb dX11_field_17 (by decide) (fun c4 => ?_) (fun c4 => ?_)
        · have h := hq_t h c4
          refine lv_lconst (v := 1) hx hb dX11_field_24 (by decide) ?_
          refine lv_lstore (lv' := [(4, .long 1), (0, .ref a0), (1, .int a1), (2, .int a2), (3, .int a3)]) hx hb dX11_field_25 hl (by decide) rfl (fun ls hl => ?_)
          refine lv_lconst (v := 1) hx hb dX11_field_27 (by decide) ?_
          refine lv_lstore (lv' := [(6, .long 1), (4, .long 1), (0, .ref a0), (1, .int a1), (2, .int a2), (3, .int a3)]) hx hb dX11_field_28 hl (by decide) rfl (fun ls hl => ?_)
          refine lv_iconst (v := 0) hx hb dX11_field_30 (by decide) ?_
          refine lv_istore (lv' := [(8, .int 0), (6, .long 1), (4, .long 1), (0, .ref a0), (1, .int a1), (2, .int a2), (3, .int a3)]) hx hb dX11_field_31 hl (by decide) rfl (fun ls hl => ?_)
          have hK60 : ∀ (x5 : Int64) (x6 : Int64) (S7 : HSt) (H : Heap) (locs : List Loc) (ls : Array Slot), (f_X11_field_K60 a3) x5 x6 S7 = some res → hqX D kA HB S.2 S7 H locs → lv_has ls 9 [(3, .int a3), (4, .long x5), (6, .long x6)] → W p l e rm_X11_field s m ([.ref a0, .int a1, .int a2, .int a3] : List Value).toArray below meth c H locs 0 0 (MQ below (hQl D kA HB S res) ([.ref a0, .int a1, .int a2, .int a3] : List Value).toArray s 0 0 (hFree HB)) (F0 m 60 ls []) := by
            intro x5 x6 S7 H locs ls h hI hl
            unfold f_X11_field_K60 at h
            refine lv_lload hx hb dX11_field_60 (lv_at hl 1 rfl) ?_
            refine lv_lload hx hb dX11_field_62 (lv_at hl 2 rfl) ?_
            refine lv_iload_n hx hb dX11_field_64 rfl (lv_at hl 0 rfl) ?_
            obtain ⟨v10, S9, g8, h⟩ := hq_bd2 h
            refine hq_calll hI (va_runS (As := [.long x5, .long x6, .int a3]) (rest := []) ⟨hx, hb, hml, hown, hts⟩ (c_X11_partOf l D kA ρ HB S7 x5 x6 a3 _ g8) (va_cwS 3 hts (gdIn (List.forall_mem_cons.mpr ⟨kw_624, (List.forall_mem_cons.mpr ⟨kw_625, (List.forall_mem_cons.mpr ⟨kw_1, (fun _ h => absurd h List.not_mem_nil)⟩)⟩)⟩) kw_626) rfl rfl rfl yd_X11_partOf ⟨Nat.le_of_ble_eq_true rfl, Nat.le_of_ble_eq_true rfl⟩) (hq_preS hE hI _) rfl rfl hl.1 rfl (lv_room (Nat.le_of_ble_eq_true rfl)) dX11_field_65 ⟨Nat.le_of_ble_eq_true rfl, Nat.le_of_ble_eq_true rfl⟩) (fun H locs hI => ?_)
            exact hq_lret hx hb hr hlocks h0 hI h dX11_field_68
          have hL33 : ∀ (n33 : Nat) (x11 : Int64) (x12 : Int64) (x13 : Int32) (S14 : HSt) (H : Heap) (locs : List Loc) (ls : Array Slot), (f_X11_field_L33 a1 a2 (f_X11_field_K60 a3) n33) x11 x12 x13 S14 = some res → hqX D kA HB S.2 S14 H locs → lv_has ls 9 [(1, .int a1), (2, .int a2), (3, .int a3), (4, .long x11), (6, .long x12), (8, .int x13)] → W p l e rm_X11_field s m ([.ref a0, .int a1, .int a2, .int a3] : List Value).toArray below meth c H locs 0 0 (MQ below (hQl D kA HB S res) ([.ref a0, .int a1, .int a2, .int a3] : List Value).toArray s 0 0 (hFree HB)) (F0 m 33 ls []) := by
            intro n33
            induction n33 with
            | zero =>
              intro x11 x12 x13 S14 H locs ls h
              have h : (none : Option (Int64 × HSt)) = some res := h
              cases h
            | succ n33 ih33 =>
              intro x11 x12 x13 S14 H locs ls h hI hl
              have h : f_X11_field_B33 a1 a2 (f_X11_field_K60 a3) (f_X11_field_L33 a1 a2 (f_X11_field_K60 a3) n33) x11 x12 x13 S14 = some res := h
              unfold f_X11_field_B33 at h
              refine lv_iload hx hb dX11_field_33 (lv_at hl 5 rfl) ?_
              refine lv_iload_n hx hb dX11_field_35 rfl (lv_at hl 1 rfl) ?_
              refine lv_icmp_ge (tgt := 60) hx hb dX11_field_36 (by decide) (fun c15 => ?_) (fun c15 => ?_)
              · have h := hq_t h c15
                exact hK60 x11 x12 S14 _ _ _ h hI (lv_sub hl [2, 3, 4] rfl)
              · have h := hq_f h c15
                refine lv_lload hx hb dX11_field_39 (lv_at hl 3 rfl) ?_
                refine lv_iload_n hx hb dX11_field_41 rfl (lv_at hl 0 rfl) ?_
                refine lv_i2l (v := Int32.toInt64 a1) hx hb dX11_field_42 rfl ?_
                refine lv_lmul hx hb dX11_field_43 ?_
                refine lv_lstore (lv' := [(4, .long (x11 * (Int32.toInt64 a1))), (1, .int a1), (2, .int a2), (3, .int a3), (6, .long x12), (8, .int x13)]) hx hb dX11_field_44 hl (by decide) rfl (fun ls hl => ?_)
                refine lv_lload hx hb dX11_field_46 (lv_at hl 4 rfl) ?_
                refine lv_ldc2 (v := 1000) hx hb hown (hts _ kw_778) dX11_field_48 ?_
                refine lv_lmul hx hb dX11_field_51 ?_
                refine lv_lstore (lv' := [(6, .long (x12 * 1000)), (4, .long (x11 * (Int32.toInt64 a1))), (1, .int a1), (2, .int a2), (3, .int a3), (8, .int x13)]) hx hb dX11_field_52 hl (by decide) rfl (fun ls hl => ?_)
                refine lv_iinc (v := (x13 + 1)) (lv' := [(8, .int (x13 + 1)), (6, .long (x12 * 1000)), (4, .long (x11 * (Int32.toInt64 a1))), (1, .int a1), (2, .int a2), (3, .int a3)]) hx hb dX11_field_54 hl (k := 5) rfl rfl (by decide) rfl (fun ls hl => ?_)
                refine lv_goto (tgt := 33) hx hb dX11_field_57 (by decide) ?_
                exact ih33 (x11 * (Int32.toInt64 a1)) (x12 * 1000) (x13 + 1) S14 _ _ _ h hI (lv_sub hl [3, 4, 5, 2, 1, 0] rfl)
          exact hL33 FU 1 1 0 S _ _ _ h hI (lv_sub hl [4, 5, 6, 2, 1, 0] rfl)
        · have h := hq_f h c4
          refine lv_ldc2 (v := (-9223372036854775808)) hx hb hown (hts _ kw_617) dX11_field_20 ?_
          exact hq_lret hx hb hr hlocks h0 hI h dX11_field_23
-- RodDips.bestOfMen(LRodDips$Text;II)J
theorem dX11_bestOfMen_0 : decode cX11_bestOfMen 0 = .ok (.aload_n 0, 1) := by decide +kernel
theorem dX11_bestOfMen_1 : decode cX11_bestOfMen 1 = .ok (.aload_n 1, 1) := by decide +kernel
theorem dX11_bestOfMen_2 : decode cX11_bestOfMen 2 = .ok (.invokevirtual 157, 3) := by decide +kernel
theorem dX11_bestOfMen_5 : decode cX11_bestOfMen 5 = .ok (.istore 4, 2) := by decide +kernel
theorem dX11_bestOfMen_7 : decode cX11_bestOfMen 7 = .ok (.iload 4, 2) := by decide +kernel
theorem dX11_bestOfMen_9 : decode cX11_bestOfMen 9 = .ok (.invokestatic 185, 3) := by decide +kernel
theorem dX11_bestOfMen_12 : decode cX11_bestOfMen 12 = .ok (.bipush 9, 2) := by decide +kernel
theorem dX11_bestOfMen_14 : decode cX11_bestOfMen 14 = .ok (.if_icmp .le 7, 3) := by decide +kernel
theorem dX11_bestOfMen_17 : decode cX11_bestOfMen 17 = .ok (.ldc2_w 167, 3) := by decide +kernel
theorem dX11_bestOfMen_20 : decode cX11_bestOfMen 20 = .ok (.lreturn, 1) := by decide +kernel
theorem dX11_bestOfMen_21 : decode cX11_bestOfMen 21 = .ok (.lconst 1, 1) := by decide +kernel
theorem dX11_bestOfMen_22 : decode cX11_bestOfMen 22 = .ok (.lstore 5, 2) := by decide +kernel
theorem dX11_bestOfMen_24 : decode cX11_bestOfMen 24 = .ok (.lconst 1, 1) := by decide +kernel
theorem dX11_bestOfMen_25 : decode cX11_bestOfMen 25 = .ok (.lstore 7, 2) := by decide +kernel
theorem dX11_bestOfMen_27 : decode cX11_bestOfMen 27 = .ok (.iconst 0, 1) := by decide +kernel
theorem dX11_bestOfMen_28 : decode cX11_bestOfMen 28 = .ok (.istore 9, 2) := by decide +kernel
theorem dX11_bestOfMen_30 : decode cX11_bestOfMen 30 = .ok (.iload 9, 2) := by decide +kernel
theorem dX11_bestOfMen_32 : decode cX11_bestOfMen 32 = .ok (.bipush 6, 2) := by decide +kernel
theorem dX11_bestOfMen_34 : decode cX11_bestOfMen 34 = .ok (.if_icmp .ge 51, 3) := by decide +kernel
theorem dX11_bestOfMen_37 : decode cX11_bestOfMen 37 = .ok (.aload_n 0, 1) := by decide +kernel
theorem dX11_bestOfMen_38 : decode cX11_bestOfMen 38 = .ok (.iload 4, 2) := by decide +kernel
theorem dX11_bestOfMen_40 : decode cX11_bestOfMen 40 = .ok (.aload_n 0, 1) := by decide +kernel
theorem dX11_bestOfMen_41 : decode cX11_bestOfMen 41 = .ok (.iload 9, 2) := by decide +kernel
theorem dX11_bestOfMen_43 : decode cX11_bestOfMen 43 = .ok (.invokevirtual 212, 3) := by decide +kernel
theorem dX11_bestOfMen_46 : decode cX11_bestOfMen 46 = .ok (.iand, 1) := by decide +kernel
theorem dX11_bestOfMen_47 : decode cX11_bestOfMen 47 = .ok (.aload_n 1, 1) := by decide +kernel
theorem dX11_bestOfMen_48 : decode cX11_bestOfMen 48 = .ok (.getfield 151, 3) := by decide +kernel
theorem dX11_bestOfMen_51 : decode cX11_bestOfMen 51 = .ok (.invokevirtual 190, 3) := by decide +kernel
theorem dX11_bestOfMen_54 : decode cX11_bestOfMen 54 = .ok (.lload 5, 2) := by decide +kernel
theorem dX11_bestOfMen_56 : decode cX11_bestOfMen 56 = .ok (.aload_n 0, 1) := by decide +kernel
theorem dX11_bestOfMen_57 : decode cX11_bestOfMen 57 = .ok (.getfield 49, 3) := by decide +kernel
theorem dX11_bestOfMen_60 : decode cX11_bestOfMen 60 = .ok (.iload_n 2, 1) := by decide +kernel
theorem dX11_bestOfMen_61 : decode cX11_bestOfMen 61 = .ok (.invokevirtual 254, 3) := by decide +kernel
theorem dX11_bestOfMen_64 : decode cX11_bestOfMen 64 = .ok (.lmul, 1) := by decide +kernel
theorem dX11_bestOfMen_65 : decode cX11_bestOfMen 65 = .ok (.lstore 5, 2) := by decide +kernel
theorem dX11_bestOfMen_67 : decode cX11_bestOfMen 67 = .ok (.lload 7, 2) := by decide +kernel
theorem dX11_bestOfMen_69 : decode cX11_bestOfMen 69 = .ok (.aload_n 0, 1) := by decide +kernel
theorem dX11_bestOfMen_70 : decode cX11_bestOfMen 70 = .ok (.getfield 49, 3) := by decide +kernel
theorem dX11_bestOfMen_73 : decode cX11_bestOfMen 73 = .ok (.getfield 201, 3) := by decide +kernel
theorem dX11_bestOfMen_76 : decode cX11_bestOfMen 76 = .ok (.lmul, 1) := by decide +kernel
theorem dX11_bestOfMen_77 : decode cX11_bestOfMen 77 = .ok (.lstore 7, 2) := by decide +kernel
theorem dX11_bestOfMen_79 : decode cX11_bestOfMen 79 = .ok (.iinc 9 1, 3) := by decide +kernel
theorem dX11_bestOfMen_82 : decode cX11_bestOfMen 82 = .ok (.goto (-52), 3) := by decide +kernel
theorem dX11_bestOfMen_85 : decode cX11_bestOfMen 85 = .ok (.lload 7, 2) := by decide +kernel
theorem dX11_bestOfMen_87 : decode cX11_bestOfMen 87 = .ok (.lload 5, 2) := by decide +kernel
theorem dX11_bestOfMen_89 : decode cX11_bestOfMen 89 = .ok (.lsub, 1) := by decide +kernel
theorem dX11_bestOfMen_90 : decode cX11_bestOfMen 90 = .ok (.lload 7, 2) := by decide +kernel
theorem dX11_bestOfMen_92 : decode cX11_bestOfMen 92 = .ok (.iload_n 3, 1) := by decide +kernel
theorem dX11_bestOfMen_93 : decode cX11_bestOfMen 93 = .ok (.invokestatic 172, 3) := by decide +kernel
theorem dX11_bestOfMen_96 : decode cX11_bestOfMen 96 = .ok (.lreturn, 1) := by decide +kernel
def f_X11_bestOfMen_K85 (a3 : Int32) (x9 : Int64) (x10 : Int64) (S11 : HSt) : Option (Int64 × HSt) := bd2 (f_X11_partOf S11 (x10 - x9) x10 a3) fun v14 S13 => some (v14, S13)
def f_X11_bestOfMen_B30 (a0 : Nat) (a1 : Nat) (a2 : Int32) (v4 : Int32) (kx85 : (Int64 → Int64 → HSt → Option (Int64 × HSt))) (kb30 : (Int64 → Int64 → Int32 → HSt → Option (Int64 × HSt))) (x15 : Int64) (x16 : Int64) (x17 : Int32) (S18 : HSt) : Option (Int64 × HSt) := if 6 ≤ x17 then (kx85 x15 x16 S18) else (if gC S18 a0 = some 11 then (bd2 (f_X11_bitsOfMan S18 a0 x17) fun v23 S22 => (gI S22 a1 7 8).bind fun v24 => if gC S22 a0 = some 11 then ((f_X11_setOdds S22 a0 (v4 &&& v23) v24).bind fun S28 => (gR S28 a0 11 8).bind fun b29 => if gC S28 b29 = some 4 then (bd2 (f_X4_fewer S28 b29 a2) fun v34 S33 => (gR S33 a0 11 8).bind fun b35 => (gL S33 b35 4 2).bind fun v37 => kb30 (x15 * v34) (x16 * v37) (x17 + 1) S33) else none) else none) else none)
def f_X11_bestOfMen_L30 (a0 : Nat) (a1 : Nat) (a2 : Int32) (v4 : Int32) (kx85 : (Int64 → Int64 → HSt → Option (Int64 × HSt))) : Nat → Int64 → Int64 → Int32 → HSt → Option (Int64 × HSt)
  | 0, _, _, _, _ => none
  | n + 1, x15, x16, x17, S => f_X11_bestOfMen_B30 a0 a1 a2 v4 kx85 (f_X11_bestOfMen_L30 a0 a1 a2 v4 kx85 n) x15 x16 x17 S
def f_X11_bestOfMen (S : HSt) (a0 : Nat) (a1 : Nat) (a2 : Int32) (a3 : Int32) : Option (Int64 × HSt) := if gC S a0 = some 11 then (bd2 (f_X11_countedBits S a0 a1) fun v4 S3 => bd2 (f_J6_bitCount_0f7a4 S3 v4) fun v7 S6 => if v7 ≤ 9 then ((f_X11_bestOfMen_L30 a0 a1 a2 v4 (f_X11_bestOfMen_K85 a3) FU) 1 1 0 S6) else (some ((-9223372036854775808), S6))) else none
abbrev rm_X11_bestOfMen : Room := { frames := 5, cells := 0, slots := 0, locals := 122 }
abbrev w_X11_bestOfMen : List Cond := Cond.code yX11_bestOfMen cX11_bestOfMen 10 (Option.some FieldType.long) :: lwG
theorem yd_X11_bestOfMen : yX11_bestOfMen.cls ≠ "java/lang/invoke/MethodHandle" ∧ yX11_bestOfMen.cls ≠ "java/lang/invoke/VarHandle" ∧ (parseMethodDescriptor yX11_bestOfMen.desc).map (fun d => d.parameters.length) = some 3 := by decide +kernel
theorem ye_X11_bestOfMen : yX11_bestOfMen.cls = RX11 ∧ yX11_bestOfMen.cls ≠ "java/lang/invoke/MethodHandle" ∧ yX11_bestOfMen.cls ≠ "java/lang/invoke/VarHandle" ∧ (parseMethodDescriptor yX11_bestOfMen.desc).map (fun d => d.parameters.length) = some 3 := by decide +kernel
set_option maxHeartbeats 4000000 in
set_option maxRecDepth 100000 in
theorem c_X11_bestOfMen (l : Launch) (D : va_G) (kA ρ : Nat → Nat) (HB : Heap) (S : HSt) (a0 : Nat) (a1 : Nat) (a2 : Int32) (a3 : Int32) (res : Int64 × HSt) (h : f_X11_bestOfMen S a0 a1 a2 a3 = some res) : Met l yX11_bestOfMen w_X11_bestOfMen rm_X11_bestOfMen (hPc D kA ρ HB S [.ref a0, .ref a1, .int a2, .int a3]) (hQl D kA HB S res) 0 0 (hFree HB) := by
  refine Met.ofW (cc := cX11_bestOfMen) (maxL := 10) (ret := (Option.some FieldType.long)) (by decide) rfl ?_
  intro p e s m args below meth c s₁ B hml hv
  obtain ⟨rfl, hE, h0⟩ := hv
  have hx := B.exec
  have hb := B.bytes
  have hr := B.returns
  have hts0 := atoms_spec (ws := w_X11_bestOfMen) B.pre
  have hts : ∀ w ∈ lwG, w.before _ s = true := fun w hw => hts0 w (List.mem_cons_of_mem _ hw)
  have hown : s.vm.findClass RX11 = some m.cls := findClass_of_methodNamed B.named
  have hlocks := B.notSynchronized
  have hI : hqX D kA HB S.2 S s.heap [] := ⟨h0, Nat.le_refl _, fun _ q => absurd q List.not_mem_nil⟩
  have hl := lv_entry ([.ref a0, .ref a1, .int a2, .int a3]) (n := 10) (Nat.le_of_ble_eq_true rfl)
  rw [lg_entry_eq]
  generalize (lg_sl ([.ref a0, .ref a1, .int a2, .int a3]) ++ List.replicate (10 - (lg_sl ([.ref a0, .ref a1, .int a2, .int a3])).length) Slot.unset).toArray = ls at hl ⊢
  have hl : lv_has ls 10 [(0, .ref a0), (1, .ref a1), (2, .int a2), (3, .int a3)] := hl
  unfold f_X11_bestOfMen at h
  refine lv_aload_n hx hb dX11_bestOfMen_0 rfl (lv_at hl 0 rfl) ?_
  refine lv_aload_n hx hb dX11_bestOfMen_1 rfl (lv_at hl 1 rfl) ?_
  obtain ⟨g2, h⟩ := hq_g h
  obtain ⟨v4, S3, g1, h⟩ := hq_bd2 h
  refine hq_calli hI (va_runV (As := [.ref a1]) (rest := []) ⟨hx, hb, hml, hown, hts⟩ (c_X11_countedBits l D kA ρ HB S a0 a1 _ g1) (cwV 1 hts (gdIn (List.forall_mem_cons.mpr ⟨kw_561, (List.forall_mem_cons.mpr ⟨kw_563, (List.forall_mem_cons.mpr ⟨ks_11, (List.forall_mem_cons.mpr ⟨kw_1, (fun _ h => absurd h List.not_mem_nil)⟩)⟩)⟩)⟩) kw_564) rfl rfl rfl ye_X11_countedBits ⟨Nat.le_of_ble_eq_true rfl, Nat.le_of_ble_eq_true rfl⟩) (hq_preC hE hI g2 rfl _) rfl rfl hl.1 rfl (lv_room (Nat.le_of_ble_eq_true rfl)) dX11_bestOfMen_2 ⟨Nat.le_of_ble_eq_true rfl, Nat.le_of_ble_eq_true rfl⟩) (fun H locs hI => ?_)
  refine lv_istore (lv' := [(4, .int v4), (0, .ref a0), (1, .ref a1), (2, .int a2), (3, .int a3)]) hx hb dX11_bestOfMen_5 hl (by decide) rfl (fun ls hl => ?_)
  refine lv_iload hx hb dX11_bestOfMen_7 (lv_at hl 0 rfl) ?_
  obtain ⟨v7, S6, g5, h⟩ := hq_bd2 h
  refine hq_calli hI (va_runS (As := [.int v4]) (rest := []) ⟨hx, hb, hml, hown, hts⟩ (c_J6_bitCount_0f7a4 l D kA ρ HB S3 v4 _ g5) (va_cwS 1 hts (gdIn (List.forall_mem_cons.mpr ⟨kw_607, (List.forall_mem_cons.mpr ⟨kw_608, (List.forall_mem_cons.mpr ⟨kw_20, (fun _ h => absurd h List.not_mem_nil)⟩)⟩)⟩) kw_609) rfl rfl rfl yd_J6_bitCount_0f7a4 ⟨Nat.le_of_ble_eq_true rfl, Nat.le_of_ble_eq_true rfl⟩) (hq_preS hE hI _) rfl rfl hl.1 rfl (lv_room (Nat.le_of_ble_eq_true rfl)) dX11_bestOfMen_9 ⟨Nat.le_of_ble_eq_true rfl, Nat.le_of_ble_eq_true rfl⟩) (fun H locs hI => ?_)
  refine lv_bipush (v := 9) hx hb dX11_bestOfMen_12 (by decide) ?_
  refine lv_icmp_le (tgt := 21) hx hb dX11_bestOfMen_14 (by decide) (fun c8 => ?_) (fun c8 => ?_)
  · have h := hq_t h c8
    refine lv_lconst (v := 1) hx hb dX11_bestOfMen_21 (by decide) ?_
    refine lv_lstore (lv' := [(5, .long 1), (4, .int v4), (0, .ref a0), (1, .ref a1), (2, .int a2), (3, .int a3)]) hx hb dX11_bestOfMen_22 hl (by decide) rfl (fun ls hl => ?_)
    refine lv_lconst (v := 1) hx hb dX11_bestOfMen_24 (by decide) ?_
    refine lv_lstore (lv' := [(7, .long 1), (5, .long 1), (4, .int v4), (0, .ref a0), (1, .ref a1), (2, .int a2), (3, .int a3)]) hx hb dX11_bestOfMen_25 hl (by decide) rfl (fun ls hl => ?_)
    refine lv_iconst (v := 0) hx hb dX11_bestOfMen_27 (by decide) ?_
    refine lv_istore (lv' := [(9, .int 0), (7, .long 1), (5, .long 1), (4, .int v4), (0, .ref a0), (1, .ref a1), (2, .int a2), (3, .int a3)]) hx hb dX11_bestOfMen_28 hl (by decide) rfl (fun ls hl => ?_)
    have hK85 : ∀ (x9 : Int64) (x10 : Int64) (S11 : HSt) (H : Heap) (locs : List Loc) (ls : Array Slot), (f_X11_bestOfMen_K85 a3) x9 x10 S11 = some res → hqX D kA HB S.2 S11 H locs → lv_has ls 10 [(3, .int a3), (5, .long x9), (7, .long x10)] → W p l e rm_X11_bestOfMen s m ([.ref a0, .ref a1, .int a2, .int a3] : List Value).toArray below meth c H locs 0 0 (MQ below (hQl D kA HB S res) ([.ref a0, .ref a1, .int a2, .int a3] : List Value).toArray s 0 0 (hFree HB)) (F0 m 85 ls []) := by
      intro x9 x10 S11 H locs ls h hI hl
      unfold f_X11_bestOfMen_K85 at h
      refine lv_lload hx hb dX11_bestOfMen_85 (lv_at hl 2 rfl) ?_
      refine lv_lload hx hb dX11_bestOfMen_87 (lv_at hl 1 rfl) ?_
      refine lv_lsub hx hb dX11_bestOfMen_89 ?_
      refine lv_lload hx hb dX11_bestOfMen_90 (lv_at hl 2 rfl) ?_
      refine lv_iload_n hx hb dX11_bestOfMen_92 rfl (lv_at hl 0 rfl) ?_
      obtain ⟨v14, S13, g12, h⟩ := hq_bd2 h
      refine hq_calll hI (va_runS (As := [.long (x10 - x9), .long x10, .int a3]) (rest := []) ⟨hx, hb, hml, hown, hts⟩ (c_X11_partOf l D kA ρ HB S11 (x10 - x9) x10 a3 _ g12) (va_cwS 3 hts (gdIn (List.forall_mem_cons.mpr ⟨kw_624, (List.forall_mem_cons.mpr ⟨kw_625, (List.forall_mem_cons.mpr ⟨kw_1, (fun _ h => absurd h List.not_mem_nil)⟩)⟩)⟩) kw_626) rfl rfl rfl yd_X11_partOf ⟨Nat.le_of_ble_eq_true rfl, Nat.le_of_ble_eq_true rfl⟩) (hq_preS hE hI _) rfl rfl hl.1 rfl (lv_room (Nat.le_of_ble_eq_true rfl)) dX11_bestOfMen_93 ⟨Nat.le_of_ble_eq_true rfl, Nat.le_of_ble_eq_true rfl⟩) (fun H locs hI => ?_)
      exact hq_lret hx hb hr hlocks h0 hI h dX11_bestOfMen_96
    have hL30 : ∀ (n30 : Nat) (x15 : Int64) (x16 : Int64) (x17 : Int32) (S18 : HSt) (H : Heap) (locs : List Loc) (ls : Array Slot), (f_X11_bestOfMen_L30 a0 a1 a2 v4 (f_X11_bestOfMen_K85 a3) n30) x15 x16 x17 S18 = some res → hqX D kA HB S.2 S18 H locs → lv_has ls 10 [(0, .ref a0), (1, .ref a1), (2, .int a2), (3, .int a3), (4, .int v4), (5, .long x15), (7, .long x16), (9, .int x17)] → W p l e rm_X11_bestOfMen s m ([.ref a0, .ref a1, .int a2, .int a3] : List Value).toArray below meth c H locs 0 0 (MQ below (hQl D kA HB S res) ([.ref a0, .ref a1, .int a2, .int a3] : List Value).toArray s 0 0 (hFree HB)) (F0 m 30 ls []) := by
      intro n30
      induction n30 with
      | zero =>
        intro x15 x16 x17 S18 H locs ls h
        have h : (none : Option (Int64 × HSt)) = some res := h
        cases h
      | succ n30 ih30 =>
        intro x15 x16 x17 S18 H locs ls h hI hl
        have h : f_X11_bestOfMen_B30 a0 a1 a2 v4 (f_X11_bestOfMen_K85 a3) (f_X11_bestOfMen_L30 a0 a1 a2 v4 (f_X11_bestOfMen_K85 a3) n30) x15 x16 x17 S18 = some res := h
        unfold f_X11_bestOfMen_B30 at h
        refine lv_iload hx hb dX11_bestOfMen_30 (lv_at hl 7 rfl) ?_
        refine lv_bipush (v := 6) hx hb dX11_bestOfMen_32 (by decide) ?_
        refine lv_icmp_ge (tgt := 85) hx hb dX11_bestOfMen_34 (by decide) (fun c19 => ?_) (fun c19 => ?_)
        · have h := hq_t h c19
          exact hK85 x15 x16 S18 _ _ _ h hI (lv_sub hl [3, 5, 6] rfl)
        · have h := hq_f h c19
          refine lv_aload_n hx hb dX11_bestOfMen_37 rfl (lv_at hl 0 rfl) ?_
          refine lv_iload hx hb dX11_bestOfMen_38 (lv_at hl 4 rfl) ?_
          refine lv_aload_n hx hb dX11_bestOfMen_40 rfl (lv_at hl 0 rfl) ?_
          refine lv_iload hx hb dX11_bestOfMen_41 (lv_at hl 7 rfl) ?_
          obtain ⟨g21, h⟩ := hq_g h
          obtain ⟨v23, S22, g20, h⟩ := hq_bd2 h
          refine hq_calli hI (va_runV (As := [.int x17]) (rest := [.int v4, .ref a0]) ⟨hx, hb, hml, hown, hts⟩ (c_X11_bitsOfMan l D kA ρ HB S18 a0 x17 _ g20) (cwV 1 hts (gdIn (List.forall_mem_cons.mpr ⟨kw_603, (List.forall_mem_cons.mpr ⟨kw_605, (List.forall_mem_cons.mpr ⟨ks_16, (List.forall_mem_cons.mpr ⟨kw_1, (fun _ h => absurd h List.not_mem_nil)⟩)⟩)⟩)⟩) kw_606) rfl rfl rfl ye_X11_bitsOfMan ⟨Nat.le_of_ble_eq_true rfl, Nat.le_of_ble_eq_true rfl⟩) (hq_preC hE hI g21 rfl _) rfl rfl hl.1 rfl (lv_room (Nat.le_of_ble_eq_true rfl)) dX11_bestOfMen_43 ⟨Nat.le_of_ble_eq_true rfl, Nat.le_of_ble_eq_true rfl⟩) (fun H locs hI => ?_)
          refine lv_iand hx hb dX11_bestOfMen_46 ?_
          refine lv_aload_n hx hb dX11_bestOfMen_47 rfl (lv_at hl 1 rfl) ?_
          obtain ⟨v24, g25, h⟩ := hq_bind h
          obtain ⟨fs_g25, hs_g25, hv_g25⟩ := gI_at g25
          refine hq_getN hx hb hts hown hE hI hs_g25 inG7 rfl 8 (by decide) kn_104 hv_g25 dX11_bestOfMen_48 ?_
          obtain ⟨g27, h⟩ := hq_g h
          obtain ⟨S28, g26, h⟩ := hq_bind h
          refine hq_callv hI (va_runV (As := [.int (v4 &&& v23), .int v24]) (rest := []) ⟨hx, hb, hml, hown, hts⟩ (c_X11_setOdds l D kA ρ HB S22 a0 (v4 &&& v23) v24 _ g26) (cwV 2 hts (gdIn (List.forall_mem_cons.mpr ⟨kw_644, (List.forall_mem_cons.mpr ⟨kw_646, (List.forall_mem_cons.mpr ⟨ks_19, (List.forall_mem_cons.mpr ⟨kw_1, (fun _ h => absurd h List.not_mem_nil)⟩)⟩)⟩)⟩) kw_647) rfl rfl rfl ye_X11_setOdds ⟨Nat.le_of_ble_eq_true rfl, Nat.le_of_ble_eq_true rfl⟩) (hq_preC hE hI g27 rfl _) rfl rfl hl.1 rfl (lv_room (Nat.le_of_ble_eq_true rfl)) dX11_bestOfMen_51 ⟨Nat.le_of_ble_eq_true rfl, Nat.le_of_ble_eq_true rfl⟩) (fun H locs hI => ?_)
          refine lv_lload hx hb dX11_bestOfMen_54 (lv_at hl 5 rfl) ?_
          refine lv_aload_n hx hb dX11_bestOfMen_56 rfl (lv_at hl 0 rfl) ?_
          obtain ⟨b29, g30, h⟩ := hq_bind h
          obtain ⟨fs_g30, hs_g30, hv_g30⟩ := gR_at g30
          refine hq_get hx hb hts hown hE hI hs_g30 inG11 rfl 8 (by decide) kw_140 hv_g30 dX11_bestOfMen_57 ?_
          refine lv_iload_n hx hb dX11_bestOfMen_60 rfl (lv_at hl 2 rfl) ?_
          obtain ⟨g32, h⟩ := hq_g h
          obtain ⟨v34, S33, g31, h⟩ := hq_bd2 h
          refine hq_calll hI (va_runV (As := [.int a2]) (rest := [.long x15]) ⟨hx, hb, hml, hown, hts⟩ (c_X4_fewer l D kA ρ HB S28 b29 a2 _ g31) (cwV 1 hts (gdIn (List.forall_mem_cons.mpr ⟨kw_680, (List.forall_mem_cons.mpr ⟨kw_664, (List.forall_mem_cons.mpr ⟨kw_665, (List.forall_mem_cons.mpr ⟨kw_3, (fun _ h => absurd h List.not_mem_nil)⟩)⟩)⟩)⟩) kw_666) rfl rfl rfl ye_X4_fewer ⟨Nat.le_of_ble_eq_true rfl, Nat.le_of_ble_eq_true rfl⟩) (hq_preC hE hI g32 rfl _) rfl rfl hl.1 rfl (lv_room (Nat.le_of_ble_eq_true rfl)) dX11_bestOfMen_61 ⟨Nat.le_of_ble_eq_true rfl, Nat.le_of_ble_eq_true rfl⟩) (fun H locs hI => ?_)
          refine lv_lmul hx hb dX11_bestOfMen_64 ?_
          refine lv_lstore (lv' := [(5, .long (x15 * v34)), (0, .ref a0), (1, .ref a1), (2, .int a2), (3, .int a3), (4, .int v4), (7, .long x16), (9, .int x17)]) hx hb dX11_bestOfMen_65 hl (by decide) rfl (fun ls hl => ?_)
          refine lv_lload hx hb dX11_bestOfMen_67 (lv_at hl 6 rfl) ?_
          refine lv_aload_n hx hb dX11_bestOfMen_69 rfl (lv_at hl 1 rfl) ?_
          obtain ⟨b35, g36, h⟩ := hq_bind h
          obtain ⟨fs_g36, hs_g36, hv_g36⟩ := gR_at g36
          refine hq_get hx hb hts hown hE hI hs_g36 inG11 rfl 8 (by decide) kw_140 hv_g36 dX11_bestOfMen_70 ?_
          obtain ⟨v37, g38, h⟩ := hq_bind h
          obtain ⟨fs_g38, hs_g38, hv_g38⟩ := gL_at g38
          refine hq_getN hx hb hts hown hE hI hs_g38 inG4 rfl 2 (by decide) kn_62 hv_g38 dX11_bestOfMen_73 ?_
          refine lv_lmul hx hb dX11_bestOfMen_76 ?_
          refine lv_lstore (lv' := [(7, .long (x16 * v37)), (5, .long (x15 * v34)), (0, .ref a0), (1, .ref a1), (2, .int a2), (3, .int a3), (4, .int v4), (9, .int x17)]) hx hb dX11_bestOfMen_77 hl (by decide) rfl (fun ls hl => ?_)
          refine lv_iinc (v := (x17 + 1)) (lv' := [(9, .int (x17 + 1)), (7, .long (x16 * v37)), (5, .long (x15 * v34)), (0, .ref a0), (1, .ref a1), (2, .int a2), (3, .int a3), (4, .int v4)]) hx hb dX11_bestOfMen_79 hl (k := 7) rfl rfl (by decide) rfl (fun ls hl => ?_)
          refine lv_goto (tgt := 30) hx hb dX11_bestOfMen_82 (by decide) ?_
          exact ih30 (x15 * v34) (x16 * v37) (x17 + 1) S33 _ _ _ h hI (lv_sub hl [3, 4, 5, 6, 7, 2, 1, 0] rfl)
    exact hL30 FU 1 1 0 S6 _ _ _ h hI (lv_sub hl [4, 5, 6, 7, 3, 2, 1, 0] rfl)
  · have h := hq_f h c8
    refine lv_ldc2 (v := (-9223372036854775808)) hx hb hown (hts _ kw_617) dX11_bestOfMen_17 ?_
    exact hq_lret hx hb hr hlocks h0 hI h dX11_bestOfMen_20
-- RodDips.bestAlone(LRodDips$Text;II)J
theorem dX11_bestAlone_0 : decode cX11_bestAlone 0 = .ok (.aload_n 0, 1) := by decide +kernel
theorem dX11_bestAlone_1 : decode cX11_bestAlone 1 = .ok (.aload_n 1, 1) := by decide +kernel
theorem dX11_bestAlone_2 : decode cX11_bestAlone 2 = .ok (.invokevirtual 157, 3) := by decide +kernel
theorem dX11_bestAlone_5 : decode cX11_bestAlone 5 = .ok (.istore 4, 2) := by decide +kernel
theorem dX11_bestAlone_7 : decode cX11_bestAlone 7 = .ok (.iload 4, 2) := by decide +kernel
theorem dX11_bestAlone_9 : decode cX11_bestAlone 9 = .ok (.aload_n 0, 1) := by decide +kernel
theorem dX11_bestAlone_10 : decode cX11_bestAlone 10 = .ok (.aload_n 1, 1) := by decide +kernel
theorem dX11_bestAlone_11 : decode cX11_bestAlone 11 = .ok (.getfield 151, 3) := by decide +kernel
theorem dX11_bestAlone_14 : decode cX11_bestAlone 14 = .ok (.invokevirtual 320, 3) := by decide +kernel
theorem dX11_bestAlone_17 : decode cX11_bestAlone 17 = .ok (.iand, 1) := by decide +kernel
theorem dX11_bestAlone_18 : decode cX11_bestAlone 18 = .ok (.istore 5, 2) := by decide +kernel
theorem dX11_bestAlone_20 : decode cX11_bestAlone 20 = .ok (.iconst (-1), 1) := by decide +kernel
theorem dX11_bestAlone_21 : decode cX11_bestAlone 21 = .ok (.istore 6, 2) := by decide +kernel
theorem dX11_bestAlone_23 : decode cX11_bestAlone 23 = .ok (.iconst 0, 1) := by decide +kernel
theorem dX11_bestAlone_24 : decode cX11_bestAlone 24 = .ok (.istore 7, 2) := by decide +kernel
theorem dX11_bestAlone_26 : decode cX11_bestAlone 26 = .ok (.iconst 0, 1) := by decide +kernel
theorem dX11_bestAlone_27 : decode cX11_bestAlone 27 = .ok (.istore 8, 2) := by decide +kernel
theorem dX11_bestAlone_29 : decode cX11_bestAlone 29 = .ok (.iload 8, 2) := by decide +kernel
theorem dX11_bestAlone_31 : decode cX11_bestAlone 31 = .ok (.bipush 6, 2) := by decide +kernel
theorem dX11_bestAlone_33 : decode cX11_bestAlone 33 = .ok (.if_icmp .ge 50, 3) := by decide +kernel
theorem dX11_bestAlone_36 : decode cX11_bestAlone 36 = .ok (.iload 4, 2) := by decide +kernel
theorem dX11_bestAlone_38 : decode cX11_bestAlone 38 = .ok (.aload_n 0, 1) := by decide +kernel
theorem dX11_bestAlone_39 : decode cX11_bestAlone 39 = .ok (.iload 8, 2) := by decide +kernel
theorem dX11_bestAlone_41 : decode cX11_bestAlone 41 = .ok (.invokevirtual 212, 3) := by decide +kernel
theorem dX11_bestAlone_44 : decode cX11_bestAlone 44 = .ok (.iand, 1) := by decide +kernel
theorem dX11_bestAlone_45 : decode cX11_bestAlone 45 = .ok (.istore 9, 2) := by decide +kernel
theorem dX11_bestAlone_47 : decode cX11_bestAlone 47 = .ok (.iload 5, 2) := by decide +kernel
theorem dX11_bestAlone_49 : decode cX11_bestAlone 49 = .ok (.iload 9, 2) := by decide +kernel
theorem dX11_bestAlone_51 : decode cX11_bestAlone 51 = .ok (.iand, 1) := by decide +kernel
theorem dX11_bestAlone_52 : decode cX11_bestAlone 52 = .ok (.invokestatic 185, 3) := by decide +kernel
theorem dX11_bestAlone_55 : decode cX11_bestAlone 55 = .ok (.istore 10, 2) := by decide +kernel
theorem dX11_bestAlone_57 : decode cX11_bestAlone 57 = .ok (.iload 9, 2) := by decide +kernel
theorem dX11_bestAlone_59 : decode cX11_bestAlone 59 = .ok (.ifCond .eq 18, 3) := by decide +kernel
theorem dX11_bestAlone_62 : decode cX11_bestAlone 62 = .ok (.iload 10, 2) := by decide +kernel
theorem dX11_bestAlone_64 : decode cX11_bestAlone 64 = .ok (.iload 6, 2) := by decide +kernel
theorem dX11_bestAlone_66 : decode cX11_bestAlone 66 = .ok (.if_icmp .le 11, 3) := by decide +kernel
theorem dX11_bestAlone_69 : decode cX11_bestAlone 69 = .ok (.iload 10, 2) := by decide +kernel
theorem dX11_bestAlone_71 : decode cX11_bestAlone 71 = .ok (.istore 6, 2) := by decide +kernel
theorem dX11_bestAlone_73 : decode cX11_bestAlone 73 = .ok (.iload 9, 2) := by decide +kernel
theorem dX11_bestAlone_75 : decode cX11_bestAlone 75 = .ok (.istore 7, 2) := by decide +kernel
theorem dX11_bestAlone_77 : decode cX11_bestAlone 77 = .ok (.iinc 8 1, 3) := by decide +kernel
theorem dX11_bestAlone_80 : decode cX11_bestAlone 80 = .ok (.goto (-51), 3) := by decide +kernel
theorem dX11_bestAlone_83 : decode cX11_bestAlone 83 = .ok (.iload 7, 2) := by decide +kernel
theorem dX11_bestAlone_85 : decode cX11_bestAlone 85 = .ok (.ifCond .eq 13, 3) := by decide +kernel
theorem dX11_bestAlone_88 : decode cX11_bestAlone 88 = .ok (.iload 7, 2) := by decide +kernel
theorem dX11_bestAlone_90 : decode cX11_bestAlone 90 = .ok (.invokestatic 185, 3) := by decide +kernel
theorem dX11_bestAlone_93 : decode cX11_bestAlone 93 = .ok (.bipush 9, 2) := by decide +kernel
theorem dX11_bestAlone_95 : decode cX11_bestAlone 95 = .ok (.if_icmp .le 7, 3) := by decide +kernel
theorem dX11_bestAlone_98 : decode cX11_bestAlone 98 = .ok (.ldc2_w 167, 3) := by decide +kernel
theorem dX11_bestAlone_101 : decode cX11_bestAlone 101 = .ok (.lreturn, 1) := by decide +kernel
theorem dX11_bestAlone_102 : decode cX11_bestAlone 102 = .ok (.aload_n 0, 1) := by decide +kernel
theorem dX11_bestAlone_103 : decode cX11_bestAlone 103 = .ok (.iload 7, 2) := by decide +kernel
theorem dX11_bestAlone_105 : decode cX11_bestAlone 105 = .ok (.aload_n 1, 1) := by decide +kernel
theorem dX11_bestAlone_106 : decode cX11_bestAlone 106 = .ok (.getfield 151, 3) := by decide +kernel
theorem dX11_bestAlone_109 : decode cX11_bestAlone 109 = .ok (.invokevirtual 190, 3) := by decide +kernel
theorem dX11_bestAlone_112 : decode cX11_bestAlone 112 = .ok (.aload_n 0, 1) := by decide +kernel
theorem dX11_bestAlone_113 : decode cX11_bestAlone 113 = .ok (.getfield 49, 3) := by decide +kernel
theorem dX11_bestAlone_116 : decode cX11_bestAlone 116 = .ok (.iload_n 2, 1) := by decide +kernel
theorem dX11_bestAlone_117 : decode cX11_bestAlone 117 = .ok (.invokevirtual 194, 3) := by decide +kernel
theorem dX11_bestAlone_120 : decode cX11_bestAlone 120 = .ok (.aload_n 0, 1) := by decide +kernel
theorem dX11_bestAlone_121 : decode cX11_bestAlone 121 = .ok (.getfield 49, 3) := by decide +kernel
theorem dX11_bestAlone_124 : decode cX11_bestAlone 124 = .ok (.getfield 201, 3) := by decide +kernel
theorem dX11_bestAlone_127 : decode cX11_bestAlone 127 = .ok (.iload_n 3, 1) := by decide +kernel
theorem dX11_bestAlone_128 : decode cX11_bestAlone 128 = .ok (.invokestatic 172, 3) := by decide +kernel
theorem dX11_bestAlone_131 : decode cX11_bestAlone 131 = .ok (.lreturn, 1) := by decide +kernel
def f_X11_bestAlone_K83 (a0 : Nat) (a1 : Nat) (a2 : Int32) (a3 : Int32) (x11 : Int32) (S12 : HSt) : Option (Int64 × HSt) := if x11 = 0 then (some ((-9223372036854775808), S12)) else (bd2 (f_J6_bitCount_0f7a4 S12 x11) fun v16 S15 => if v16 ≤ 9 then ((gI S15 a1 7 8).bind fun v18 => if gC S15 a0 = some 11 then ((f_X11_setOdds S15 a0 x11 v18).bind fun S22 => (gR S22 a0 11 8).bind fun b23 => if gC S22 b23 = some 4 then (bd2 (f_X4_orMore S22 b23 a2) fun v28 S27 => (gR S27 a0 11 8).bind fun b29 => (gL S27 b29 4 2).bind fun v31 => bd2 (f_X11_partOf S27 v28 v31 a3) fun v35 S34 => some (v35, S34)) else none) else none) else (some ((-9223372036854775808), S15)))
def f_X11_bestAlone_B29 (a0 : Nat) (v10 : Int32) (v4 : Int32) (kx83 : (Int32 → HSt → Option (Int64 × HSt))) (kb29 : (Int32 → Int32 → Int32 → HSt → Option (Int64 × HSt))) (x36 : Int32) (x37 : Int32) (x38 : Int32) (S39 : HSt) : Option (Int64 × HSt) := if 6 ≤ x38 then (kx83 x37 S39) else (if gC S39 a0 = some 11 then (bd2 (f_X11_bitsOfMan S39 a0 x38) fun v44 S43 => bd2 (f_J6_bitCount_0f7a4 S43 ((v4 &&& v10) &&& (v4 &&& v44))) fun v47 S46 => if (v4 &&& v44) = 0 then (kb29 x36 x37 (x38 + 1) S46) else (if v47 ≤ x36 then (kb29 x36 x37 (x38 + 1) S46) else (kb29 v47 (v4 &&& v44) (x38 + 1) S46))) else none)
def f_X11_bestAlone_L29 (a0 : Nat) (v10 : Int32) (v4 : Int32) (kx83 : (Int32 → HSt → Option (Int64 × HSt))) : Nat → Int32 → Int32 → Int32 → HSt → Option (Int64 × HSt)
  | 0, _, _, _, _ => none
  | n + 1, x36, x37, x38, S => f_X11_bestAlone_B29 a0 v10 v4 kx83 (f_X11_bestAlone_L29 a0 v10 v4 kx83 n) x36 x37 x38 S
def f_X11_bestAlone (S : HSt) (a0 : Nat) (a1 : Nat) (a2 : Int32) (a3 : Int32) : Option (Int64 × HSt) := if gC S a0 = some 11 then (bd2 (f_X11_countedBits S a0 a1) fun v4 S3 => (gI S3 a1 7 8).bind fun v5 => if gC S3 a0 = some 11 then (bd2 (f_X11_bitsNoFartherThan S3 a0 v5) fun v10 S9 => (f_X11_bestAlone_L29 a0 v10 v4 (f_X11_bestAlone_K83 a0 a1 a2 a3) FU) (-1) 0 0 S9) else none) else none
abbrev rm_X11_bestAlone : Room := { frames := 5, cells := 0, slots := 0, locals := 122 }
abbrev w_X11_bestAlone : List Cond := Cond.code yX11_bestAlone cX11_bestAlone 11 (Option.some FieldType.long) :: lwG
theorem yd_X11_bestAlone : yX11_bestAlone.cls ≠ "java/lang/invoke/MethodHandle" ∧ yX11_bestAlone.cls ≠ "java/lang/invoke/VarHandle" ∧ (parseMethodDescriptor yX11_bestAlone.desc).map (fun d => d.parameters.length) = some 3 := by decide +kernel
theorem ye_X11_bestAlone : yX11_bestAlone.cls = RX11 ∧ yX11_bestAlone.cls ≠ "java/lang/invoke/MethodHandle" ∧ yX11_bestAlone.cls ≠ "java/lang/invoke/VarHandle" ∧ (parseMethodDescriptor yX11_bestAlone.desc).map (fun d => d.parameters.length) = some 3 := by decide +kernel
set_option maxHeartbeats 4000000 in
set_option maxRecDepth 100000 in
theorem c_X11_bestAlone (l : Launch) (D : va_G) (kA ρ : Nat → Nat) (HB : Heap) (S : HSt) (a0 : Nat) (a1 : Nat) (a2 : Int32) (a3 : Int32) (res : Int64 × HSt) (h : f_X11_bestAlone S a0 a1 a2 a3 = some res) : Met l yX11_bestAlone w_X11_bestAlone rm_X11_bestAlone (hPc D kA ρ HB S [.ref a0, .ref a1, .int a2, .int a3]) (hQl D kA HB S res) 0 0 (hFree HB) := by
  refine Met.ofW (cc := cX11_bestAlone) (maxL := 11) (ret := (Option.some FieldType.long)) (by decide) rfl ?_
  intro p e s m args below meth c s₁ B hml hv
  obtain ⟨rfl, hE, h0⟩ := hv
  have hx := B.exec
  have hb := B.bytes
  have hr := B.returns
  have hts0 := atoms_spec (ws := w_X11_bestAlone) B.pre
  have hts : ∀ w ∈ lwG, w.before _ s = true := fun w hw => hts0 w (List.mem_cons_of_mem _ hw)
  have hown : s.vm.findClass RX11 = some m.cls := findClass_of_methodNamed B.named
  have hlocks := B.notSynchronized
  have hI : hqX D kA HB S.2 S s.heap [] := ⟨h0, Nat.le_refl _, fun _ q => absurd q List.not_mem_nil⟩
  have hl := lv_entry ([.ref a0, .ref a1, .int a2, .int a3]) (n := 11) (Nat.le_of_ble_eq_true rfl)
  rw [lg_entry_eq]
  generalize (lg_sl ([.ref a0, .ref a1, .int a2, .int a3]) ++ List.replicate (11 - (lg_sl ([.ref a0, .ref a1, .int a2, .int a3])).length) Slot.unset).toArray = ls at hl ⊢
  have hl : lv_has ls 11 [(0, .ref a0), (1, .ref a1), (2, .int a2), (3, .int a3)] := hl
  unfold f_X11_bestAlone at h
  refine lv_aload_n hx hb dX11_bestAlone_0 rfl (lv_at hl 0 rfl) ?_
  refine lv_aload_n hx hb dX11_bestAlone_1 rfl (lv_at hl 1 rfl) ?_
  obtain ⟨g2, h⟩ := hq_g h
  obtain ⟨v4, S3, g1, h⟩ := hq_bd2 h
  refine hq_calli hI (va_runV (As := [.ref a1]) (rest := []) ⟨hx, hb, hml, hown, hts⟩ (c_X11_countedBits l D kA ρ HB S a0 a1 _ g1) (cwV 1 hts (gdIn (List.forall_mem_cons.mpr ⟨kw_561, (List.forall_mem_cons.mpr ⟨kw_563, (List.forall_mem_cons.mpr ⟨ks_11, (List.forall_mem_cons.mpr ⟨kw_1, (fun _ h => absurd h List.not_mem_nil)⟩)⟩)⟩)⟩) kw_564) rfl rfl rfl ye_X11_countedBits ⟨Nat.le_of_ble_eq_true rfl, Nat.le_of_ble_eq_true rfl⟩) (hq_preC hE hI g2 rfl _) rfl rfl hl.1 rfl (lv_room (Nat.le_of_ble_eq_true rfl)) dX11_bestAlone_2 ⟨Nat.le_of_ble_eq_true rfl, Nat.le_of_ble_eq_true rfl⟩) (fun H locs hI => ?_)
  refine lv_istore (lv' := [(4, .int v4), (0, .ref a0), (1, .ref a1), (2, .int a2), (3, .int a3)]) hx hb dX11_bestAlone_5 hl (by decide) rfl (fun ls hl => ?_)
  refine lv_iload hx hb dX11_bestAlone_7 (lv_at hl 0 rfl) ?_
  refine lv_aload_n hx hb dX11_bestAlone_9 rfl (lv_at hl 1 rfl) ?_
  refine lv_aload_n hx hb dX11_bestAlone_10 rfl (lv_at hl 2 rfl) ?_
  obtain ⟨v5, g6, h⟩ := hq_bind h
  obtain ⟨fs_g6, hs_g6, hv_g6⟩ := gI_at g6
  refine hq_getN hx hb hts hown hE hI hs_g6 inG7 rfl 8 (by decide) kn_104 hv_g6 dX11_bestAlone_11 ?_
  obtain ⟨g8, h⟩ := hq_g h
  obtain ⟨v10, S9, g7, h⟩ := hq_bd2 h
  refine hq_calli hI (va_runV (As := [.int v5]) (rest := [.int v4]) ⟨hx, hb, hml, hown, hts⟩ (c_X11_bitsNoFartherThan l D kA ρ HB S3 a0 v5 _ g7) (cwV 1 hts (gdIn (List.forall_mem_cons.mpr ⟨kw_591, (List.forall_mem_cons.mpr ⟨kw_593, (List.forall_mem_cons.mpr ⟨ks_14, (List.forall_mem_cons.mpr ⟨kw_1, (fun _ h => absurd h List.not_mem_nil)⟩)⟩)⟩)⟩) kw_594) rfl rfl rfl ye_X11_bitsNoFartherThan ⟨Nat.le_of_ble_eq_true rfl, Nat.le_of_ble_eq_true rfl⟩) (hq_preC hE hI g8 rfl _) rfl rfl hl.1 rfl (lv_room (Nat.le_of_ble_eq_true rfl)) dX11_bestAlone_14 ⟨Nat.le_of_ble_eq_true rfl, Nat.le_of_ble_eq_true rfl⟩) (fun H locs hI => ?_)
  refine lv_iand hx hb dX11_bestAlone_17 ?_
  refine lv_istore (lv' := [(5, .int (v4 &&& v10)), (4, .int v4), (0, .ref a0), (1, .ref a1), (2, .int a2), (3, .int a3)]) hx hb dX11_bestAlone_18 hl (by decide) rfl (fun ls hl => ?_)
  refine lv_iconst (v := (-1)) hx hb dX11_bestAlone_20 (by decide) ?_
  refine lv_istore (lv' := [(6, .int (-1)), (5, .int (v4 &&& v10)), (4, .int v4), (0, .ref a0), (1, .ref a1), (2, .int a2), (3, .int a3)]) hx hb dX11_bestAlone_21 hl (by decide) rfl (fun ls hl => ?_)
  refine lv_iconst (v := 0) hx hb dX11_bestAlone_23 (by decide) ?_
  refine lv_istore (lv' := [(7, .int 0), (6, .int (-1)), (5, .int (v4 &&& v10)), (4, .int v4), (0, .ref a0), (1, .ref a1), (2, .int a2), (3, .int a3)]) hx hb dX11_bestAlone_24 hl (by decide) rfl (fun ls hl => ?_)
  refine lv_iconst (v := 0) hx hb dX11_bestAlone_26 (by decide) ?_
  refine lv_istore (lv' := [(8, .int 0), (7, .int 0), (6, .int (-1)), (5, .int (v4 &&& v10)), (4, .int v4), (0, .ref a0), (1, .ref a1), (2, .int a2), (3, .int a3)]) hx hb dX11_bestAlone_27 hl (by decide) rfl (fun ls hl => ?_)
  have hK83 : ∀ (x11 : Int32) (S12 : HSt) (H : Heap) (locs : List Loc) (ls : Array Slot), (f_X11_bestAlone_K83 a0 a1 a2 a3) x11 S12 = some res → hqX D kA HB S.2 S12 H locs → lv_has ls 11 [(0, .ref a0), (1, .ref a1), (2, .int a2), (3, .int a3), (7, .int x11)] → W p l e rm_X11_bestAlone s m ([.ref a0, .ref a1, .int a2, .int a3] : List Value).toArray below meth c H locs 0 0 (MQ below (hQl D kA HB S res) ([.ref a0, .ref a1, .int a2, .int a3] : List Value).toArray s 0 0 (hFree HB)) (F0 m 83 ls []) := by
    intro x11 S12 H locs ls h hI hl
    unfold f_X11_bestAlone_K83 at h
    refine lv_iload hx hb dX11_bestAlone_83 (lv_at hl 4 rfl) ?_
    refine lv_if_eq (tgt := 98) hx hb dX11_bestAlone_85 (by decide) (fun c13 => ?_) (fun c13 => ?_)
    · have h := hq_t h c13
      refine lv_ldc2 (v := (-9223372036854775808)) hx hb hown (hts _ kw_617) dX11_bestAlone_98 ?_
      exact hq_lret hx hb hr hlocks h0 hI h dX11_bestAlone_101
    · have h := hq_f h c13
      refine lv_iload hx hb dX11_bestAlone_88 (lv_at hl 4 rfl) ?_
      obtain ⟨v16, S15, g14, h⟩ := hq_bd2 h
      refine hq_calli hI (va_runS (As := [.int x11]) (rest := []) ⟨hx, hb, hml, hown, hts⟩ (c_J6_bitCount_0f7a4 l D kA ρ HB S12 x11 _ g14) (va_cwS 1 hts (gdIn (List.forall_mem_cons.mpr ⟨kw_607, (List.forall_mem_cons.mpr ⟨kw_608, (List.forall_mem_cons.mpr ⟨kw_20, (fun _ h => absurd h List.not_mem_nil)⟩)⟩)⟩) kw_609) rfl rfl rfl yd_J6_bitCount_0f7a4 ⟨Nat.le_of_ble_eq_true rfl, Nat.le_of_ble_eq_true rfl⟩) (hq_preS hE hI _) rfl rfl hl.1 rfl (lv_room (Nat.le_of_ble_eq_true rfl)) dX11_bestAlone_90 ⟨Nat.le_of_ble_eq_true rfl, Nat.le_of_ble_eq_true rfl⟩) (fun H locs hI => ?_)
      refine lv_bipush (v := 9) hx hb dX11_bestAlone_93 (by decide) ?_
      refine lv_icmp_le (tgt := 102) hx hb dX11_bestAlone_95 (by decide) (fun c17 => ?_) (fun c17 => ?_)
      · have h := hq_t h c17
        refine lv_aload_n hx hb dX11_bestAlone_102 rfl (lv_at hl 0 rfl) ?_
        refine lv_iload hx hb dX11_bestAlone_103 (lv_at hl 4 rfl) ?_
        refine lv_aload_n hx hb dX11_bestAlone_105 rfl (lv_at hl 1 rfl) ?_
        obtain ⟨v18, g19, h⟩ := hq_bind h
        obtain ⟨fs_g19, hs_g19, hv_g19⟩ := gI_at g19
        refine hq_getN hx hb hts hown hE hI hs_g19 inG7 rfl 8 (by decide) kn_104 hv_g19 dX11_bestAlone_106 ?_
        obtain ⟨g21, h⟩ := hq_g h
        obtain ⟨S22, g20, h⟩ := hq_bind h
        refine hq_callv hI (va_runV (As := [.int x11, .int v18]) (rest := []) ⟨hx, hb, hml, hown, hts⟩ (c_X11_setOdds l D kA ρ HB S15 a0 x11 v18 _ g20) (cwV 2 hts (gdIn (List.forall_mem_cons.mpr ⟨kw_644, (List.forall_mem_cons.mpr ⟨kw_646, (List.forall_mem_cons.mpr ⟨ks_19, (List.forall_mem_cons.mpr ⟨kw_1, (fun _ h => absurd h List.not_mem_nil)⟩)⟩)⟩)⟩) kw_647) rfl rfl rfl ye_X11_setOdds ⟨Nat.le_of_ble_eq_true rfl, Nat.le_of_ble_eq_true rfl⟩) (hq_preC hE hI g21 rfl _) rfl rfl hl.1 rfl (lv_room (Nat.le_of_ble_eq_true rfl)) dX11_bestAlone_109 ⟨Nat.le_of_ble_eq_true rfl, Nat.le_of_ble_eq_true rfl⟩) (fun H locs hI => ?_)
        refine lv_aload_n hx hb dX11_bestAlone_112 rfl (lv_at hl 0 rfl) ?_
        obtain ⟨b23, g24, h⟩ := hq_bind h
        obtain ⟨fs_g24, hs_g24, hv_g24⟩ := gR_at g24
        refine hq_get hx hb hts hown hE hI hs_g24 inG11 rfl 8 (by decide) kw_140 hv_g24 dX11_bestAlone_113 ?_
        refine lv_iload_n hx hb dX11_bestAlone_116 rfl (lv_at hl 2 rfl) ?_
        obtain ⟨g26, h⟩ := hq_g h
        obtain ⟨v28, S27, g25, h⟩ := hq_bd2 h
        refine hq_calll hI (va_runV (As := [.int a2]) (rest := []) ⟨hx, hb, hml, hown, hts⟩ (c_X4_orMore l D kA ρ HB S22 b23 a2 _ g25) (cwV 1 hts (gdIn (List.forall_mem_cons.mpr ⟨kw_659, (List.forall_mem_cons.mpr ⟨kw_660, (List.forall_mem_cons.mpr ⟨kw_661, (List.forall_mem_cons.mpr ⟨kw_3, (fun _ h => absurd h List.not_mem_nil)⟩)⟩)⟩)⟩) kw_662) rfl rfl rfl ye_X4_orMore ⟨Nat.le_of_ble_eq_true rfl, Nat.le_of_ble_eq_true rfl⟩) (hq_preC hE hI g26 rfl _) rfl rfl hl.1 rfl (lv_room (Nat.le_of_ble_eq_true rfl)) dX11_bestAlone_117 ⟨Nat.le_of_ble_eq_true rfl, Nat.le_of_ble_eq_true rfl⟩) (fun H locs hI => ?_)
        refine lv_aload_n hx hb dX11_bestAlone_120 rfl (lv_at hl 0 rfl) ?_
        obtain ⟨b29, g30, h⟩ := hq_bind h
        obtain ⟨fs_g30, hs_g30, hv_g30⟩ := gR_at g30
        refine hq_get hx hb hts hown hE hI hs_g30 inG11 rfl 8 (by decide) kw_140 hv_g30 dX11_bestAlone_121 ?_
        obtain ⟨v31, g32, h⟩ := hq_bind h
        obtain ⟨fs_g32, hs_g32, hv_g32⟩ := gL_at g32
        refine hq_getN hx hb hts hown hE hI hs_g32 inG4 rfl 2 (by decide) kn_62 hv_g32 dX11_bestAlone_124 ?_
        refine lv_iload_n hx hb dX11_bestAlone_127 rfl (lv_at hl 3 rfl) ?_
        obtain ⟨v35, S34, g33, h⟩ := hq_bd2 h
        refine hq_calll hI (va_runS (As := [.long v28, .long v31, .int a3]) (rest := []) ⟨hx, hb, hml, hown, hts⟩ (c_X11_partOf l D kA ρ HB S27 v28 v31 a3 _ g33) (va_cwS 3 hts (gdIn (List.forall_mem_cons.mpr ⟨kw_624, (List.forall_mem_cons.mpr ⟨kw_625, (List.forall_mem_cons.mpr ⟨kw_1, (fun _ h => absurd h List.not_mem_nil)⟩)⟩)⟩) kw_626) rfl rfl rfl yd_X11_partOf ⟨Nat.le_of_ble_eq_true rfl, Nat.le_of_ble_eq_true rfl⟩) (hq_preS hE hI _) rfl rfl hl.1 rfl (lv_room (Nat.le_of_ble_eq_true rfl)) dX11_bestAlone_128 ⟨Nat.le_of_ble_eq_true rfl, Nat.le_of_ble_eq_true rfl⟩) (fun H locs hI => ?_)
        exact hq_lret hx hb hr hlocks h0 hI h dX11_bestAlone_131
      · have h := hq_f h c17
        refine lv_ldc2 (v := (-9223372036854775808)) hx hb hown (hts _ kw_617) dX11_bestAlone_98 ?_
        exact hq_lret hx hb hr hlocks h0 hI h dX11_bestAlone_101
  have hL29 : ∀ (n29 : Nat) (x36 : Int32) (x37 : Int32) (x38 : Int32) (S39 : HSt) (H : Heap) (locs : List Loc) (ls : Array Slot), (f_X11_bestAlone_L29 a0 v10 v4 (f_X11_bestAlone_K83 a0 a1 a2 a3) n29) x36 x37 x38 S39 = some res → hqX D kA HB S.2 S39 H locs → lv_has ls 11 [(0, .ref a0), (1, .ref a1), (2, .int a2), (3, .int a3), (4, .int v4), (5, .int (v4 &&& v10)), (6, .int x36), (7, .int x37), (8, .int x38)] → W p l e rm_X11_bestAlone s m ([.ref a0, .ref a1, .int a2, .int a3] : List Value).toArray below meth c H locs 0 0 (MQ below (hQl D kA HB S res) ([.ref a0, .ref a1, .int a2, .int a3] : List Value).toArray s 0 0 (hFree HB)) (F0 m 29 ls []) := by
    intro n29
    induction n29 with
    | zero =>
      intro x36 x37 x38 S39 H locs ls h
      have h : (none : Option (Int64 × HSt)) = some res := h
      cases h
    | succ n29 ih29 =>
      intro x36 x37 x38 S39 H locs ls h hI hl
      have h : f_X11_bestAlone_B29 a0 v10 v4 (f_X11_bestAlone_K83 a0 a1 a2 a3) (f_X11_bestAlone_L29 a0 v10 v4 (f_X11_bestAlone_K83 a0 a1 a2 a3) n29) x36 x37 x38 S39 = some res := h
      unfold f_X11_bestAlone_B29 at h
      refine lv_iload hx hb dX11_bestAlone_29 (lv_at hl 8 rfl) ?_
      refine lv_bipush (v := 6) hx hb dX11_bestAlone_31 (by decide) ?_
      refine lv_icmp_ge (tgt := 83) hx hb dX11_bestAlone_33 (by decide) (fun c40 => ?_) (fun c40 => ?_)
      · have h := hq_t h c40
        exact hK83 x37 S39 _ _ _ h hI (lv_sub hl [0, 1, 2, 3, 7] rfl)
      · have h := hq_f h c40
        refine lv_iload hx hb dX11_bestAlone_36 (lv_at hl 4 rfl) ?_
        refine lv_aload_n hx hb dX11_bestAlone_38 rfl (lv_at hl 0 rfl) ?_
        refine lv_iload hx hb dX11_bestAlone_39 (lv_at hl 8 rfl) ?_
        obtain ⟨g42, h⟩ := hq_g h
        obtain ⟨v44, S43, g41, h⟩ := hq_bd2 h
        refine hq_calli hI (va_runV (As := [.int x38]) (rest := [.int v4]) ⟨hx, hb, hml, hown, hts⟩ (c_X11_bitsOfMan l D kA ρ HB S39 a0 x38 _ g41) (cwV 1 hts (gdIn (List.forall_mem_cons.mpr ⟨kw_603, (List.forall_mem_cons.mpr ⟨kw_605, (List.forall_mem_cons.mpr ⟨ks_16, (List.forall_mem_cons.mpr ⟨kw_1, (fun _ h => absurd h List.not_mem_nil)⟩)⟩)⟩)⟩) kw_606) rfl rfl rfl ye_X11_bitsOfMan ⟨Nat.le_of_ble_eq_true rfl, Nat.le_of_ble_eq_true rfl⟩) (hq_preC hE hI g42 rfl _) rfl rfl hl.1 rfl (lv_room (Nat.le_of_ble_eq_true rfl)) dX11_bestAlone_41 ⟨Nat.le_of_ble_eq_true rfl, Nat.le_of_ble_eq_true rfl⟩) (fun H locs hI => ?_)
        refine lv_iand hx hb dX11_bestAlone_44 ?_
        refine lv_istore (lv' := [(9, .int (v4 &&& v44)), (0, .ref a0), (1, .ref a1), (2, .int a2), (3, .int a3), (4, .int v4), (5, .int (v4 &&& v10)), (6, .int x36), (7, .int x37), (8, .int x38)]) hx hb dX11_bestAlone_45 hl (by decide) rfl (fun ls hl => ?_)
        refine lv_iload hx hb dX11_bestAlone_47 (lv_at hl 6 rfl) ?_
        refine lv_iload hx hb dX11_bestAlone_49 (lv_at hl 0 rfl) ?_
        refine lv_iand hx hb dX11_bestAlone_51 ?_
        obtain ⟨v47, S46, g45, h⟩ := hq_bd2 h
        refine hq_calli hI (va_runS (As := [.int ((v4 &&& v10) &&& (v4 &&& v44))]) (rest := []) ⟨hx, hb, hml, hown, hts⟩ (c_J6_bitCount_0f7a4 l D kA ρ HB S43 ((v4 &&& v10) &&& (v4 &&& v44)) _ g45) (va_cwS 1 hts (gdIn (List.forall_mem_cons.mpr ⟨kw_607, (List.forall_mem_cons.mpr ⟨kw_608, (List.forall_mem_cons.mpr ⟨kw_20, (fun _ h => absurd h List.not_mem_nil)⟩)⟩)⟩) kw_609) rfl rfl rfl yd_J6_bitCount_0f7a4 ⟨Nat.le_of_ble_eq_true rfl, Nat.le_of_ble_eq_true rfl⟩) (hq_preS hE hI _) rfl rfl hl.1 rfl (lv_room (Nat.le_of_ble_eq_true rfl)) dX11_bestAlone_52 ⟨Nat.le_of_ble_eq_true rfl, Nat.le_of_ble_eq_true rfl⟩) (fun H locs hI => ?_)
        refine lv_istore (lv' := [(10, .int v47), (9, .int (v4 &&& v44)), (0, .ref a0), (1, .ref a1), (2, .int a2), (3, .int a3), (4, .int v4), (5, .int (v4 &&& v10)), (6, .int x36), (7, .int x37), (8, .int x38)]) hx hb dX11_bestAlone_55 hl (by decide) rfl (fun ls hl => ?_)
        refine lv_iload hx hb dX11_bestAlone_57 (lv_at hl 1 rfl) ?_
        refine lv_if_eq (tgt := 77) hx hb dX11_bestAlone_59 (by decide) (fun c48 => ?_) (fun c48 => ?_)
        · have h := hq_t h c48
          refine lv_iinc (v := (x38 + 1)) (lv' := [(8, .int (x38 + 1)), (10, .int v47), (9, .int (v4 &&& v44)), (0, .ref a0), (1, .ref a1), (2, .int a2), (3, .int a3), (4, .int v4), (5, .int (v4 &&& v10)), (6, .int x36), (7, .int x37)]) hx hb dX11_bestAlone_77 hl (k := 10) rfl rfl (by decide) rfl (fun ls hl => ?_)
          refine lv_goto (tgt := 29) hx hb dX11_bestAlone_80 (by decide) ?_
          exact ih29 x36 x37 (x38 + 1) S46 _ _ _ h hI (lv_sub hl [3, 4, 5, 6, 7, 8, 9, 10, 0] rfl)
        · have h := hq_f h c48
          refine lv_iload hx hb dX11_bestAlone_62 (lv_at hl 0 rfl) ?_
          refine lv_iload hx hb dX11_bestAlone_64 (lv_at hl 8 rfl) ?_
          refine lv_icmp_le (tgt := 77) hx hb dX11_bestAlone_66 (by decide) (fun c49 => ?_) (fun c49 => ?_)
          · have h := hq_t h c49
            refine lv_iinc (v := (x38 + 1)) (lv' := [(8, .int (x38 + 1)), (10, .int v47), (9, .int (v4 &&& v44)), (0, .ref a0), (1, .ref a1), (2, .int a2), (3, .int a3), (4, .int v4), (5, .int (v4 &&& v10)), (6, .int x36), (7, .int x37)]) hx hb dX11_bestAlone_77 hl (k := 10) rfl rfl (by decide) rfl (fun ls hl => ?_)
            refine lv_goto (tgt := 29) hx hb dX11_bestAlone_80 (by decide) ?_
            exact ih29 x36 x37 (x38 + 1) S46 _ _ _ h hI (lv_sub hl [3, 4, 5, 6, 7, 8, 9, 10, 0] rfl)
          · have h := hq_f h c49
            refine lv_iload hx hb dX11_bestAlone_69 (lv_at hl 0 rfl) ?_
            refine lv_istore (lv' := [(6, .int v47), (10, .int v47), (9, .int (v4 &&& v44)), (0, .ref a0), (1, .ref a1), (2, .int a2), (3, .int a3), (4, .int v4), (5, .int (v4 &&& v10)), (7, .int x37), (8, .int x38)]) hx hb dX11_bestAlone_71 hl (by decide) rfl (fun ls hl => ?_)
            refine lv_iload hx hb dX11_bestAlone_73 (lv_at hl 2 rfl) ?_
            refine lv_istore (lv' := [(7, .int (v4 &&& v44)), (6, .int v47), (10, .int v47), (9, .int (v4 &&& v44)), (0, .ref a0), (1, .ref a1), (2, .int a2), (3, .int a3), (4, .int v4), (5, .int (v4 &&& v10)), (8, .int x38)]) hx hb dX11_bestAlone_75 hl (by decide) rfl (fun ls hl => ?_)
            refine lv_iinc (v := (x38 + 1)) (lv' := [(8, .int (x38 + 1)), (7, .int (v4 &&& v44)), (6, .int v47), (10, .int v47), (9, .int (v4 &&& v44)), (0, .ref a0), (1, .ref a1), (2, .int a2), (3, .int a3), (4, .int v4), (5, .int (v4 &&& v10))]) hx hb dX11_bestAlone_77 hl (k := 10) rfl rfl (by decide) rfl (fun ls hl => ?_)
            refine lv_goto (tgt := 29) hx hb dX11_bestAlone_80 (by decide) ?_
            exact ih29 v47 (v4 &&& v44) (x38 + 1) S46 _ _ _ h hI (lv_sub hl [5, 6, 7, 8, 9, 10, 2, 1, 0] rfl)
  exact hL29 FU (-1) 0 0 S9 _ _ _ h hI (lv_sub hl [5, 6, 7, 8, 4, 3, 2, 1, 0] rfl)
-- RodDips.best(IIII)J
theorem dX11_best_0 : decode cX11_best 0 = .ok (.aload_n 0, 1) := by decide +kernel
theorem dX11_best_1 : decode cX11_best 1 = .ok (.iload_n 1, 1) := by decide +kernel
theorem dX11_best_2 : decode cX11_best 2 = .ok (.invokevirtual 147, 3) := by decide +kernel
theorem dX11_best_5 : decode cX11_best 5 = .ok (.astore 5, 2) := by decide +kernel
theorem dX11_best_7 : decode cX11_best 7 = .ok (.aload 5, 2) := by decide +kernel
theorem dX11_best_9 : decode cX11_best 9 = .ok (.ifnull 17, 3) := by decide +kernel
theorem dX11_best_12 : decode cX11_best 12 = .ok (.iload_n 2, 1) := by decide +kernel
theorem dX11_best_13 : decode cX11_best 13 = .ok (.invokestatic 179, 3) := by decide +kernel
theorem dX11_best_16 : decode cX11_best 16 = .ok (.ifCond .eq 10, 3) := by decide +kernel
theorem dX11_best_19 : decode cX11_best 19 = .ok (.iload_n 3, 1) := by decide +kernel
theorem dX11_best_20 : decode cX11_best 20 = .ok (.invokestatic 182, 3) := by decide +kernel
theorem dX11_best_23 : decode cX11_best 23 = .ok (.ifCond .ne 7, 3) := by decide +kernel
theorem dX11_best_26 : decode cX11_best 26 = .ok (.ldc2_w 167, 3) := by decide +kernel
theorem dX11_best_29 : decode cX11_best 29 = .ok (.lreturn, 1) := by decide +kernel
theorem dX11_best_30 : decode cX11_best 30 = .ok (.iload_n 3, 1) := by decide +kernel
theorem dX11_best_31 : decode cX11_best 31 = .ok (.ifCond .ne 15, 3) := by decide +kernel
theorem dX11_best_34 : decode cX11_best 34 = .ok (.aload_n 0, 1) := by decide +kernel
theorem dX11_best_35 : decode cX11_best 35 = .ok (.aload 5, 2) := by decide +kernel
theorem dX11_best_37 : decode cX11_best 37 = .ok (.iload_n 2, 1) := by decide +kernel
theorem dX11_best_38 : decode cX11_best 38 = .ok (.iload 4, 2) := by decide +kernel
theorem dX11_best_40 : decode cX11_best 40 = .ok (.invokevirtual 205, 3) := by decide +kernel
theorem dX11_best_43 : decode cX11_best 43 = .ok (.goto 12, 3) := by decide +kernel
theorem dX11_best_46 : decode cX11_best 46 = .ok (.aload_n 0, 1) := by decide +kernel
theorem dX11_best_47 : decode cX11_best 47 = .ok (.aload 5, 2) := by decide +kernel
theorem dX11_best_49 : decode cX11_best 49 = .ok (.iload_n 2, 1) := by decide +kernel
theorem dX11_best_50 : decode cX11_best 50 = .ok (.iload 4, 2) := by decide +kernel
theorem dX11_best_52 : decode cX11_best 52 = .ok (.invokevirtual 209, 3) := by decide +kernel
theorem dX11_best_55 : decode cX11_best 55 = .ok (.lreturn, 1) := by decide +kernel
def f_X11_best (S : HSt) (a0 : Nat) (a1 : Int32) (a2 : Int32) (a3 : Int32) (a4 : Int32) : Option (Int64 × HSt) := if gC S a0 = some 11 then (bd2 (f_X11_planAt S a0 a1) fun b4 S3 => oC b4 (some ((-9223372036854775808), S3)) fun r5 => bd2 (f_X11_isHitNumber S3 a2) fun v8 S7 => if v8 = 0 then (some ((-9223372036854775808), S7)) else (bd2 (f_X11_isOneOfTwo S7 a3) fun v12 S11 => if v12 = 0 then (some ((-9223372036854775808), S11)) else (if a3 = 0 then (if gC S11 a0 = some 11 then (bd2 (f_X11_bestOfMen S11 a0 r5 a2 a4) fun v22 S21 => some (v22, S21)) else none) else (if gC S11 a0 = some 11 then (bd2 (f_X11_bestAlone S11 a0 r5 a2 a4) fun v18 S17 => some (v18, S17)) else none)))) else none
abbrev rm_X11_best : Room := { frames := 6, cells := 0, slots := 0, locals := 152 }
abbrev w_X11_best : List Cond := Cond.code yX11_best cX11_best 6 (Option.some FieldType.long) :: lwG
theorem yd_X11_best : yX11_best.cls ≠ "java/lang/invoke/MethodHandle" ∧ yX11_best.cls ≠ "java/lang/invoke/VarHandle" ∧ (parseMethodDescriptor yX11_best.desc).map (fun d => d.parameters.length) = some 4 := by decide +kernel
theorem ye_X11_best : yX11_best.cls = RX11 ∧ yX11_best.cls ≠ "java/lang/invoke/MethodHandle" ∧ yX11_best.cls ≠ "java/lang/invoke/VarHandle" ∧ (parseMethodDescriptor yX11_best.desc).map (fun d => d.parameters.length) = some 4 := by decide +kernel
set_option maxHeartbeats 4000000 in
set_option maxRecDepth 100000 in
theorem c_X11_best (l : Launch) (D : va_G) (kA ρ : Nat → Nat) (HB : Heap) (S : HSt) (a0 : Nat) (a1 : Int32) (a2 : Int32) (a3 : Int32) (a4 : Int32) (res : Int64 × HSt) (h : f_X11_best S a0 a1 a2 a3 a4 = some res) : Met l yX11_best w_X11_best rm_X11_best (hPc D kA ρ HB S [.ref a0, .int a1, .int a2, .int a3, .int a4]) (hQl D kA HB S res) 0 0 (hFree HB) := by
  refine Met.ofW (cc := cX11_best) (maxL := 6) (ret := (Option.some FieldType.long)) (by decide) rfl ?_
  intro p e s m args below meth c s₁ B hml hv
  obtain ⟨rfl, hE, h0⟩ := hv
  have hx := B.exec
  have hb := B.bytes
  have hr := B.returns
  have hts0 := atoms_spec (ws := w_X11_best) B.pre
  have hts : ∀ w ∈ lwG, w.before _ s = true := fun w hw => hts0 w (List.mem_cons_of_mem _ hw)
  have hown : s.vm.findClass RX11 = some m.cls := findClass_of_methodNamed B.named
  have hlocks := B.notSynchronized
  have hI : hqX D kA HB S.2 S s.heap [] := ⟨h0, Nat.le_refl _, fun _ q => absurd q List.not_mem_nil⟩
  have hl := lv_entry ([.ref a0, .int a1, .int a2, .int a3, .int a4]) (n := 6) (Nat.le_of_ble_eq_true rfl)
  rw [lg_entry_eq]
  generalize (lg_sl ([.ref a0, .int a1, .int a2, .int a3, .int a4]) ++ List.replicate (6 - (lg_sl ([.ref a0, .int a1, .int a2, .int a3, .int a4])).length) Slot.unset).toArray = ls at hl ⊢
  have hl : lv_has ls 6 [(0, .ref a0), (1, .int a1), (2, .int a2), (3, .int a3), (4, .int a4)] := hl
  unfold f_X11_best at h
  refine lv_aload_n hx hb dX11_best_0 rfl (lv_at hl 0 rfl) ?_
  refine lv_iload_n hx hb dX11_best_1 rfl (lv_at hl 1 rfl) ?_
  obtain ⟨g2, h⟩ := hq_g h
  obtain ⟨b4, S3, g1, h⟩ := hq_bd2 h
  refine hq_callq hI (va_runV (As := [.int a1]) (rest := []) ⟨hx, hb, hml, hown, hts⟩ (c_X11_planAt l D kA ρ HB S a0 a1 _ g1) (cwV 1 hts (gdIn (List.forall_mem_cons.mpr ⟨kw_557, (List.forall_mem_cons.mpr ⟨kw_559, (List.forall_mem_cons.mpr ⟨ks_10, (List.forall_mem_cons.mpr ⟨kw_1, (fun _ h => absurd h List.not_mem_nil)⟩)⟩)⟩)⟩) kw_560) rfl rfl rfl ye_X11_planAt ⟨Nat.le_of_ble_eq_true rfl, Nat.le_of_ble_eq_true rfl⟩) (hq_preC hE hI g2 rfl _) rfl rfl hl.1 rfl (lv_room (Nat.le_of_ble_eq_true rfl)) dX11_best_2 ⟨Nat.le_of_ble_eq_true rfl, Nat.le_of_ble_eq_true rfl⟩) (fun H locs hI => ?_)
  rcases b4 with _ | r5
  · have h := oC_n h
    refine lv_astoreN (lv' := [(5, .null), (0, .ref a0), (1, .int a1), (2, .int a2), (3, .int a3), (4, .int a4)]) hx hb dX11_best_5 hl (by decide) rfl (fun ls hl => ?_)
    refine lv_aloadN hx hb dX11_best_7 (lv_at hl 0 rfl) ?_
    refine lv_ifnullN (tgt := 26) hx hb dX11_best_9 (by decide) ?_
    refine lv_ldc2 (v := (-9223372036854775808)) hx hb hown (hts _ kw_617) dX11_best_26 ?_
    exact hq_lret hx hb hr hlocks h0 hI h dX11_best_29
  · have h := oC_s h
    refine lv_astore (lv' := [(5, .ref r5), (0, .ref a0), (1, .int a1), (2, .int a2), (3, .int a3), (4, .int a4)]) hx hb dX11_best_5 hl (by decide) rfl (fun ls hl => ?_)
    refine lv_aload hx hb dX11_best_7 (lv_at hl 0 rfl) ?_
    refine lv_ifnull hx hb dX11_best_9 ?_
    refine lv_iload_n hx hb dX11_best_12 rfl (lv_at hl 3 rfl) ?_
    obtain ⟨v8, S7, g6, h⟩ := hq_bd2 h
    refine hq_calli hI (va_runS (As := [.int a2]) (rest := []) ⟨hx, hb, hml, hown, hts⟩ (c_X11_isHitNumber l D kA ρ HB S3 a2 _ g6) (va_cwS 1 hts (gdIn (List.forall_mem_cons.mpr ⟨kw_641, (List.forall_mem_cons.mpr ⟨kw_642, (List.forall_mem_cons.mpr ⟨kw_1, (fun _ h => absurd h List.not_mem_nil)⟩)⟩)⟩) kw_643) rfl rfl rfl yd_X11_isHitNumber ⟨Nat.le_of_ble_eq_true rfl, Nat.le_of_ble_eq_true rfl⟩) (hq_preS hE hI _) rfl rfl hl.1 rfl (lv_room (Nat.le_of_ble_eq_true rfl)) dX11_best_13 ⟨Nat.le_of_ble_eq_true rfl, Nat.le_of_ble_eq_true rfl⟩) (fun H locs hI => ?_)
    refine lv_if_eq (tgt := 26) hx hb dX11_best_16 (by decide) (fun c9 => ?_) (fun c9 => ?_)
    · have h := hq_t h c9
      refine lv_ldc2 (v := (-9223372036854775808)) hx hb hown (hts _ kw_617) dX11_best_26 ?_
      exact hq_lret hx hb hr hlocks h0 hI h dX11_best_29
    · have h := hq_f h c9
      refine lv_iload_n hx hb dX11_best_19 rfl (lv_at hl 4 rfl) ?_
      obtain ⟨v12, S11, g10, h⟩ := hq_bd2 h
      refine hq_calli hI (va_runS (As := [.int a3]) (rest := []) ⟨hx, hb, hml, hown, hts⟩ (c_X11_isOneOfTwo l D kA ρ HB S7 a3 _ g10) (va_cwS 1 hts (gdIn (List.forall_mem_cons.mpr ⟨kw_630, (List.forall_mem_cons.mpr ⟨kw_631, (List.forall_mem_cons.mpr ⟨kw_1, (fun _ h => absurd h List.not_mem_nil)⟩)⟩)⟩) kw_632) rfl rfl rfl yd_X11_isOneOfTwo ⟨Nat.le_of_ble_eq_true rfl, Nat.le_of_ble_eq_true rfl⟩) (hq_preS hE hI _) rfl rfl hl.1 rfl (lv_room (Nat.le_of_ble_eq_true rfl)) dX11_best_20 ⟨Nat.le_of_ble_eq_true rfl, Nat.le_of_ble_eq_true rfl⟩) (fun H locs hI => ?_)
      refine lv_if_ne (tgt := 30) hx hb dX11_best_23 (by decide) (fun c13 => ?_) (fun c13 => ?_)
      · have h := hq_f h c13
        refine lv_iload_n hx hb dX11_best_30 rfl (lv_at hl 4 rfl) ?_
        refine lv_if_ne (tgt := 46) hx hb dX11_best_31 (by decide) (fun c14 => ?_) (fun c14 => ?_)
        · have h := hq_f h c14
          refine lv_aload_n hx hb dX11_best_46 rfl (lv_at hl 1 rfl) ?_
          refine lv_aload hx hb dX11_best_47 (lv_at hl 0 rfl) ?_
          refine lv_iload_n hx hb dX11_best_49 rfl (lv_at hl 3 rfl) ?_
          refine lv_iload hx hb dX11_best_50 (lv_at hl 5 rfl) ?_
          obtain ⟨g16, h⟩ := hq_g h
          obtain ⟨v18, S17, g15, h⟩ := hq_bd2 h
          refine hq_calll hI (va_runV (As := [.ref r5, .int a2, .int a4]) (rest := []) ⟨hx, hb, hml, hown, hts⟩ (c_X11_bestAlone l D kA ρ HB S11 a0 r5 a2 a4 _ g15) (cwV 3 hts (gdIn (List.forall_mem_cons.mpr ⟨kw_681, (List.forall_mem_cons.mpr ⟨kw_683, (List.forall_mem_cons.mpr ⟨ks_21, (List.forall_mem_cons.mpr ⟨kw_1, (fun _ h => absurd h List.not_mem_nil)⟩)⟩)⟩)⟩) kw_684) rfl rfl rfl ye_X11_bestAlone ⟨Nat.le_of_ble_eq_true rfl, Nat.le_of_ble_eq_true rfl⟩) (hq_preC hE hI g16 rfl _) rfl rfl hl.1 rfl (lv_room (Nat.le_of_ble_eq_true rfl)) dX11_best_52 ⟨Nat.le_of_ble_eq_true rfl, Nat.le_of_ble_eq_true rfl⟩) (fun H locs hI => ?_)
          exact hq_lret hx hb hr hlocks h0 hI h dX11_best_55
        · have h := hq_t h c14
          refine lv_aload_n hx hb dX11_best_34 rfl (lv_at hl 1 rfl) ?_
          refine lv_aload hx hb dX11_best_35 (lv_at hl 0 rfl) ?_
          refine lv_iload_n hx hb dX11_best_37 rfl (lv_at hl 3 rfl) ?_
          refine lv_iload hx hb dX11_best_38 (lv_at hl 5 rfl) ?_
          obtain ⟨g20, h⟩ := hq_g h
          obtain ⟨v22, S21, g19, h⟩ := hq_bd2 h
          refine hq_calll hI (va_runV (As := [.ref r5, .int a2, .int a4]) (rest := []) ⟨hx, hb, hml, hown, hts⟩ (c_X11_bestOfMen l D kA ρ HB S11 a0 r5 a2 a4 _ g19) (cwV 3 hts (gdIn (List.forall_mem_cons.mpr ⟨kw_676, (List.forall_mem_cons.mpr ⟨kw_678, (List.forall_mem_cons.mpr ⟨ks_20, (List.forall_mem_cons.mpr ⟨kw_1, (fun _ h => absurd h List.not_mem_nil)⟩)⟩)⟩)⟩) kw_679) rfl rfl rfl ye_X11_bestOfMen ⟨Nat.le_of_ble_eq_true rfl, Nat.le_of_ble_eq_true rfl⟩) (hq_preC hE hI g20 rfl _) rfl rfl hl.1 rfl (lv_room (Nat.le_of_ble_eq_true rfl)) dX11_best_40 ⟨Nat.le_of_ble_eq_true rfl, Nat.le_of_ble_eq_true rfl⟩) (fun H locs hI => ?_)
          refine lv_goto (tgt := 55) hx hb dX11_best_43 (by decide) ?_
          exact hq_lret hx hb hr hlocks h0 hI h dX11_best_55
      · have h := hq_t h c13
        refine lv_ldc2 (v := (-9223372036854775808)) hx hb hown (hts _ kw_617) dX11_best_26 ?_
        exact hq_lret hx hb hr hlocks h0 hI h dX11_best_29
