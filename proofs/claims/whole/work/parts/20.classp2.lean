/-! the class reads texts: printed by wip/whole/gen.py -/
-- RodDips$Tape.readClause(LRodDips$Text;)Z
theorem dX6_readClause_0 : decode cX6_readClause 0 = .ok (.aload_n 0, 1) := by decide +kernel
theorem dX6_readClause_1 : decode cX6_readClause 1 = .ok (.invokevirtual 43, 3) := by decide +kernel
theorem dX6_readClause_4 : decode cX6_readClause 4 = .ok (.istore_n 2, 1) := by decide +kernel
theorem dX6_readClause_5 : decode cX6_readClause 5 = .ok (.aload_n 1, 1) := by decide +kernel
theorem dX6_readClause_6 : decode cX6_readClause 6 = .ok (.iload_n 2, 1) := by decide +kernel
theorem dX6_readClause_7 : decode cX6_readClause 7 = .ok (.invokevirtual 47, 3) := by decide +kernel
theorem dX6_readClause_10 : decode cX6_readClause 10 = .ok (.astore_n 3, 1) := by decide +kernel
theorem dX6_readClause_11 : decode cX6_readClause 11 = .ok (.aload_n 3, 1) := by decide +kernel
theorem dX6_readClause_12 : decode cX6_readClause 12 = .ok (.invokevirtual 51, 3) := by decide +kernel
theorem dX6_readClause_15 : decode cX6_readClause 15 = .ok (.ifCond .ne 11, 3) := by decide +kernel
theorem dX6_readClause_18 : decode cX6_readClause 18 = .ok (.aload_n 0, 1) := by decide +kernel
theorem dX6_readClause_19 : decode cX6_readClause 19 = .ok (.aload_n 3, 1) := by decide +kernel
theorem dX6_readClause_20 : decode cX6_readClause 20 = .ok (.invokevirtual 57, 3) := by decide +kernel
theorem dX6_readClause_23 : decode cX6_readClause 23 = .ok (.ifCond .ne 5, 3) := by decide +kernel
theorem dX6_readClause_26 : decode cX6_readClause 26 = .ok (.iconst 0, 1) := by decide +kernel
theorem dX6_readClause_27 : decode cX6_readClause 27 = .ok (.ireturn, 1) := by decide +kernel
theorem dX6_readClause_28 : decode cX6_readClause 28 = .ok (.aload_n 1, 1) := by decide +kernel
theorem dX6_readClause_29 : decode cX6_readClause 29 = .ok (.iload_n 2, 1) := by decide +kernel
theorem dX6_readClause_30 : decode cX6_readClause 30 = .ok (.invokevirtual 61, 3) := by decide +kernel
theorem dX6_readClause_33 : decode cX6_readClause 33 = .ok (.ifCond .eq 27, 3) := by decide +kernel
theorem dX6_readClause_36 : decode cX6_readClause 36 = .ok (.aload_n 0, 1) := by decide +kernel
theorem dX6_readClause_37 : decode cX6_readClause 37 = .ok (.invokevirtual 65, 3) := by decide +kernel
theorem dX6_readClause_40 : decode cX6_readClause 40 = .ok (.istore 4, 2) := by decide +kernel
theorem dX6_readClause_42 : decode cX6_readClause 42 = .ok (.aload_n 1, 1) := by decide +kernel
theorem dX6_readClause_43 : decode cX6_readClause 43 = .ok (.iload_n 2, 1) := by decide +kernel
theorem dX6_readClause_44 : decode cX6_readClause 44 = .ok (.iload 4, 2) := by decide +kernel
theorem dX6_readClause_46 : decode cX6_readClause 46 = .ok (.invokevirtual 68, 3) := by decide +kernel
theorem dX6_readClause_49 : decode cX6_readClause 49 = .ok (.iload 4, 2) := by decide +kernel
theorem dX6_readClause_51 : decode cX6_readClause 51 = .ok (.ifCond .lt 7, 3) := by decide +kernel
theorem dX6_readClause_54 : decode cX6_readClause 54 = .ok (.iconst 1, 1) := by decide +kernel
theorem dX6_readClause_55 : decode cX6_readClause 55 = .ok (.goto 4, 3) := by decide +kernel
theorem dX6_readClause_58 : decode cX6_readClause 58 = .ok (.iconst 0, 1) := by decide +kernel
theorem dX6_readClause_59 : decode cX6_readClause 59 = .ok (.ireturn, 1) := by decide +kernel
theorem dX6_readClause_60 : decode cX6_readClause 60 = .ok (.iconst 0, 1) := by decide +kernel
theorem dX6_readClause_61 : decode cX6_readClause 61 = .ok (.istore 4, 2) := by decide +kernel
theorem dX6_readClause_63 : decode cX6_readClause 63 = .ok (.aload_n 1, 1) := by decide +kernel
theorem dX6_readClause_64 : decode cX6_readClause 64 = .ok (.getfield 72, 3) := by decide +kernel
theorem dX6_readClause_67 : decode cX6_readClause 67 = .ok (.ifCond .eq 25, 3) := by decide +kernel
theorem dX6_readClause_70 : decode cX6_readClause 70 = .ok (.aload_n 0, 1) := by decide +kernel
theorem dX6_readClause_71 : decode cX6_readClause 71 = .ok (.invokevirtual 65, 3) := by decide +kernel
theorem dX6_readClause_74 : decode cX6_readClause 74 = .ok (.istore 4, 2) := by decide +kernel
theorem dX6_readClause_76 : decode cX6_readClause 76 = .ok (.iload 4, 2) := by decide +kernel
theorem dX6_readClause_78 : decode cX6_readClause 78 = .ok (.ifCond .lt 12, 3) := by decide +kernel
theorem dX6_readClause_81 : decode cX6_readClause 81 = .ok (.aload_n 0, 1) := by decide +kernel
theorem dX6_readClause_82 : decode cX6_readClause 82 = .ok (.ldc 76, 2) := by decide +kernel
theorem dX6_readClause_84 : decode cX6_readClause 84 = .ok (.invokevirtual 57, 3) := by decide +kernel
theorem dX6_readClause_87 : decode cX6_readClause 87 = .ok (.ifCond .ne 5, 3) := by decide +kernel
theorem dX6_readClause_90 : decode cX6_readClause 90 = .ok (.iconst 0, 1) := by decide +kernel
theorem dX6_readClause_91 : decode cX6_readClause 91 = .ok (.ireturn, 1) := by decide +kernel
theorem dX6_readClause_92 : decode cX6_readClause 92 = .ok (.aload_n 1, 1) := by decide +kernel
theorem dX6_readClause_93 : decode cX6_readClause 93 = .ok (.iload_n 2, 1) := by decide +kernel
theorem dX6_readClause_94 : decode cX6_readClause 94 = .ok (.iload 4, 2) := by decide +kernel
theorem dX6_readClause_96 : decode cX6_readClause 96 = .ok (.invokevirtual 78, 3) := by decide +kernel
theorem dX6_readClause_99 : decode cX6_readClause 99 = .ok (.aload_n 0, 1) := by decide +kernel
theorem dX6_readClause_100 : decode cX6_readClause 100 = .ok (.aload_n 1, 1) := by decide +kernel
theorem dX6_readClause_101 : decode cX6_readClause 101 = .ok (.iconst 0, 1) := by decide +kernel
theorem dX6_readClause_102 : decode cX6_readClause 102 = .ok (.invokevirtual 81, 3) := by decide +kernel
theorem dX6_readClause_105 : decode cX6_readClause 105 = .ok (.ireturn, 1) := by decide +kernel
def f_X6_readClause_J92 (ρ : Nat → Nat) (a0 : Nat) (a1 : Nat) (v4 : Int32) (x27 : Int32) (S28 : HSt) : Option (Int32 × HSt) := if gC S28 a1 = some 7 then ((f_X7_startClause S28 a1 v4 x27).bind fun S31 => if gC S31 a0 = some 6 then (bd2 (f_X6_readER ρ S31 a0 a1 0) fun v35 S34 => if v35 = 0 ∨ v35 = 1 then (some (v35, S34)) else none) else none) else none
def f_X6_readClause (ρ : Nat → Nat) (S : HSt) (a0 : Nat) (a1 : Nat) : Option (Int32 × HSt) := if gC S a0 = some 6 then (bd2 (f_X6_look S a0) fun v4 S3 => if gC S3 a1 = some 7 then (bd2 (f_X7_wordThatBegins ρ S3 a1 v4) fun b8 S7 => oC b8 (none) fun r9 => if (sX ρ r9).isSome = true then (bd2 (f_J0_isEmpty_aae02 ρ S7 r9) fun v13 S12 => if v13 = 0 then (if gC S12 a0 = some 6 then (bd2 (f_X6_readWord ρ S12 a0 r9) fun v18 S17 => if v18 = 0 then (some (0, S17)) else (if gC S17 a1 = some 7 then (bd2 (f_X7_isTold S17 a1 v4) fun v23 S22 => if v23 = 0 then ((gI S22 a1 7 0).bind fun v25 => if v25 = 0 then ((f_X6_readClause_J92 ρ a0 a1 v4) 0 S22) else (if gC S22 a0 = some 6 then (bd2 (f_X6_readNumber S22 a0) fun v41 S40 => if v41 < 0 then (some (0, S40)) else (if gC S40 a0 = some 6 then (bd2 (f_X6_readWord ρ S40 a0 (ρ 11)) fun v46 S45 => if v46 = 0 then (some (0, S45)) else ((f_X6_readClause_J92 ρ a0 a1 v4) v41 S45)) else none)) else none)) else (if gC S22 a0 = some 6 then (bd2 (f_X6_readNumber S22 a0) fun v51 S50 => if gC S50 a1 = some 7 then ((f_X7_tell S50 a1 v4 v51).bind fun S54 => if v51 < 0 then (some (0, S54)) else (some (1, S54))) else none) else none)) else none)) else none) else (some (0, S12))) else none) else none) else none
abbrev rm_X6_readClause : Room := { frames := 501, cells := 0, slots := 0, locals := 10024 }
abbrev w_X6_readClause : List Cond := Cond.code yX6_readClause cX6_readClause 5 (Option.some FieldType.boolean) :: lwG
theorem yd_X6_readClause : yX6_readClause.cls ≠ "java/lang/invoke/MethodHandle" ∧ yX6_readClause.cls ≠ "java/lang/invoke/VarHandle" ∧ (parseMethodDescriptor yX6_readClause.desc).map (fun d => d.parameters.length) = some 1 := by decide +kernel
theorem ye_X6_readClause : yX6_readClause.cls = RX6 ∧ yX6_readClause.cls ≠ "java/lang/invoke/MethodHandle" ∧ yX6_readClause.cls ≠ "java/lang/invoke/VarHandle" ∧ (parseMethodDescriptor yX6_readClause.desc).map (fun d => d.parameters.length) = some 1 := by decide +kernel
set_option maxHeartbeats 4000000 in
set_option maxRecDepth 100000 in
theorem c_X6_readClause (l : Launch) (D : va_G) (kA ρ : Nat → Nat) (HB : Heap) (S : HSt) (a0 : Nat) (a1 : Nat) (res : Int32 × HSt) (h : f_X6_readClause ρ S a0 a1 = some res) : Met l yX6_readClause w_X6_readClause rm_X6_readClause (hPc D kA ρ HB S [.ref a0, .ref a1]) (hQi D kA HB S res) 0 0 (hFree HB) := by
  refine Met.ofW (cc := cX6_readClause) (maxL := 5) (ret := (Option.some FieldType.boolean)) (by decide) rfl ?_
  intro p e s m args below meth c s₁ B hml hv
  obtain ⟨rfl, hE, h0⟩ := hv
  have hx := B.exec
  have hb := B.bytes
  have hr := B.returns
  have hts0 := atoms_spec (ws := w_X6_readClause) B.pre
  have hts : ∀ w ∈ lwG, w.before _ s = true := fun w hw => hts0 w (List.mem_cons_of_mem _ hw)
  have hown : s.vm.findClass RX6 = some m.cls := findClass_of_methodNamed B.named
  have hlocks := B.notSynchronized
  have hI : hqX D kA HB S.2 S s.heap [] := ⟨h0, Nat.le_refl _, fun _ q => absurd q List.not_mem_nil⟩
  have hl := lv_entry ([.ref a0, .ref a1]) (n := 5) (Nat.le_of_ble_eq_true rfl)
  rw [lg_entry_eq]
  generalize (lg_sl ([.ref a0, .ref a1]) ++ List.replicate (5 - (lg_sl ([.ref a0, .ref a1])).length) Slot.unset).toArray = ls at hl ⊢
  have hl : lv_has ls 5 [(0, .ref a0), (1, .ref a1)] := hl
  unfold f_X6_readClause at h
  refine lv_aload_n hx hb dX6_readClause_0 rfl (lv_at hl 0 rfl) ?_
  obtain ⟨g2, h⟩ := hq_g h
  obtain ⟨v4, S3, g1, h⟩ := hq_bd2 h
  refine hq_calli hI (va_runV (As := []) (rest := []) ⟨hx, hb, hml, hown, hts⟩ (c_X6_look l D kA ρ HB S a0 _ g1) (cwV 0 hts (gdIn (List.forall_mem_cons.mpr ⟨kw_386, (List.forall_mem_cons.mpr ⟨kw_388, (List.forall_mem_cons.mpr ⟨ks_4, (List.forall_mem_cons.mpr ⟨kw_2, (fun _ h => absurd h List.not_mem_nil)⟩)⟩)⟩)⟩) kw_389) rfl rfl rfl ye_X6_look ⟨Nat.le_of_ble_eq_true rfl, Nat.le_of_ble_eq_true rfl⟩) (hq_preC hE hI g2 rfl _) rfl rfl hl.1 rfl (lv_room (Nat.le_of_ble_eq_true rfl)) dX6_readClause_1 ⟨Nat.le_of_ble_eq_true rfl, Nat.le_of_ble_eq_true rfl⟩) (fun H locs hI => ?_)
  refine lv_istore_n (lv' := [(2, .int v4), (0, .ref a0), (1, .ref a1)]) hx hb dX6_readClause_4 rfl hl (by decide) rfl (fun ls hl => ?_)
  refine lv_aload_n hx hb dX6_readClause_5 rfl (lv_at hl 2 rfl) ?_
  refine lv_iload_n hx hb dX6_readClause_6 rfl (lv_at hl 0 rfl) ?_
  obtain ⟨g6, h⟩ := hq_g h
  obtain ⟨b8, S7, g5, h⟩ := hq_bd2 h
  refine hq_callq hI (va_runV (As := [.int v4]) (rest := []) ⟨hx, hb, hml, hown, hts⟩ (c_X7_wordThatBegins l D kA ρ HB S3 a1 v4 _ g5) (cwV 1 hts (gdIn (List.forall_mem_cons.mpr ⟨kw_390, (List.forall_mem_cons.mpr ⟨kw_391, (List.forall_mem_cons.mpr ⟨kw_392, (List.forall_mem_cons.mpr ⟨kw_5, (fun _ h => absurd h List.not_mem_nil)⟩)⟩)⟩)⟩) kw_393) rfl rfl rfl ye_X7_wordThatBegins ⟨Nat.le_of_ble_eq_true rfl, Nat.le_of_ble_eq_true rfl⟩) (hq_preC hE hI g6 rfl _) rfl rfl hl.1 rfl (lv_room (Nat.le_of_ble_eq_true rfl)) dX6_readClause_7 ⟨Nat.le_of_ble_eq_true rfl, Nat.le_of_ble_eq_true rfl⟩) (fun H locs hI => ?_)
  rcases b8 with _ | r9
  · have h := oC_n h
    refine lv_astore_nN (lv' := [(3, .null), (2, .int v4), (0, .ref a0), (1, .ref a1)]) hx hb dX6_readClause_10 rfl hl (by decide) rfl (fun ls hl => ?_)
    refine lv_aload_nN hx hb dX6_readClause_11 rfl (lv_at hl 0 rfl) ?_
    cases h
  · have h := oC_s h
    refine lv_astore_n (lv' := [(3, .ref r9), (2, .int v4), (0, .ref a0), (1, .ref a1)]) hx hb dX6_readClause_10 rfl hl (by decide) rfl (fun ls hl => ?_)
    refine lv_aload_n hx hb dX6_readClause_11 rfl (lv_at hl 0 rfl) ?_
    obtain ⟨g11, h⟩ := hq_g h
    obtain ⟨v13, S12, g10, h⟩ := hq_bd2 h
    refine hq_calli hI (va_runV (As := []) (rest := []) ⟨hx, hb, hml, hown, hts⟩ (c_J0_isEmpty_aae02 l D kA ρ HB S7 r9 _ g10) (cwV 0 hts (gdIn (List.forall_mem_cons.mpr ⟨kw_403, (List.forall_mem_cons.mpr ⟨kw_404, (List.forall_mem_cons.mpr ⟨kw_405, (List.forall_mem_cons.mpr ⟨kw_15, (fun _ h => absurd h List.not_mem_nil)⟩)⟩)⟩)⟩) kw_406) rfl rfl rfl ye_J0_isEmpty_aae02 ⟨Nat.le_of_ble_eq_true rfl, Nat.le_of_ble_eq_true rfl⟩) (hq_preT hE h0 hI g11 _) rfl rfl hl.1 rfl (lv_room (Nat.le_of_ble_eq_true rfl)) dX6_readClause_12 ⟨Nat.le_of_ble_eq_true rfl, Nat.le_of_ble_eq_true rfl⟩) (fun H locs hI => ?_)
    refine lv_if_ne (tgt := 26) hx hb dX6_readClause_15 (by decide) (fun c14 => ?_) (fun c14 => ?_)
    · have h := hq_f h c14
      refine lv_iconst (v := 0) hx hb dX6_readClause_26 (by decide) ?_
      exact hq_zret hx hb hr hlocks h0 hI (by decide) h dX6_readClause_27
    · have h := hq_t h c14
      refine lv_aload_n hx hb dX6_readClause_18 rfl (lv_at hl 2 rfl) ?_
      refine lv_aload_n hx hb dX6_readClause_19 rfl (lv_at hl 0 rfl) ?_
      obtain ⟨g16, h⟩ := hq_g h
      obtain ⟨v18, S17, g15, h⟩ := hq_bd2 h
      refine hq_calli hI (va_runV (As := [.ref r9]) (rest := []) ⟨hx, hb, hml, hown, hts⟩ (c_X6_readWord l D kA ρ HB S12 a0 r9 _ g15) (cwV 1 hts (gdIn (List.forall_mem_cons.mpr ⟨kw_407, (List.forall_mem_cons.mpr ⟨kw_409, (List.forall_mem_cons.mpr ⟨ks_5, (List.forall_mem_cons.mpr ⟨kw_2, (fun _ h => absurd h List.not_mem_nil)⟩)⟩)⟩)⟩) kw_410) rfl rfl rfl ye_X6_readWord ⟨Nat.le_of_ble_eq_true rfl, Nat.le_of_ble_eq_true rfl⟩) (hq_preC hE hI g16 rfl _) rfl rfl hl.1 rfl (lv_room (Nat.le_of_ble_eq_true rfl)) dX6_readClause_20 ⟨Nat.le_of_ble_eq_true rfl, Nat.le_of_ble_eq_true rfl⟩) (fun H locs hI => ?_)
      refine lv_if_ne (tgt := 28) hx hb dX6_readClause_23 (by decide) (fun c19 => ?_) (fun c19 => ?_)
      · have h := hq_f h c19
        refine lv_aload_n hx hb dX6_readClause_28 rfl (lv_at hl 3 rfl) ?_
        refine lv_iload_n hx hb dX6_readClause_29 rfl (lv_at hl 1 rfl) ?_
        obtain ⟨g21, h⟩ := hq_g h
        obtain ⟨v23, S22, g20, h⟩ := hq_bd2 h
        refine hq_calli hI (va_runV (As := [.int v4]) (rest := []) ⟨hx, hb, hml, hown, hts⟩ (c_X7_isTold l D kA ρ HB S17 a1 v4 _ g20) (cwV 1 hts (gdIn (List.forall_mem_cons.mpr ⟨kw_459, (List.forall_mem_cons.mpr ⟨kw_460, (List.forall_mem_cons.mpr ⟨kw_461, (List.forall_mem_cons.mpr ⟨kw_5, (fun _ h => absurd h List.not_mem_nil)⟩)⟩)⟩)⟩) kw_462) rfl rfl rfl ye_X7_isTold ⟨Nat.le_of_ble_eq_true rfl, Nat.le_of_ble_eq_true rfl⟩) (hq_preC hE hI g21 rfl _) rfl rfl hl.1 rfl (lv_room (Nat.le_of_ble_eq_true rfl)) dX6_readClause_30 ⟨Nat.le_of_ble_eq_true rfl, Nat.le_of_ble_eq_true rfl⟩) (fun H locs hI => ?_)
        refine lv_if_eq (tgt := 60) hx hb dX6_readClause_33 (by decide) (fun c24 => ?_) (fun c24 => ?_)
        · have h := hq_t h c24
          refine lv_iconst (v := 0) hx hb dX6_readClause_60 (by decide) ?_
          refine lv_istore (lv' := [(4, .int 0), (3, .ref r9), (2, .int v4), (0, .ref a0), (1, .ref a1)]) hx hb dX6_readClause_61 hl (by decide) rfl (fun ls hl => ?_)
          refine lv_aload_n hx hb dX6_readClause_63 rfl (lv_at hl 4 rfl) ?_
          obtain ⟨v25, g26, h⟩ := hq_bind h
          obtain ⟨fs_g26, hs_g26, hv_g26⟩ := gI_at g26
          refine hq_getN hx hb hts hown hE hI hs_g26 inG7 rfl 0 (by decide) kn_94 hv_g26 dX6_readClause_64 ?_
          have hJ92 : ∀ (x27 : Int32) (S28 : HSt) (H : Heap) (locs : List Loc) (ls : Array Slot), (f_X6_readClause_J92 ρ a0 a1 v4) x27 S28 = some res → hqX D kA HB S.2 S28 H locs → lv_has ls 5 [(0, .ref a0), (1, .ref a1), (2, .int v4), (4, .int x27)] → W p l e rm_X6_readClause s m ([.ref a0, .ref a1] : List Value).toArray below meth c H locs 0 0 (MQ below (hQi D kA HB S res) ([.ref a0, .ref a1] : List Value).toArray s 0 0 (hFree HB)) (F0 m 92 ls []) := by
            intro x27 S28 H locs ls h hI hl
            unfold f_X6_readClause_J92 at h
            refine lv_aload_n hx hb dX6_readClause_92 rfl (lv_at hl 1 rfl) ?_
            refine lv_iload_n hx hb dX6_readClause_93 rfl (lv_at hl 2 rfl) ?_
            refine lv_iload hx hb dX6_readClause_94 (lv_at hl 3 rfl) ?_
            obtain ⟨g30, h⟩ := hq_g h
            obtain ⟨S31, g29, h⟩ := hq_bind h
            refine hq_callv hI (va_runV (As := [.int v4, .int x27]) (rest := []) ⟨hx, hb, hml, hown, hts⟩ (c_X7_startClause l D kA ρ HB S28 a1 v4 x27 _ g29) (cwV 2 hts (gdIn (List.forall_mem_cons.mpr ⟨kw_472, (List.forall_mem_cons.mpr ⟨kw_473, (List.forall_mem_cons.mpr ⟨kw_474, (List.forall_mem_cons.mpr ⟨kw_5, (fun _ h => absurd h List.not_mem_nil)⟩)⟩)⟩)⟩) kw_475) rfl rfl rfl ye_X7_startClause ⟨Nat.le_of_ble_eq_true rfl, Nat.le_of_ble_eq_true rfl⟩) (hq_preC hE hI g30 rfl _) rfl rfl hl.1 rfl (lv_room (Nat.le_of_ble_eq_true rfl)) dX6_readClause_96 ⟨Nat.le_of_ble_eq_true rfl, Nat.le_of_ble_eq_true rfl⟩) (fun H locs hI => ?_)
            refine lv_aload_n hx hb dX6_readClause_99 rfl (lv_at hl 0 rfl) ?_
            refine lv_aload_n hx hb dX6_readClause_100 rfl (lv_at hl 1 rfl) ?_
            refine lv_iconst (v := 0) hx hb dX6_readClause_101 (by decide) ?_
            obtain ⟨g33, h⟩ := hq_g h
            obtain ⟨v35, S34, g32, h⟩ := hq_bd2 h
            refine hq_calli hI (va_runV (As := [.ref a1, .int 0]) (rest := []) ⟨hx, hb, hml, hown, hts⟩ (c_X6_readER l D kA ρ HB S31 a0 a1 0 _ g32) (cwV 2 hts (gdIn (List.forall_mem_cons.mpr ⟨kw_476, (List.forall_mem_cons.mpr ⟨kw_478, (List.forall_mem_cons.mpr ⟨ks_7, (List.forall_mem_cons.mpr ⟨kw_2, (fun _ h => absurd h List.not_mem_nil)⟩)⟩)⟩)⟩) kw_479) rfl rfl rfl ye_X6_readE ⟨Nat.le_of_ble_eq_true rfl, Nat.le_of_ble_eq_true rfl⟩) (hq_preC hE hI g33 rfl _) rfl rfl hl.1 rfl (lv_room (Nat.le_of_ble_eq_true rfl)) dX6_readClause_102 ⟨Nat.le_of_ble_eq_true rfl, Nat.le_of_ble_eq_true rfl⟩) (fun H locs hI => ?_)
            obtain ⟨c36, h⟩ := hq_g h
            exact hq_zret hx hb hr hlocks h0 hI c36 h dX6_readClause_105
          refine lv_if_eq (tgt := 92) hx hb dX6_readClause_67 (by decide) (fun c37 => ?_) (fun c37 => ?_)
          · have h := hq_t h c37
            exact hJ92 0 S22 _ _ _ h hI (lv_sub hl [3, 4, 2, 0] rfl)
          · have h := hq_f h c37
            refine lv_aload_n hx hb dX6_readClause_70 rfl (lv_at hl 3 rfl) ?_
            obtain ⟨g39, h⟩ := hq_g h
            obtain ⟨v41, S40, g38, h⟩ := hq_bd2 h
            refine hq_calli hI (va_runV (As := []) (rest := []) ⟨hx, hb, hml, hown, hts⟩ (c_X6_readNumber l D kA ρ HB S22 a0 _ g38) (cwV 0 hts (gdIn (List.forall_mem_cons.mpr ⟨kw_463, (List.forall_mem_cons.mpr ⟨kw_465, (List.forall_mem_cons.mpr ⟨ks_6, (List.forall_mem_cons.mpr ⟨kw_2, (fun _ h => absurd h List.not_mem_nil)⟩)⟩)⟩)⟩) kw_466) rfl rfl rfl ye_X6_readNumber ⟨Nat.le_of_ble_eq_true rfl, Nat.le_of_ble_eq_true rfl⟩) (hq_preC hE hI g39 rfl _) rfl rfl hl.1 rfl (lv_room (Nat.le_of_ble_eq_true rfl)) dX6_readClause_71 ⟨Nat.le_of_ble_eq_true rfl, Nat.le_of_ble_eq_true rfl⟩) (fun H locs hI => ?_)
            refine lv_istore (lv' := [(4, .int v41), (3, .ref r9), (2, .int v4), (0, .ref a0), (1, .ref a1)]) hx hb dX6_readClause_74 hl (by decide) rfl (fun ls hl => ?_)
            refine lv_iload hx hb dX6_readClause_76 (lv_at hl 0 rfl) ?_
            refine lv_if_lt (tgt := 90) hx hb dX6_readClause_78 (by decide) (fun c42 => ?_) (fun c42 => ?_)
            · have h := hq_t h c42
              refine lv_iconst (v := 0) hx hb dX6_readClause_90 (by decide) ?_
              exact hq_zret hx hb hr hlocks h0 hI (by decide) h dX6_readClause_91
            · have h := hq_f h c42
              refine lv_aload_n hx hb dX6_readClause_81 rfl (lv_at hl 3 rfl) ?_
              refine hq_ldcS (k := 11) hx hb hown hE (List.mem_of_getElem? (i := 11) rfl) dX6_readClause_82 ?_
              obtain ⟨g44, h⟩ := hq_g h
              obtain ⟨v46, S45, g43, h⟩ := hq_bd2 h
              refine hq_calli hI (va_runV (As := [.ref (ρ 11)]) (rest := []) ⟨hx, hb, hml, hown, hts⟩ (c_X6_readWord l D kA ρ HB S40 a0 (ρ 11) _ g43) (cwV 1 hts (gdIn (List.forall_mem_cons.mpr ⟨kw_407, (List.forall_mem_cons.mpr ⟨kw_409, (List.forall_mem_cons.mpr ⟨ks_5, (List.forall_mem_cons.mpr ⟨kw_2, (fun _ h => absurd h List.not_mem_nil)⟩)⟩)⟩)⟩) kw_410) rfl rfl rfl ye_X6_readWord ⟨Nat.le_of_ble_eq_true rfl, Nat.le_of_ble_eq_true rfl⟩) (hq_preC hE hI g44 rfl _) rfl rfl hl.1 rfl (lv_room (Nat.le_of_ble_eq_true rfl)) dX6_readClause_84 ⟨Nat.le_of_ble_eq_true rfl, Nat.le_of_ble_eq_true rfl⟩) (fun H locs hI => ?_)
              refine lv_if_ne (tgt := 92) hx hb dX6_readClause_87 (by decide) (fun c47 => ?_) (fun c47 => ?_)
              · have h := hq_f h c47
                exact hJ92 v41 S45 _ _ _ h hI (lv_sub hl [3, 4, 2, 0] rfl)
              · have h := hq_t h c47
                refine lv_iconst (v := 0) hx hb dX6_readClause_90 (by decide) ?_
                exact hq_zret hx hb hr hlocks h0 hI (by decide) h dX6_readClause_91
        · have h := hq_f h c24
          refine lv_aload_n hx hb dX6_readClause_36 rfl (lv_at hl 2 rfl) ?_
          obtain ⟨g49, h⟩ := hq_g h
          obtain ⟨v51, S50, g48, h⟩ := hq_bd2 h
          refine hq_calli hI (va_runV (As := []) (rest := []) ⟨hx, hb, hml, hown, hts⟩ (c_X6_readNumber l D kA ρ HB S22 a0 _ g48) (cwV 0 hts (gdIn (List.forall_mem_cons.mpr ⟨kw_463, (List.forall_mem_cons.mpr ⟨kw_465, (List.forall_mem_cons.mpr ⟨ks_6, (List.forall_mem_cons.mpr ⟨kw_2, (fun _ h => absurd h List.not_mem_nil)⟩)⟩)⟩)⟩) kw_466) rfl rfl rfl ye_X6_readNumber ⟨Nat.le_of_ble_eq_true rfl, Nat.le_of_ble_eq_true rfl⟩) (hq_preC hE hI g49 rfl _) rfl rfl hl.1 rfl (lv_room (Nat.le_of_ble_eq_true rfl)) dX6_readClause_37 ⟨Nat.le_of_ble_eq_true rfl, Nat.le_of_ble_eq_true rfl⟩) (fun H locs hI => ?_)
          refine lv_istore (lv' := [(4, .int v51), (3, .ref r9), (2, .int v4), (0, .ref a0), (1, .ref a1)]) hx hb dX6_readClause_40 hl (by decide) rfl (fun ls hl => ?_)
          refine lv_aload_n hx hb dX6_readClause_42 rfl (lv_at hl 4 rfl) ?_
          refine lv_iload_n hx hb dX6_readClause_43 rfl (lv_at hl 2 rfl) ?_
          refine lv_iload hx hb dX6_readClause_44 (lv_at hl 0 rfl) ?_
          obtain ⟨g53, h⟩ := hq_g h
          obtain ⟨S54, g52, h⟩ := hq_bind h
          refine hq_callv hI (va_runV (As := [.int v4, .int v51]) (rest := []) ⟨hx, hb, hml, hown, hts⟩ (c_X7_tell l D kA ρ HB S50 a1 v4 v51 _ g52) (cwV 2 hts (gdIn (List.forall_mem_cons.mpr ⟨kw_467, (List.forall_mem_cons.mpr ⟨kw_468, (List.forall_mem_cons.mpr ⟨kw_469, (List.forall_mem_cons.mpr ⟨kw_5, (fun _ h => absurd h List.not_mem_nil)⟩)⟩)⟩)⟩) kw_470) rfl rfl rfl ye_X7_tell ⟨Nat.le_of_ble_eq_true rfl, Nat.le_of_ble_eq_true rfl⟩) (hq_preC hE hI g53 rfl _) rfl rfl hl.1 rfl (lv_room (Nat.le_of_ble_eq_true rfl)) dX6_readClause_46 ⟨Nat.le_of_ble_eq_true rfl, Nat.le_of_ble_eq_true rfl⟩) (fun H locs hI => ?_)
          refine lv_iload hx hb dX6_readClause_49 (lv_at hl 0 rfl) ?_
          refine lv_if_lt (tgt := 58) hx hb dX6_readClause_51 (by decide) (fun c55 => ?_) (fun c55 => ?_)
          · have h := hq_t h c55
            refine lv_iconst (v := 0) hx hb dX6_readClause_58 (by decide) ?_
            exact hq_zret hx hb hr hlocks h0 hI (by decide) h dX6_readClause_59
          · have h := hq_f h c55
            refine lv_iconst (v := 1) hx hb dX6_readClause_54 (by decide) ?_
            refine lv_goto (tgt := 59) hx hb dX6_readClause_55 (by decide) ?_
            exact hq_zret hx hb hr hlocks h0 hI (by decide) h dX6_readClause_59
      · have h := hq_t h c19
        refine lv_iconst (v := 0) hx hb dX6_readClause_26 (by decide) ?_
        exact hq_zret hx hb hr hlocks h0 hI (by decide) h dX6_readClause_27
-- RodDips$Tape.readInto(LRodDips$Text;)I
theorem dX6_readInto_0 : decode cX6_readInto 0 = .ok (.aload_n 1, 1) := by decide +kernel
theorem dX6_readInto_1 : decode cX6_readInto 1 = .ok (.ifnonnull 5, 3) := by decide +kernel
theorem dX6_readInto_4 : decode cX6_readInto 4 = .ok (.iconst 0, 1) := by decide +kernel
theorem dX6_readInto_5 : decode cX6_readInto 5 = .ok (.ireturn, 1) := by decide +kernel
theorem dX6_readInto_6 : decode cX6_readInto 6 = .ok (.aload_n 1, 1) := by decide +kernel
theorem dX6_readInto_7 : decode cX6_readInto 7 = .ok (.invokevirtual 34, 3) := by decide +kernel
theorem dX6_readInto_10 : decode cX6_readInto 10 = .ok (.aload_n 0, 1) := by decide +kernel
theorem dX6_readInto_11 : decode cX6_readInto 11 = .ok (.iconst 0, 1) := by decide +kernel
theorem dX6_readInto_12 : decode cX6_readInto 12 = .ok (.putfield 19, 3) := by decide +kernel
theorem dX6_readInto_15 : decode cX6_readInto 15 = .ok (.aload_n 0, 1) := by decide +kernel
theorem dX6_readInto_16 : decode cX6_readInto 16 = .ok (.aload_n 1, 1) := by decide +kernel
theorem dX6_readInto_17 : decode cX6_readInto 17 = .ok (.invokevirtual 39, 3) := by decide +kernel
theorem dX6_readInto_20 : decode cX6_readInto 20 = .ok (.istore_n 2, 1) := by decide +kernel
theorem dX6_readInto_21 : decode cX6_readInto 21 = .ok (.iconst 1, 1) := by decide +kernel
theorem dX6_readInto_22 : decode cX6_readInto 22 = .ok (.istore_n 3, 1) := by decide +kernel
theorem dX6_readInto_23 : decode cX6_readInto 23 = .ok (.iload_n 2, 1) := by decide +kernel
theorem dX6_readInto_24 : decode cX6_readInto 24 = .ok (.ifCond .eq 40, 3) := by decide +kernel
theorem dX6_readInto_27 : decode cX6_readInto 27 = .ok (.aload_n 0, 1) := by decide +kernel
theorem dX6_readInto_28 : decode cX6_readInto 28 = .ok (.invokevirtual 43, 3) := by decide +kernel
theorem dX6_readInto_31 : decode cX6_readInto 31 = .ok (.bipush 59, 2) := by decide +kernel
theorem dX6_readInto_33 : decode cX6_readInto 33 = .ok (.if_icmp .ne 31, 3) := by decide +kernel
theorem dX6_readInto_36 : decode cX6_readInto 36 = .ok (.iload_n 3, 1) := by decide +kernel
theorem dX6_readInto_37 : decode cX6_readInto 37 = .ok (.bipush 8, 2) := by decide +kernel
theorem dX6_readInto_39 : decode cX6_readInto 39 = .ok (.if_icmp .ge 25, 3) := by decide +kernel
theorem dX6_readInto_42 : decode cX6_readInto 42 = .ok (.aload_n 0, 1) := by decide +kernel
theorem dX6_readInto_43 : decode cX6_readInto 43 = .ok (.dup, 1) := by decide +kernel
theorem dX6_readInto_44 : decode cX6_readInto 44 = .ok (.getfield 19, 3) := by decide +kernel
theorem dX6_readInto_47 : decode cX6_readInto 47 = .ok (.iconst 1, 1) := by decide +kernel
theorem dX6_readInto_48 : decode cX6_readInto 48 = .ok (.iadd, 1) := by decide +kernel
theorem dX6_readInto_49 : decode cX6_readInto 49 = .ok (.putfield 19, 3) := by decide +kernel
theorem dX6_readInto_52 : decode cX6_readInto 52 = .ok (.aload_n 0, 1) := by decide +kernel
theorem dX6_readInto_53 : decode cX6_readInto 53 = .ok (.aload_n 1, 1) := by decide +kernel
theorem dX6_readInto_54 : decode cX6_readInto 54 = .ok (.invokevirtual 39, 3) := by decide +kernel
theorem dX6_readInto_57 : decode cX6_readInto 57 = .ok (.istore_n 2, 1) := by decide +kernel
theorem dX6_readInto_58 : decode cX6_readInto 58 = .ok (.iinc 3 1, 3) := by decide +kernel
theorem dX6_readInto_61 : decode cX6_readInto 61 = .ok (.goto (-38), 3) := by decide +kernel
theorem dX6_readInto_64 : decode cX6_readInto 64 = .ok (.iload_n 2, 1) := by decide +kernel
theorem dX6_readInto_65 : decode cX6_readInto 65 = .ok (.ifCond .eq 18, 3) := by decide +kernel
theorem dX6_readInto_68 : decode cX6_readInto 68 = .ok (.aload_n 0, 1) := by decide +kernel
theorem dX6_readInto_69 : decode cX6_readInto 69 = .ok (.getfield 19, 3) := by decide +kernel
theorem dX6_readInto_72 : decode cX6_readInto 72 = .ok (.aload_n 0, 1) := by decide +kernel
theorem dX6_readInto_73 : decode cX6_readInto 73 = .ok (.getfield 15, 3) := by decide +kernel
theorem dX6_readInto_76 : decode cX6_readInto 76 = .ok (.if_icmp .lt 7, 3) := by decide +kernel
theorem dX6_readInto_79 : decode cX6_readInto 79 = .ok (.iconst (-1), 1) := by decide +kernel
theorem dX6_readInto_80 : decode cX6_readInto 80 = .ok (.goto 7, 3) := by decide +kernel
theorem dX6_readInto_83 : decode cX6_readInto 83 = .ok (.aload_n 0, 1) := by decide +kernel
theorem dX6_readInto_84 : decode cX6_readInto 84 = .ok (.getfield 19, 3) := by decide +kernel
theorem dX6_readInto_87 : decode cX6_readInto 87 = .ok (.istore_n 3, 1) := by decide +kernel
theorem dX6_readInto_88 : decode cX6_readInto 88 = .ok (.aload_n 0, 1) := by decide +kernel
theorem dX6_readInto_89 : decode cX6_readInto 89 = .ok (.iconst 0, 1) := by decide +kernel
theorem dX6_readInto_90 : decode cX6_readInto 90 = .ok (.putfield 15, 3) := by decide +kernel
theorem dX6_readInto_93 : decode cX6_readInto 93 = .ok (.iload_n 3, 1) := by decide +kernel
theorem dX6_readInto_94 : decode cX6_readInto 94 = .ok (.ireturn, 1) := by decide +kernel
def f_X6_readInto_K64 (a0 : Nat) (x10 : Int32) (S11 : HSt) : Option (Int32 × HSt) := if x10 = 0 then ((gI S11 a0 6 2).bind fun v13 => (pV S11 a0 6 1 (.int 0)).bind fun S15 => some (v13, S15)) else ((gI S11 a0 6 2).bind fun v17 => (gI S11 a0 6 1).bind fun v19 => if v17 < v19 then ((gI S11 a0 6 2).bind fun v22 => (pV S11 a0 6 1 (.int 0)).bind fun S24 => some (v22, S24)) else ((pV S11 a0 6 1 (.int 0)).bind fun S26 => some ((-1), S26)))
def f_X6_readInto_B23 (ρ : Nat → Nat) (a0 : Nat) (a1 : Nat) (kx64 : (Int32 → HSt → Option (Int32 × HSt))) (kb23 : (Int32 → Int32 → HSt → Option (Int32 × HSt))) (x28 : Int32) (x29 : Int32) (S30 : HSt) : Option (Int32 × HSt) := if x28 = 0 then (kx64 x28 S30) else (if gC S30 a0 = some 6 then (bd2 (f_X6_look S30 a0) fun v35 S34 => if v35 = 59 then (if 8 ≤ x29 then (kx64 x28 S34) else ((gI S34 a0 6 2).bind fun v38 => (pV S34 a0 6 2 (.int (v38 + 1))).bind fun S40 => if gC S40 a0 = some 6 then (bd2 (f_X6_readClause ρ S40 a0 a1) fun v45 S44 => kb23 v45 (x29 + 1) S44) else none)) else (kx64 x28 S34)) else none)
def f_X6_readInto_L23 (ρ : Nat → Nat) (a0 : Nat) (a1 : Nat) (kx64 : (Int32 → HSt → Option (Int32 × HSt))) : Nat → Int32 → Int32 → HSt → Option (Int32 × HSt)
  | 0, _, _, _ => none
  | n + 1, x28, x29, S => f_X6_readInto_B23 ρ a0 a1 kx64 (f_X6_readInto_L23 ρ a0 a1 kx64 n) x28 x29 S
def f_X6_readInto (ρ : Nat → Nat) (S : HSt) (a0 : Nat) (a1 : Nat) : Option (Int32 × HSt) := if gC S a1 = some 7 then ((f_X7_clear S a1).bind fun S3 => (pV S3 a0 6 2 (.int 0)).bind fun S4 => if gC S4 a0 = some 6 then (bd2 (f_X6_readClause ρ S4 a0 a1) fun v9 S8 => (f_X6_readInto_L23 ρ a0 a1 (f_X6_readInto_K64 a0) FU) v9 1 S8) else none) else none
abbrev rm_X6_readInto : Room := { frames := 502, cells := 0, slots := 0, locals := 10048 }
abbrev w_X6_readInto : List Cond := Cond.code yX6_readInto cX6_readInto 4 (Option.some FieldType.int) :: lwG
theorem yd_X6_readInto : yX6_readInto.cls ≠ "java/lang/invoke/MethodHandle" ∧ yX6_readInto.cls ≠ "java/lang/invoke/VarHandle" ∧ (parseMethodDescriptor yX6_readInto.desc).map (fun d => d.parameters.length) = some 1 := by decide +kernel
theorem ye_X6_readInto : yX6_readInto.cls = RX6 ∧ yX6_readInto.cls ≠ "java/lang/invoke/MethodHandle" ∧ yX6_readInto.cls ≠ "java/lang/invoke/VarHandle" ∧ (parseMethodDescriptor yX6_readInto.desc).map (fun d => d.parameters.length) = some 1 := by decide +kernel
set_option maxHeartbeats 4000000 in
set_option maxRecDepth 100000 in
theorem c_X6_readInto (l : Launch) (D : va_G) (kA ρ : Nat → Nat) (HB : Heap) (S : HSt) (a0 : Nat) (a1 : Nat) (res : Int32 × HSt) (h : f_X6_readInto ρ S a0 a1 = some res) : Met l yX6_readInto w_X6_readInto rm_X6_readInto (hPc D kA ρ HB S [.ref a0, .ref a1]) (hQi D kA HB S res) 0 0 (hFree HB) := by
  refine Met.ofW (cc := cX6_readInto) (maxL := 4) (ret := (Option.some FieldType.int)) (by decide) rfl ?_
  intro p e s m args below meth c s₁ B hml hv
  obtain ⟨rfl, hE, h0⟩ := hv
  have hx := B.exec
  have hb := B.bytes
  have hr := B.returns
  have hts0 := atoms_spec (ws := w_X6_readInto) B.pre
  have hts : ∀ w ∈ lwG, w.before _ s = true := fun w hw => hts0 w (List.mem_cons_of_mem _ hw)
  have hown : s.vm.findClass RX6 = some m.cls := findClass_of_methodNamed B.named
  have hlocks := B.notSynchronized
  have hI : hqX D kA HB S.2 S s.heap [] := ⟨h0, Nat.le_refl _, fun _ q => absurd q List.not_mem_nil⟩
  have hl := lv_entry ([.ref a0, .ref a1]) (n := 4) (Nat.le_of_ble_eq_true rfl)
  rw [lg_entry_eq]
  generalize (lg_sl ([.ref a0, .ref a1]) ++ List.replicate (4 - (lg_sl ([.ref a0, .ref a1])).length) Slot.unset).toArray = ls at hl ⊢
  have hl : lv_has ls 4 [(0, .ref a0), (1, .ref a1)] := hl
  unfold f_X6_readInto at h
  refine lv_aload_n hx hb dX6_readInto_0 rfl (lv_at hl 1 rfl) ?_
  refine lv_ifnonnull (tgt := 6) hx hb dX6_readInto_1 (by decide) ?_
  refine lv_aload_n hx hb dX6_readInto_6 rfl (lv_at hl 1 rfl) ?_
  obtain ⟨g2, h⟩ := hq_g h
  obtain ⟨S3, g1, h⟩ := hq_bind h
  refine hq_callv hI (va_runV (As := []) (rest := []) ⟨hx, hb, hml, hown, hts⟩ (c_X7_clear l D kA ρ HB S a1 _ g1) (cwV 0 hts (gdIn (List.forall_mem_cons.mpr ⟨kw_378, (List.forall_mem_cons.mpr ⟨kw_379, (List.forall_mem_cons.mpr ⟨kw_380, (List.forall_mem_cons.mpr ⟨kw_5, (fun _ h => absurd h List.not_mem_nil)⟩)⟩)⟩)⟩) kw_381) rfl rfl rfl ye_X7_clear ⟨Nat.le_of_ble_eq_true rfl, Nat.le_of_ble_eq_true rfl⟩) (hq_preC hE hI g2 rfl _) rfl rfl hl.1 rfl (lv_room (Nat.le_of_ble_eq_true rfl)) dX6_readInto_7 ⟨Nat.le_of_ble_eq_true rfl, Nat.le_of_ble_eq_true rfl⟩) (fun H locs hI => ?_)
  refine lv_aload_n hx hb dX6_readInto_10 rfl (lv_at hl 0 rfl) ?_
  refine lv_iconst (v := 0) hx hb dX6_readInto_11 (by decide) ?_
  obtain ⟨S4, g5, h⟩ := hq_bind h
  obtain ⟨fs_g5, hs_g5, hl_g5, e_g5⟩ := pV_at g5
  refine hq_put hx hb hts hown hE hI hs_g5 inG6 tyX6 tyX6_ok nmX6 rfl 2 (by decide) kw_42 rfl (v := .int 0) rfl rfl rfl hl_g5 e_g5 dX6_readInto_12 (fun H locs hI => ?_)
  refine lv_aload_n hx hb dX6_readInto_15 rfl (lv_at hl 0 rfl) ?_
  refine lv_aload_n hx hb dX6_readInto_16 rfl (lv_at hl 1 rfl) ?_
  obtain ⟨g7, h⟩ := hq_g h
  obtain ⟨v9, S8, g6, h⟩ := hq_bd2 h
  refine hq_calli hI (va_runV (As := [.ref a1]) (rest := []) ⟨hx, hb, hml, hown, hts⟩ (c_X6_readClause l D kA ρ HB S4 a0 a1 _ g6) (cwV 1 hts (gdIn (List.forall_mem_cons.mpr ⟨kw_382, (List.forall_mem_cons.mpr ⟨kw_384, (List.forall_mem_cons.mpr ⟨ks_3, (List.forall_mem_cons.mpr ⟨kw_2, (fun _ h => absurd h List.not_mem_nil)⟩)⟩)⟩)⟩) kw_385) rfl rfl rfl ye_X6_readClause ⟨Nat.le_of_ble_eq_true rfl, Nat.le_of_ble_eq_true rfl⟩) (hq_preC hE hI g7 rfl _) rfl rfl hl.1 rfl (lv_room (Nat.le_of_ble_eq_true rfl)) dX6_readInto_17 ⟨Nat.le_of_ble_eq_true rfl, Nat.le_of_ble_eq_true rfl⟩) (fun H locs hI => ?_)
  refine lv_istore_n (lv' := [(2, .int v9), (0, .ref a0), (1, .ref a1)]) hx hb dX6_readInto_20 rfl hl (by decide) rfl (fun ls hl => ?_)
  refine lv_iconst (v := 1) hx hb dX6_readInto_21 (by decide) ?_
  refine lv_istore_n (lv' := [(3, .int 1), (2, .int v9), (0, .ref a0), (1, .ref a1)]) hx hb dX6_readInto_22 rfl hl (by decide) rfl (fun ls hl => ?_)
  have hK64 : ∀ (x10 : Int32) (S11 : HSt) (H : Heap) (locs : List Loc) (ls : Array Slot), (f_X6_readInto_K64 a0) x10 S11 = some res → hqX D kA HB S.2 S11 H locs → lv_has ls 4 [(0, .ref a0), (2, .int x10)] → W p l e rm_X6_readInto s m ([.ref a0, .ref a1] : List Value).toArray below meth c H locs 0 0 (MQ below (hQi D kA HB S res) ([.ref a0, .ref a1] : List Value).toArray s 0 0 (hFree HB)) (F0 m 64 ls []) := by
    intro x10 S11 H locs ls h hI hl
    unfold f_X6_readInto_K64 at h
    refine lv_iload_n hx hb dX6_readInto_64 rfl (lv_at hl 1 rfl) ?_
    refine lv_if_eq (tgt := 83) hx hb dX6_readInto_65 (by decide) (fun c12 => ?_) (fun c12 => ?_)
    · have h := hq_t h c12
      refine lv_aload_n hx hb dX6_readInto_83 rfl (lv_at hl 0 rfl) ?_
      obtain ⟨v13, g14, h⟩ := hq_bind h
      obtain ⟨fs_g14, hs_g14, hv_g14⟩ := gI_at g14
      refine hq_get hx hb hts hown hE hI hs_g14 inG6 rfl 2 (by decide) kw_42 hv_g14 dX6_readInto_84 ?_
      refine lv_istore_n (lv' := [(3, .int v13), (0, .ref a0), (2, .int x10)]) hx hb dX6_readInto_87 rfl hl (by decide) rfl (fun ls hl => ?_)
      refine lv_aload_n hx hb dX6_readInto_88 rfl (lv_at hl 1 rfl) ?_
      refine lv_iconst (v := 0) hx hb dX6_readInto_89 (by decide) ?_
      obtain ⟨S15, g16, h⟩ := hq_bind h
      obtain ⟨fs_g16, hs_g16, hl_g16, e_g16⟩ := pV_at g16
      refine hq_put hx hb hts hown hE hI hs_g16 inG6 tyX6 tyX6_ok nmX6 rfl 1 (by decide) kw_40 rfl (v := .int 0) rfl rfl rfl hl_g16 e_g16 dX6_readInto_90 (fun H locs hI => ?_)
      refine lv_iload_n hx hb dX6_readInto_93 rfl (lv_at hl 0 rfl) ?_
      exact hq_iret hx hb hr hlocks h0 hI h dX6_readInto_94
    · have h := hq_f h c12
      refine lv_aload_n hx hb dX6_readInto_68 rfl (lv_at hl 0 rfl) ?_
      obtain ⟨v17, g18, h⟩ := hq_bind h
      obtain ⟨fs_g18, hs_g18, hv_g18⟩ := gI_at g18
      refine hq_get hx hb hts hown hE hI hs_g18 inG6 rfl 2 (by decide) kw_42 hv_g18 dX6_readInto_69 ?_
      refine lv_aload_n hx hb dX6_readInto_72 rfl (lv_at hl 0 rfl) ?_
      obtain ⟨v19, g20, h⟩ := hq_bind h
      obtain ⟨fs_g20, hs_g20, hv_g20⟩ := gI_at g20
      refine hq_get hx hb hts hown hE hI hs_g20 inG6 rfl 1 (by decide) kw_40 hv_g20 dX6_readInto_73 ?_
      refine lv_icmp_lt (tgt := 83) hx hb dX6_readInto_76 (by decide) (fun c21 => ?_) (fun c21 => ?_)
      · have h := hq_t h c21
        refine lv_aload_n hx hb dX6_readInto_83 rfl (lv_at hl 0 rfl) ?_
        obtain ⟨v22, g23, h⟩ := hq_bind h
        obtain ⟨fs_g23, hs_g23, hv_g23⟩ := gI_at g23
        refine hq_get hx hb hts hown hE hI hs_g23 inG6 rfl 2 (by decide) kw_42 hv_g23 dX6_readInto_84 ?_
        refine lv_istore_n (lv' := [(3, .int v22), (0, .ref a0), (2, .int x10)]) hx hb dX6_readInto_87 rfl hl (by decide) rfl (fun ls hl => ?_)
        refine lv_aload_n hx hb dX6_readInto_88 rfl (lv_at hl 1 rfl) ?_
        refine lv_iconst (v := 0) hx hb dX6_readInto_89 (by decide) ?_
        obtain ⟨S24, g25, h⟩ := hq_bind h
        obtain ⟨fs_g25, hs_g25, hl_g25, e_g25⟩ := pV_at g25
        refine hq_put hx hb hts hown hE hI hs_g25 inG6 tyX6 tyX6_ok nmX6 rfl 1 (by decide) kw_40 rfl (v := .int 0) rfl rfl rfl hl_g25 e_g25 dX6_readInto_90 (fun H locs hI => ?_)
        refine lv_iload_n hx hb dX6_readInto_93 rfl (lv_at hl 0 rfl) ?_
        exact hq_iret hx hb hr hlocks h0 hI h dX6_readInto_94
      · have h := hq_f h c21
        refine lv_iconst (v := (-1)) hx hb dX6_readInto_79 (by decide) ?_
        refine lv_goto (tgt := 87) hx hb dX6_readInto_80 (by decide) ?_
        refine lv_istore_n (lv' := [(3, .int (-1)), (0, .ref a0), (2, .int x10)]) hx hb dX6_readInto_87 rfl hl (by decide) rfl (fun ls hl => ?_)
        refine lv_aload_n hx hb dX6_readInto_88 rfl (lv_at hl 1 rfl) ?_
        refine lv_iconst (v := 0) hx hb dX6_readInto_89 (by decide) ?_
        obtain ⟨S26, g27, h⟩ := hq_bind h
        obtain ⟨fs_g27, hs_g27, hl_g27, e_g27⟩ := pV_at g27
        refine hq_put hx hb hts hown hE hI hs_g27 inG6 tyX6 tyX6_ok nmX6 rfl 1 (by decide) kw_40 rfl (v := .int 0) rfl rfl rfl hl_g27 e_g27 dX6_readInto_90 (fun H locs hI => ?_)
        refine lv_iload_n hx hb dX6_readInto_93 rfl (lv_at hl 0 rfl) ?_
        exact hq_iret hx hb hr hlocks h0 hI h dX6_readInto_94
  have hL23 : ∀ (n23 : Nat) (x28 : Int32) (x29 : Int32) (S30 : HSt) (H : Heap) (locs : List Loc) (ls : Array Slot), (f_X6_readInto_L23 ρ a0 a1 (f_X6_readInto_K64 a0) n23) x28 x29 S30 = some res → hqX D kA HB S.2 S30 H locs → lv_has ls 4 [(0, .ref a0), (1, .ref a1), (2, .int x28), (3, .int x29)] → W p l e rm_X6_readInto s m ([.ref a0, .ref a1] : List Value).toArray below meth c H locs 0 0 (MQ below (hQi D kA HB S res) ([.ref a0, .ref a1] : List Value).toArray s 0 0 (hFree HB)) (F0 m 23 ls []) := by
    intro n23
    induction n23 with
    | zero =>
      intro x28 x29 S30 H locs ls h
      have h : (none : Option (Int32 × HSt)) = some res := h
      cases h
    | succ n23 ih23 =>
      intro x28 x29 S30 H locs ls h hI hl
      have h : f_X6_readInto_B23 ρ a0 a1 (f_X6_readInto_K64 a0) (f_X6_readInto_L23 ρ a0 a1 (f_X6_readInto_K64 a0) n23) x28 x29 S30 = some res := h
      unfold f_X6_readInto_B23 at h
      refine lv_iload_n hx hb dX6_readInto_23 rfl (lv_at hl 2 rfl) ?_
      refine lv_if_eq (tgt := 64) hx hb dX6_readInto_24 (by decide) (fun c31 => ?_) (fun c31 => ?_)
      · have h := hq_t h c31
        exact hK64 x28 S30 _ _ _ h hI (lv_sub hl [0, 2] rfl)
      · have h := hq_f h c31
        refine lv_aload_n hx hb dX6_readInto_27 rfl (lv_at hl 0 rfl) ?_
        obtain ⟨g33, h⟩ := hq_g h
        obtain ⟨v35, S34, g32, h⟩ := hq_bd2 h
        refine hq_calli hI (va_runV (As := []) (rest := []) ⟨hx, hb, hml, hown, hts⟩ (c_X6_look l D kA ρ HB S30 a0 _ g32) (cwV 0 hts (gdIn (List.forall_mem_cons.mpr ⟨kw_386, (List.forall_mem_cons.mpr ⟨kw_388, (List.forall_mem_cons.mpr ⟨ks_4, (List.forall_mem_cons.mpr ⟨kw_2, (fun _ h => absurd h List.not_mem_nil)⟩)⟩)⟩)⟩) kw_389) rfl rfl rfl ye_X6_look ⟨Nat.le_of_ble_eq_true rfl, Nat.le_of_ble_eq_true rfl⟩) (hq_preC hE hI g33 rfl _) rfl rfl hl.1 rfl (lv_room (Nat.le_of_ble_eq_true rfl)) dX6_readInto_28 ⟨Nat.le_of_ble_eq_true rfl, Nat.le_of_ble_eq_true rfl⟩) (fun H locs hI => ?_)
        refine lv_bipush (v := 59) hx hb dX6_readInto_31 (by decide) ?_
        refine lv_icmp_ne (tgt := 64) hx hb dX6_readInto_33 (by decide) (fun c36 => ?_) (fun c36 => ?_)
        · have h := hq_f h c36
          exact hK64 x28 S34 _ _ _ h hI (lv_sub hl [0, 2] rfl)
        · have h := hq_t h c36
          refine lv_iload_n hx hb dX6_readInto_36 rfl (lv_at hl 3 rfl) ?_
          refine lv_bipush (v := 8) hx hb dX6_readInto_37 (by decide) ?_
          refine lv_icmp_ge (tgt := 64) hx hb dX6_readInto_39 (by decide) (fun c37 => ?_) (fun c37 => ?_)
          · have h := hq_t h c37
            exact hK64 x28 S34 _ _ _ h hI (lv_sub hl [0, 2] rfl)
          · have h := hq_f h c37
            refine lv_aload_n hx hb dX6_readInto_42 rfl (lv_at hl 0 rfl) ?_
            refine lv_dup hx hb dX6_readInto_43 rfl ?_
            obtain ⟨v38, g39, h⟩ := hq_bind h
            obtain ⟨fs_g39, hs_g39, hv_g39⟩ := gI_at g39
            refine hq_get hx hb hts hown hE hI hs_g39 inG6 rfl 2 (by decide) kw_42 hv_g39 dX6_readInto_44 ?_
            refine lv_iconst (v := 1) hx hb dX6_readInto_47 (by decide) ?_
            refine lv_iadd hx hb dX6_readInto_48 ?_
            obtain ⟨S40, g41, h⟩ := hq_bind h
            obtain ⟨fs_g41, hs_g41, hl_g41, e_g41⟩ := pV_at g41
            refine hq_put hx hb hts hown hE hI hs_g41 inG6 tyX6 tyX6_ok nmX6 rfl 2 (by decide) kw_42 rfl (v := .int (v38 + 1)) rfl rfl rfl hl_g41 e_g41 dX6_readInto_49 (fun H locs hI => ?_)
            refine lv_aload_n hx hb dX6_readInto_52 rfl (lv_at hl 0 rfl) ?_
            refine lv_aload_n hx hb dX6_readInto_53 rfl (lv_at hl 1 rfl) ?_
            obtain ⟨g43, h⟩ := hq_g h
            obtain ⟨v45, S44, g42, h⟩ := hq_bd2 h
            refine hq_calli hI (va_runV (As := [.ref a1]) (rest := []) ⟨hx, hb, hml, hown, hts⟩ (c_X6_readClause l D kA ρ HB S40 a0 a1 _ g42) (cwV 1 hts (gdIn (List.forall_mem_cons.mpr ⟨kw_382, (List.forall_mem_cons.mpr ⟨kw_384, (List.forall_mem_cons.mpr ⟨ks_3, (List.forall_mem_cons.mpr ⟨kw_2, (fun _ h => absurd h List.not_mem_nil)⟩)⟩)⟩)⟩) kw_385) rfl rfl rfl ye_X6_readClause ⟨Nat.le_of_ble_eq_true rfl, Nat.le_of_ble_eq_true rfl⟩) (hq_preC hE hI g43 rfl _) rfl rfl hl.1 rfl (lv_room (Nat.le_of_ble_eq_true rfl)) dX6_readInto_54 ⟨Nat.le_of_ble_eq_true rfl, Nat.le_of_ble_eq_true rfl⟩) (fun H locs hI => ?_)
            refine lv_istore_n (lv' := [(2, .int v45), (0, .ref a0), (1, .ref a1), (3, .int x29)]) hx hb dX6_readInto_57 rfl hl (by decide) rfl (fun ls hl => ?_)
            refine lv_iinc (v := (x29 + 1)) (lv' := [(3, .int (x29 + 1)), (2, .int v45), (0, .ref a0), (1, .ref a1)]) hx hb dX6_readInto_58 hl (k := 3) rfl rfl (by decide) rfl (fun ls hl => ?_)
            refine lv_goto (tgt := 23) hx hb dX6_readInto_61 (by decide) ?_
            exact ih23 v45 (x29 + 1) S44 _ _ _ h hI (lv_sub hl [2, 3, 1, 0] rfl)
  exact hL23 FU v9 1 S8 _ _ _ h hI (lv_sub hl [2, 3, 1, 0] rfl)
-- RodDips$Tape.copyOf(LRodDips$Tape;)V
theorem dX6_copyOf_0 : decode cX6_copyOf 0 = .ok (.aload_n 0, 1) := by decide +kernel
theorem dX6_copyOf_1 : decode cX6_copyOf 1 = .ok (.aload_n 1, 1) := by decide +kernel
theorem dX6_copyOf_2 : decode cX6_copyOf 2 = .ok (.getfield 15, 3) := by decide +kernel
theorem dX6_copyOf_5 : decode cX6_copyOf 5 = .ok (.aload_n 0, 1) := by decide +kernel
theorem dX6_copyOf_6 : decode cX6_copyOf 6 = .ok (.getfield 9, 3) := by decide +kernel
theorem dX6_copyOf_9 : decode cX6_copyOf 9 = .ok (.arraylength, 1) := by decide +kernel
theorem dX6_copyOf_10 : decode cX6_copyOf 10 = .ok (.aload_n 1, 1) := by decide +kernel
theorem dX6_copyOf_11 : decode cX6_copyOf 11 = .ok (.getfield 9, 3) := by decide +kernel
theorem dX6_copyOf_14 : decode cX6_copyOf 14 = .ok (.arraylength, 1) := by decide +kernel
theorem dX6_copyOf_15 : decode cX6_copyOf 15 = .ok (.invokestatic 22, 3) := by decide +kernel
theorem dX6_copyOf_18 : decode cX6_copyOf 18 = .ok (.invokestatic 22, 3) := by decide +kernel
theorem dX6_copyOf_21 : decode cX6_copyOf 21 = .ok (.putfield 15, 3) := by decide +kernel
theorem dX6_copyOf_24 : decode cX6_copyOf 24 = .ok (.aload_n 1, 1) := by decide +kernel
theorem dX6_copyOf_25 : decode cX6_copyOf 25 = .ok (.getfield 9, 3) := by decide +kernel
theorem dX6_copyOf_28 : decode cX6_copyOf 28 = .ok (.iconst 0, 1) := by decide +kernel
theorem dX6_copyOf_29 : decode cX6_copyOf 29 = .ok (.aload_n 0, 1) := by decide +kernel
theorem dX6_copyOf_30 : decode cX6_copyOf 30 = .ok (.getfield 9, 3) := by decide +kernel
theorem dX6_copyOf_33 : decode cX6_copyOf 33 = .ok (.iconst 0, 1) := by decide +kernel
theorem dX6_copyOf_34 : decode cX6_copyOf 34 = .ok (.aload_n 0, 1) := by decide +kernel
theorem dX6_copyOf_35 : decode cX6_copyOf 35 = .ok (.getfield 15, 3) := by decide +kernel
theorem dX6_copyOf_38 : decode cX6_copyOf 38 = .ok (.invokestatic 28, 3) := by decide +kernel
theorem dX6_copyOf_41 : decode cX6_copyOf 41 = .ok (.return_, 1) := by decide +kernel
def f_X6_copyOf (S : HSt) (a0 : Nat) (a1 : Nat) : Option (HSt) := (gI S a1 6 1).bind fun v1 => (gR S a0 6 0).bind fun b3 => (aN S b3).bind fun v5 => (gR S a1 6 0).bind fun b7 => (aN S b7).bind fun v9 => hqn ((if v9 < v5 then v9 else v5 : Int32)) fun (v11 : Int32) => hqn ((if v11 < v1 then v11 else v1 : Int32)) fun (v12 : Int32) => (pV S a0 6 1 (.int v12)).bind fun S13 => (gR S13 a1 6 0).bind fun b15 => (gR S13 a0 6 0).bind fun b17 => (gI S13 a0 6 1).bind fun v19 => (cpB S13 b15 0 b17 0 v19).bind fun S22 => some S22
abbrev rm_X6_copyOf : Room := { frames := 1, cells := 0, slots := 0, locals := 60 }
abbrev w_X6_copyOf : List Cond := Cond.code yX6_copyOf cX6_copyOf 2 none :: lwG
theorem yd_X6_copyOf : yX6_copyOf.cls ≠ "java/lang/invoke/MethodHandle" ∧ yX6_copyOf.cls ≠ "java/lang/invoke/VarHandle" ∧ (parseMethodDescriptor yX6_copyOf.desc).map (fun d => d.parameters.length) = some 1 := by decide +kernel
theorem ye_X6_copyOf : yX6_copyOf.cls = RX6 ∧ yX6_copyOf.cls ≠ "java/lang/invoke/MethodHandle" ∧ yX6_copyOf.cls ≠ "java/lang/invoke/VarHandle" ∧ (parseMethodDescriptor yX6_copyOf.desc).map (fun d => d.parameters.length) = some 1 := by decide +kernel
set_option maxHeartbeats 4000000 in
set_option maxRecDepth 100000 in
theorem c_X6_copyOf (l : Launch) (D : va_G) (kA ρ : Nat → Nat) (HB : Heap) (S : HSt) (a0 : Nat) (a1 : Nat) (res : HSt) (h : f_X6_copyOf S a0 a1 = some res) : Met l yX6_copyOf w_X6_copyOf rm_X6_copyOf (hPc D kA ρ HB S [.ref a0, .ref a1]) (hQv D kA HB S res) 0 0 (hFree HB) := by
  refine Met.ofW (cc := cX6_copyOf) (maxL := 2) (ret := none) (by decide) rfl ?_
  intro p e s m args below meth c s₁ B hml hv
  obtain ⟨rfl, hE, h0⟩ := hv
  have hx := B.exec
  have hb := B.bytes
  have hr := B.returns
  have hts0 := atoms_spec (ws := w_X6_copyOf) B.pre
  have hts : ∀ w ∈ lwG, w.before _ s = true := fun w hw => hts0 w (List.mem_cons_of_mem _ hw)
  have hown : s.vm.findClass RX6 = some m.cls := findClass_of_methodNamed B.named
  have hlocks := B.notSynchronized
  have hI : hqX D kA HB S.2 S s.heap [] := ⟨h0, Nat.le_refl _, fun _ q => absurd q List.not_mem_nil⟩
  have hl := lv_entry ([.ref a0, .ref a1]) (n := 2) (Nat.le_of_ble_eq_true rfl)
  rw [lg_entry_eq]
  generalize (lg_sl ([.ref a0, .ref a1]) ++ List.replicate (2 - (lg_sl ([.ref a0, .ref a1])).length) Slot.unset).toArray = ls at hl ⊢
  have hl : lv_has ls 2 [(0, .ref a0), (1, .ref a1)] := hl
  unfold f_X6_copyOf at h
  refine lv_aload_n hx hb dX6_copyOf_0 rfl (lv_at hl 0 rfl) ?_
  refine lv_aload_n hx hb dX6_copyOf_1 rfl (lv_at hl 1 rfl) ?_
  obtain ⟨v1, g2, h⟩ := hq_bind h
  obtain ⟨fs_g2, hs_g2, hv_g2⟩ := gI_at g2
  refine hq_get hx hb hts hown hE hI hs_g2 inG6 rfl 1 (by decide) kw_40 hv_g2 dX6_copyOf_2 ?_
  refine lv_aload_n hx hb dX6_copyOf_5 rfl (lv_at hl 0 rfl) ?_
  obtain ⟨b3, g4, h⟩ := hq_bind h
  obtain ⟨fs_g4, hs_g4, hv_g4⟩ := gR_at g4
  refine hq_get hx hb hts hown hE hI hs_g4 inG6 rfl 0 (by decide) kw_39 hv_g4 dX6_copyOf_6 ?_
  obtain ⟨v5, g6, h⟩ := hq_bind h
  refine hq_alen hx hb hE hI g6 dX6_copyOf_9 ?_
  refine lv_aload_n hx hb dX6_copyOf_10 rfl (lv_at hl 1 rfl) ?_
  obtain ⟨b7, g8, h⟩ := hq_bind h
  obtain ⟨fs_g8, hs_g8, hv_g8⟩ := gR_at g8
  refine hq_get hx hb hts hown hE hI hs_g8 inG6 rfl 0 (by decide) kw_39 hv_g8 dX6_copyOf_11 ?_
  obtain ⟨v9, g10, h⟩ := hq_bind h
  refine hq_alen hx hb hE hI g10 dX6_copyOf_14 ?_
  refine va_mmin hx hb (hml.trans hl.1.symm) hown (hts _ kw_927) (hts _ kw_507) (hts _ kw_14) (hts _ kw_508) (Nat.le_of_ble_eq_true rfl) (Nat.le_of_ble_eq_true rfl) (Nat.le_of_ble_eq_true rfl) (Nat.le_of_ble_eq_true rfl) dX6_copyOf_15 ?_
  refine lv_topi (fun v11 e_v11 => ?_)
  have h := hq_nm h e_v11
  refine va_mmin hx hb (hml.trans hl.1.symm) hown (hts _ kw_927) (hts _ kw_507) (hts _ kw_14) (hts _ kw_508) (Nat.le_of_ble_eq_true rfl) (Nat.le_of_ble_eq_true rfl) (Nat.le_of_ble_eq_true rfl) (Nat.le_of_ble_eq_true rfl) dX6_copyOf_18 ?_
  refine lv_topi (fun v12 e_v12 => ?_)
  have h := hq_nm h e_v12
  obtain ⟨S13, g14, h⟩ := hq_bind h
  obtain ⟨fs_g14, hs_g14, hl_g14, e_g14⟩ := pV_at g14
  refine hq_put hx hb hts hown hE hI hs_g14 inG6 tyX6 tyX6_ok nmX6 rfl 1 (by decide) kw_40 rfl (v := .int v12) rfl rfl rfl hl_g14 e_g14 dX6_copyOf_21 (fun H locs hI => ?_)
  refine lv_aload_n hx hb dX6_copyOf_24 rfl (lv_at hl 1 rfl) ?_
  obtain ⟨b15, g16, h⟩ := hq_bind h
  obtain ⟨fs_g16, hs_g16, hv_g16⟩ := gR_at g16
  refine hq_get hx hb hts hown hE hI hs_g16 inG6 rfl 0 (by decide) kw_39 hv_g16 dX6_copyOf_25 ?_
  refine lv_iconst (v := 0) hx hb dX6_copyOf_28 (by decide) ?_
  refine lv_aload_n hx hb dX6_copyOf_29 rfl (lv_at hl 0 rfl) ?_
  obtain ⟨b17, g18, h⟩ := hq_bind h
  obtain ⟨fs_g18, hs_g18, hv_g18⟩ := gR_at g18
  refine hq_get hx hb hts hown hE hI hs_g18 inG6 rfl 0 (by decide) kw_39 hv_g18 dX6_copyOf_30 ?_
  refine lv_iconst (v := 0) hx hb dX6_copyOf_33 (by decide) ?_
  refine lv_aload_n hx hb dX6_copyOf_34 rfl (lv_at hl 0 rfl) ?_
  obtain ⟨v19, g20, h⟩ := hq_bind h
  obtain ⟨fs_g20, hs_g20, hv_g20⟩ := gI_at g20
  refine hq_get hx hb hts hown hE hI hs_g20 inG6 rfl 1 (by decide) kw_40 hv_g20 dX6_copyOf_35 ?_
  obtain ⟨S22, g21, h⟩ := hq_bind h
  refine hq_copyB hx hb (hml.trans hl.1.symm) hts hown kw_928 kw_930 kw_929 kw_22 hE hI g21 (Nat.le_of_ble_eq_true rfl) (Nat.le_of_ble_eq_true rfl) dX6_copyOf_38 (fun H locs hI => ?_)
  exact hq_vret hx hb hr hlocks h0 hI h dX6_copyOf_41
