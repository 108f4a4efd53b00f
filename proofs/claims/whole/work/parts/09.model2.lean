/-! the reference, second half: printed by wip/whole/gen.py -/
-- RodDipsModel.aloneOf(III)J
theorem dX12_aloneOf_0 : decode cX12_aloneOf 0 = .ok (.aload_n 0, 1) := by decide +kernel
theorem dX12_aloneOf_1 : decode cX12_aloneOf 1 = .ok (.iload_n 1, 1) := by decide +kernel
theorem dX12_aloneOf_2 : decode cX12_aloneOf 2 = .ok (.invokevirtual 180, 3) := by decide +kernel
theorem dX12_aloneOf_5 : decode cX12_aloneOf 5 = .ok (.istore 4, 2) := by decide +kernel
theorem dX12_aloneOf_7 : decode cX12_aloneOf 7 = .ok (.aload_n 0, 1) := by decide +kernel
theorem dX12_aloneOf_8 : decode cX12_aloneOf 8 = .ok (.iload 4, 2) := by decide +kernel
theorem dX12_aloneOf_10 : decode cX12_aloneOf 10 = .ok (.aload_n 0, 1) := by decide +kernel
theorem dX12_aloneOf_11 : decode cX12_aloneOf 11 = .ok (.getfield 9, 3) := by decide +kernel
theorem dX12_aloneOf_14 : decode cX12_aloneOf 14 = .ok (.sipush 310, 3) := by decide +kernel
theorem dX12_aloneOf_17 : decode cX12_aloneOf 17 = .ok (.iload_n 1, 1) := by decide +kernel
theorem dX12_aloneOf_18 : decode cX12_aloneOf 18 = .ok (.iadd, 1) := by decide +kernel
theorem dX12_aloneOf_19 : decode cX12_aloneOf 19 = .ok (.iaload, 1) := by decide +kernel
theorem dX12_aloneOf_20 : decode cX12_aloneOf 20 = .ok (.invokevirtual 183, 3) := by decide +kernel
theorem dX12_aloneOf_23 : decode cX12_aloneOf 23 = .ok (.istore 5, 2) := by decide +kernel
theorem dX12_aloneOf_25 : decode cX12_aloneOf 25 = .ok (.iconst (-1), 1) := by decide +kernel
theorem dX12_aloneOf_26 : decode cX12_aloneOf 26 = .ok (.istore 6, 2) := by decide +kernel
theorem dX12_aloneOf_28 : decode cX12_aloneOf 28 = .ok (.iconst 0, 1) := by decide +kernel
theorem dX12_aloneOf_29 : decode cX12_aloneOf 29 = .ok (.istore 7, 2) := by decide +kernel
theorem dX12_aloneOf_31 : decode cX12_aloneOf 31 = .ok (.iload 7, 2) := by decide +kernel
theorem dX12_aloneOf_33 : decode cX12_aloneOf 33 = .ok (.bipush 6, 2) := by decide +kernel
theorem dX12_aloneOf_35 : decode cX12_aloneOf 35 = .ok (.if_icmp .ge 72, 3) := by decide +kernel
theorem dX12_aloneOf_38 : decode cX12_aloneOf 38 = .ok (.aload_n 0, 1) := by decide +kernel
theorem dX12_aloneOf_39 : decode cX12_aloneOf 39 = .ok (.iload 4, 2) := by decide +kernel
theorem dX12_aloneOf_41 : decode cX12_aloneOf 41 = .ok (.iload 7, 2) := by decide +kernel
theorem dX12_aloneOf_43 : decode cX12_aloneOf 43 = .ok (.invokevirtual 187, 3) := by decide +kernel
theorem dX12_aloneOf_46 : decode cX12_aloneOf 46 = .ok (.ifCond .eq 38, 3) := by decide +kernel
theorem dX12_aloneOf_49 : decode cX12_aloneOf 49 = .ok (.iload 6, 2) := by decide +kernel
theorem dX12_aloneOf_51 : decode cX12_aloneOf 51 = .ok (.iconst (-1), 1) := by decide +kernel
theorem dX12_aloneOf_52 : decode cX12_aloneOf 52 = .ok (.if_icmp .eq 28, 3) := by decide +kernel
theorem dX12_aloneOf_55 : decode cX12_aloneOf 55 = .ok (.aload_n 0, 1) := by decide +kernel
theorem dX12_aloneOf_56 : decode cX12_aloneOf 56 = .ok (.iload 5, 2) := by decide +kernel
theorem dX12_aloneOf_58 : decode cX12_aloneOf 58 = .ok (.iload 7, 2) := by decide +kernel
theorem dX12_aloneOf_60 : decode cX12_aloneOf 60 = .ok (.invokevirtual 187, 3) := by decide +kernel
theorem dX12_aloneOf_63 : decode cX12_aloneOf 63 = .ok (.invokestatic 190, 3) := by decide +kernel
theorem dX12_aloneOf_66 : decode cX12_aloneOf 66 = .ok (.aload_n 0, 1) := by decide +kernel
theorem dX12_aloneOf_67 : decode cX12_aloneOf 67 = .ok (.iload 5, 2) := by decide +kernel
theorem dX12_aloneOf_69 : decode cX12_aloneOf 69 = .ok (.iload 6, 2) := by decide +kernel
theorem dX12_aloneOf_71 : decode cX12_aloneOf 71 = .ok (.invokevirtual 187, 3) := by decide +kernel
theorem dX12_aloneOf_74 : decode cX12_aloneOf 74 = .ok (.invokestatic 190, 3) := by decide +kernel
theorem dX12_aloneOf_77 : decode cX12_aloneOf 77 = .ok (.if_icmp .le 7, 3) := by decide +kernel
theorem dX12_aloneOf_80 : decode cX12_aloneOf 80 = .ok (.iconst 1, 1) := by decide +kernel
theorem dX12_aloneOf_81 : decode cX12_aloneOf 81 = .ok (.goto 4, 3) := by decide +kernel
theorem dX12_aloneOf_84 : decode cX12_aloneOf 84 = .ok (.iconst 0, 1) := by decide +kernel
theorem dX12_aloneOf_85 : decode cX12_aloneOf 85 = .ok (.istore 8, 2) := by decide +kernel
theorem dX12_aloneOf_87 : decode cX12_aloneOf 87 = .ok (.iload 8, 2) := by decide +kernel
theorem dX12_aloneOf_89 : decode cX12_aloneOf 89 = .ok (.ifCond .eq 8, 3) := by decide +kernel
theorem dX12_aloneOf_92 : decode cX12_aloneOf 92 = .ok (.iload 7, 2) := by decide +kernel
theorem dX12_aloneOf_94 : decode cX12_aloneOf 94 = .ok (.goto 5, 3) := by decide +kernel
theorem dX12_aloneOf_97 : decode cX12_aloneOf 97 = .ok (.iload 6, 2) := by decide +kernel
theorem dX12_aloneOf_99 : decode cX12_aloneOf 99 = .ok (.istore 6, 2) := by decide +kernel
theorem dX12_aloneOf_101 : decode cX12_aloneOf 101 = .ok (.iinc 7 1, 3) := by decide +kernel
theorem dX12_aloneOf_104 : decode cX12_aloneOf 104 = .ok (.goto (-73), 3) := by decide +kernel
theorem dX12_aloneOf_107 : decode cX12_aloneOf 107 = .ok (.iload 6, 2) := by decide +kernel
theorem dX12_aloneOf_109 : decode cX12_aloneOf 109 = .ok (.iconst (-1), 1) := by decide +kernel
theorem dX12_aloneOf_110 : decode cX12_aloneOf 110 = .ok (.if_icmp .eq 19, 3) := by decide +kernel
theorem dX12_aloneOf_113 : decode cX12_aloneOf 113 = .ok (.aload_n 0, 1) := by decide +kernel
theorem dX12_aloneOf_114 : decode cX12_aloneOf 114 = .ok (.iload 4, 2) := by decide +kernel
theorem dX12_aloneOf_116 : decode cX12_aloneOf 116 = .ok (.iload 6, 2) := by decide +kernel
theorem dX12_aloneOf_118 : decode cX12_aloneOf 118 = .ok (.invokevirtual 187, 3) := by decide +kernel
theorem dX12_aloneOf_121 : decode cX12_aloneOf 121 = .ok (.invokestatic 190, 3) := by decide +kernel
theorem dX12_aloneOf_124 : decode cX12_aloneOf 124 = .ok (.bipush 9, 2) := by decide +kernel
theorem dX12_aloneOf_126 : decode cX12_aloneOf 126 = .ok (.if_icmp .le 7, 3) := by decide +kernel
theorem dX12_aloneOf_129 : decode cX12_aloneOf 129 = .ok (.ldc2_w 200, 3) := by decide +kernel
theorem dX12_aloneOf_132 : decode cX12_aloneOf 132 = .ok (.lreturn, 1) := by decide +kernel
theorem dX12_aloneOf_133 : decode cX12_aloneOf 133 = .ok (.aload_n 0, 1) := by decide +kernel
theorem dX12_aloneOf_134 : decode cX12_aloneOf 134 = .ok (.aload_n 0, 1) := by decide +kernel
theorem dX12_aloneOf_135 : decode cX12_aloneOf 135 = .ok (.iload 4, 2) := by decide +kernel
theorem dX12_aloneOf_137 : decode cX12_aloneOf 137 = .ok (.iload 6, 2) := by decide +kernel
theorem dX12_aloneOf_139 : decode cX12_aloneOf 139 = .ok (.invokevirtual 187, 3) := by decide +kernel
theorem dX12_aloneOf_142 : decode cX12_aloneOf 142 = .ok (.aload_n 0, 1) := by decide +kernel
theorem dX12_aloneOf_143 : decode cX12_aloneOf 143 = .ok (.getfield 9, 3) := by decide +kernel
theorem dX12_aloneOf_146 : decode cX12_aloneOf 146 = .ok (.sipush 310, 3) := by decide +kernel
theorem dX12_aloneOf_149 : decode cX12_aloneOf 149 = .ok (.iload_n 1, 1) := by decide +kernel
theorem dX12_aloneOf_150 : decode cX12_aloneOf 150 = .ok (.iadd, 1) := by decide +kernel
theorem dX12_aloneOf_151 : decode cX12_aloneOf 151 = .ok (.iaload, 1) := by decide +kernel
theorem dX12_aloneOf_152 : decode cX12_aloneOf 152 = .ok (.invokevirtual 216, 3) := by decide +kernel
theorem dX12_aloneOf_155 : decode cX12_aloneOf 155 = .ok (.aload_n 0, 1) := by decide +kernel
theorem dX12_aloneOf_156 : decode cX12_aloneOf 156 = .ok (.iload_n 2, 1) := by decide +kernel
theorem dX12_aloneOf_157 : decode cX12_aloneOf 157 = .ok (.invokevirtual 219, 3) := by decide +kernel
theorem dX12_aloneOf_160 : decode cX12_aloneOf 160 = .ok (.aload_n 0, 1) := by decide +kernel
theorem dX12_aloneOf_161 : decode cX12_aloneOf 161 = .ok (.getfield 209, 3) := by decide +kernel
theorem dX12_aloneOf_164 : decode cX12_aloneOf 164 = .ok (.iload_n 3, 1) := by decide +kernel
theorem dX12_aloneOf_165 : decode cX12_aloneOf 165 = .ok (.invokestatic 205, 3) := by decide +kernel
theorem dX12_aloneOf_168 : decode cX12_aloneOf 168 = .ok (.lreturn, 1) := by decide +kernel
def f_X12_aloneOf_K107 (a0 : Nat) (a1 : Int32) (a2 : Int32) (a3 : Int32) (v4 : Int32) (x13 : Int32) (S14 : HSt) : Option (Int64 × HSt) := if x13 = (-1) then (some ((-9223372036854775808), S14)) else (if gC S14 a0 = some 12 then (bd2 (f_X12_ofMan S14 a0 v4 x13) fun v19 S18 => bd2 (f_X12_count1 S18 v19) fun v22 S21 => if v22 ≤ 9 then (if gC S21 a0 = some 12 then (bd2 (f_X12_ofMan S21 a0 v4 x13) fun v27 S26 => (gR S26 a0 12 1).bind fun b28 => (aI S26 b28 0 (310 + a1)).bind fun v31 => if gC S26 a0 = some 12 then ((f_X12_counts S26 a0 v27 v31).bind fun S34 => if gC S34 a0 = some 12 then (bd2 (f_X12_orMore S34 a0 a2) fun v38 S37 => (gL S37 a0 12 14).bind fun v39 => bd2 (f_X12_lowest S37 v38 v39 a3) fun v43 S42 => some (v43, S42)) else none) else none) else none) else (some ((-9223372036854775808), S21))) else none)
def f_X12_aloneOf_J85 (kb31 : (Int32 → Int32 → HSt → Option (Int64 × HSt))) (x44 : Int32) (x45 : Int32) (y52 : Int32) (S53 : HSt) : Option (Int64 × HSt) := if y52 = 0 then (kb31 x44 (x45 + 1) S53) else (kb31 x45 (x45 + 1) S53)
def f_X12_aloneOf_B31 (a0 : Nat) (v12 : Int32) (v4 : Int32) (kx107 : (Int32 → HSt → Option (Int64 × HSt))) (kb31 : (Int32 → Int32 → HSt → Option (Int64 × HSt))) (x44 : Int32) (x45 : Int32) (S46 : HSt) : Option (Int64 × HSt) := if 6 ≤ x45 then (kx107 x44 S46) else (if gC S46 a0 = some 12 then (bd2 (f_X12_ofMan S46 a0 v4 x45) fun v51 S50 => if v51 = 0 then ((f_X12_aloneOf_J85 kb31 x44 x45) 0 S50) else (if x44 = (-1) then ((f_X12_aloneOf_J85 kb31 x44 x45) 1 S50) else (if gC S50 a0 = some 12 then (bd2 (f_X12_ofMan S50 a0 v12 x45) fun v60 S59 => bd2 (f_X12_count1 S59 v60) fun v63 S62 => if gC S62 a0 = some 12 then (bd2 (f_X12_ofMan S62 a0 v12 x44) fun v67 S66 => bd2 (f_X12_count1 S66 v67) fun v70 S69 => if v63 ≤ v70 then ((f_X12_aloneOf_J85 kb31 x44 x45) 0 S69) else ((f_X12_aloneOf_J85 kb31 x44 x45) 1 S69)) else none) else none))) else none)
def f_X12_aloneOf_L31 (a0 : Nat) (v12 : Int32) (v4 : Int32) (kx107 : (Int32 → HSt → Option (Int64 × HSt))) : Nat → Int32 → Int32 → HSt → Option (Int64 × HSt)
  | 0, _, _, _ => none
  | n + 1, x44, x45, S => f_X12_aloneOf_B31 a0 v12 v4 kx107 (f_X12_aloneOf_L31 a0 v12 v4 kx107 n) x44 x45 S
def f_X12_aloneOf (S : HSt) (a0 : Nat) (a1 : Int32) (a2 : Int32) (a3 : Int32) : Option (Int64 × HSt) := if gC S a0 = some 12 then (bd2 (f_X12_counted S a0 a1) fun v4 S3 => (gR S3 a0 12 1).bind fun b5 => (aI S3 b5 0 (310 + a1)).bind fun v8 => if gC S3 a0 = some 12 then (bd2 (f_X12_hitsOf S3 a0 v4 v8) fun v12 S11 => (f_X12_aloneOf_L31 a0 v12 v4 (f_X12_aloneOf_K107 a0 a1 a2 a3 v4) FU) (-1) 0 S11) else none) else none
abbrev rm_X12_aloneOf : Room := { frames := 6, cells := 0, slots := 0, locals := 137 }
abbrev w_X12_aloneOf : List Cond := Cond.code yX12_aloneOf cX12_aloneOf 9 (Option.some FieldType.long) :: lwG
theorem yd_X12_aloneOf : yX12_aloneOf.cls ≠ "java/lang/invoke/MethodHandle" ∧ yX12_aloneOf.cls ≠ "java/lang/invoke/VarHandle" ∧ (parseMethodDescriptor yX12_aloneOf.desc).map (fun d => d.parameters.length) = some 3 := by decide +kernel
theorem ye_X12_aloneOf : yX12_aloneOf.cls = RX12 ∧ yX12_aloneOf.cls ≠ "java/lang/invoke/MethodHandle" ∧ yX12_aloneOf.cls ≠ "java/lang/invoke/VarHandle" ∧ (parseMethodDescriptor yX12_aloneOf.desc).map (fun d => d.parameters.length) = some 3 := by decide +kernel
set_option maxHeartbeats 4000000 in
set_option maxRecDepth 100000 in
theorem c_X12_aloneOf (l : Launch) (D : va_G) (kA ρ : Nat → Nat) (HB : Heap) (S : HSt) (a0 : Nat) (a1 : Int32) (a2 : Int32) (a3 : Int32) (res : Int64 × HSt) (h : f_X12_aloneOf S a0 a1 a2 a3 = some res) : Met l yX12_aloneOf w_X12_aloneOf rm_X12_aloneOf (hPc D kA ρ HB S [.ref a0, .int a1, .int a2, .int a3]) (hQl D kA HB S res) 0 0 (hFree HB) := by
  refine Met.ofW (cc := cX12_aloneOf) (maxL := 9) (ret := (Option.some FieldType.long)) (by decide) rfl ?_
  intro p e s m args below meth c s₁ B hml hv
  obtain ⟨rfl, hE, h0⟩ := hv
  have hx := B.exec
  have hb := B.bytes
  have hr := B.returns
  have hts0 := atoms_spec (ws := w_X12_aloneOf) B.pre
  have hts : ∀ w ∈ lwG, w.before _ s = true := fun w hw => hts0 w (List.mem_cons_of_mem _ hw)
  have hown : s.vm.findClass RX12 = some m.cls := findClass_of_methodNamed B.named
  have hlocks := B.notSynchronized
  have hI : hqX D kA HB S.2 S s.heap [] := ⟨h0, Nat.le_refl _, fun _ q => absurd q List.not_mem_nil⟩
  have hl := lv_entry ([.ref a0, .int a1, .int a2, .int a3]) (n := 9) (Nat.le_of_ble_eq_true rfl)
  rw [lg_entry_eq]
  generalize (lg_sl ([.ref a0, .int a1, .int a2, .int a3]) ++ List.replicate (9 - (lg_sl ([.ref a0, .int a1, .int a2, .int a3])).length) Slot.unset).toArray = ls at hl ⊢
  have hl : lv_has ls 9 [(0, .ref a0), (1, .int a1), (2, .int a2), (3, .int a3)] := hl
  unfold f_X12_aloneOf at h
  refine lv_aload_n hx hb dX12_aloneOf_0 rfl (lv_at hl 0 rfl) ?_
  refine lv_iload_n hx hb dX12_aloneOf_1 rfl (lv_at hl 1 rfl) ?_
  obtain ⟨g2, h⟩ := hq_g h
  obtain ⟨v4, S3, g1, h⟩ := hq_bd2 h
  refine hq_calli hI (va_runV (As := [.int a1]) (rest := []) ⟨hx, hb, hml, hown, hts⟩ (c_X12_counted l D kA ρ HB S a0 a1 _ g1) (cwV 1 hts (gdIn (List.forall_mem_cons.mpr ⟨kw_1137, (List.forall_mem_cons.mpr ⟨kw_1139, (List.forall_mem_cons.mpr ⟨ks_49, (List.forall_mem_cons.mpr ⟨kw_6, (fun _ h => absurd h List.not_mem_nil)⟩)⟩)⟩)⟩) kw_1140) rfl rfl rfl ye_X12_counted ⟨Nat.le_of_ble_eq_true rfl, Nat.le_of_ble_eq_true rfl⟩) (hq_preC hE hI g2 rfl _) rfl rfl hl.1 rfl (lv_room (Nat.le_of_ble_eq_true rfl)) dX12_aloneOf_2 ⟨Nat.le_of_ble_eq_true rfl, Nat.le_of_ble_eq_true rfl⟩) (fun H locs hI => ?_)
  refine lv_istore (lv' := [(4, .int v4), (0, .ref a0), (1, .int a1), (2, .int a2), (3, .int a3)]) hx hb dX12_aloneOf_5 hl (by decide) rfl (fun ls hl => ?_)
  refine lv_aload_n hx hb dX12_aloneOf_7 rfl (lv_at hl 1 rfl) ?_
  refine lv_iload hx hb dX12_aloneOf_8 (lv_at hl 0 rfl) ?_
  refine lv_aload_n hx hb dX12_aloneOf_10 rfl (lv_at hl 1 rfl) ?_
  obtain ⟨b5, g6, h⟩ := hq_bind h
  obtain ⟨fs_g6, hs_g6, hv_g6⟩ := gR_at g6
  refine hq_get hx hb hts hown hE hI hs_g6 inG12 rfl 1 (by decide) kw_945 hv_g6 dX12_aloneOf_11 ?_
  refine lv_sipush (v := 310) hx hb dX12_aloneOf_14 (by decide) ?_
  refine lv_iload_n hx hb dX12_aloneOf_17 rfl (lv_at hl 2 rfl) ?_
  refine lv_iadd hx hb dX12_aloneOf_18 ?_
  obtain ⟨v8, g7, h⟩ := hq_bind h
  refine hq_iald hx hb hE hI g7 dX12_aloneOf_19 ?_
  obtain ⟨g10, h⟩ := hq_g h
  obtain ⟨v12, S11, g9, h⟩ := hq_bd2 h
  refine hq_calli hI (va_runV (As := [.int v4, .int v8]) (rest := []) ⟨hx, hb, hml, hown, hts⟩ (c_X12_hitsOf l D kA ρ HB S3 a0 v4 v8 _ g9) (cwV 2 hts (gdIn (List.forall_mem_cons.mpr ⟨kw_1157, (List.forall_mem_cons.mpr ⟨kw_1159, (List.forall_mem_cons.mpr ⟨ks_54, (List.forall_mem_cons.mpr ⟨kw_6, (fun _ h => absurd h List.not_mem_nil)⟩)⟩)⟩)⟩) kw_1160) rfl rfl rfl ye_X12_hitsOf ⟨Nat.le_of_ble_eq_true rfl, Nat.le_of_ble_eq_true rfl⟩) (hq_preC hE hI g10 rfl _) rfl rfl hl.1 rfl (lv_room (Nat.le_of_ble_eq_true rfl)) dX12_aloneOf_20 ⟨Nat.le_of_ble_eq_true rfl, Nat.le_of_ble_eq_true rfl⟩) (fun H locs hI => ?_)
  refine lv_istore (lv' := [(5, .int v12), (4, .int v4), (0, .ref a0), (1, .int a1), (2, .int a2), (3, .int a3)]) hx hb dX12_aloneOf_23 hl (by decide) rfl (fun ls hl => ?_)
  refine lv_iconst (v := (-1)) hx hb dX12_aloneOf_25 (by decide) ?_
  refine lv_istore (lv' := [(6, .int (-1)), (5, .int v12), (4, .int v4), (0, .ref a0), (1, .int a1), (2, .int a2), (3, .int a3)]) hx hb dX12_aloneOf_26 hl (by decide) rfl (fun ls hl => ?_)
  refine lv_iconst (v := 0) hx hb dX12_aloneOf_28 (by decide) ?_
  refine lv_istore (lv' := [(7, .int 0), (6, .int (-1)), (5, .int v12), (4, .int v4), (0, .ref a0), (1, .int a1), (2, .int a2), (3, .int a3)]) hx hb dX12_aloneOf_29 hl (by decide) rfl (fun ls hl => ?_)
  have hK107 : ∀ (x13 : Int32) (S14 : HSt) (H : Heap) (locs : List Loc) (ls : Array Slot), (f_X12_aloneOf_K107 a0 a1 a2 a3 v4) x13 S14 = some res → hqX D kA HB S.2 S14 H locs → lv_has ls 9 [(0, .ref a0), (1, .int a1), (2, .int a2), (3, .int a3), (4, .int v4), (6, .int x13)] → W p l e rm_X12_aloneOf s m ([.ref a0, .int a1, .int a2, .int a3] : List Value).toArray below meth c H locs 0 0 (MQ below (hQl D kA HB S res) ([.ref a0, .int a1, .int a2, .int a3] : List Value).toArray s 0 0 (hFree HB)) (F0 m 107 ls []) := by
    intro x13 S14 H locs ls h hI hl
    unfold f_X12_aloneOf_K107 at h
    refine lv_iload hx hb dX12_aloneOf_107 (lv_at hl 5 rfl) ?_
    refine lv_iconst (v := (-1)) hx hb dX12_aloneOf_109 (by decide) ?_
    refine lv_icmp_eq (tgt := 129) hx hb dX12_aloneOf_110 (by decide) (fun c15 => ?_) (fun c15 => ?_)
    · have h := hq_t h c15
      refine lv_ldc2 (v := (-9223372036854775808)) hx hb hown (hts _ kw_1180) dX12_aloneOf_129 ?_
      exact hq_lret hx hb hr hlocks h0 hI h dX12_aloneOf_132
    · have h := hq_f h c15
      refine lv_aload_n hx hb dX12_aloneOf_113 rfl (lv_at hl 0 rfl) ?_
      refine lv_iload hx hb dX12_aloneOf_114 (lv_at hl 4 rfl) ?_
      refine lv_iload hx hb dX12_aloneOf_116 (lv_at hl 5 rfl) ?_
      obtain ⟨g17, h⟩ := hq_g h
      obtain ⟨v19, S18, g16, h⟩ := hq_bd2 h
      refine hq_calli hI (va_runV (As := [.int v4, .int x13]) (rest := []) ⟨hx, hb, hml, hown, hts⟩ (c_X12_ofMan l D kA ρ HB S14 a0 v4 x13 _ g16) (cwV 2 hts (gdIn (List.forall_mem_cons.mpr ⟨kw_1169, (List.forall_mem_cons.mpr ⟨kw_1171, (List.forall_mem_cons.mpr ⟨ks_56, (List.forall_mem_cons.mpr ⟨kw_6, (fun _ h => absurd h List.not_mem_nil)⟩)⟩)⟩)⟩) kw_1172) rfl rfl rfl ye_X12_ofMan ⟨Nat.le_of_ble_eq_true rfl, Nat.le_of_ble_eq_true rfl⟩) (hq_preC hE hI g17 rfl _) rfl rfl hl.1 rfl (lv_room (Nat.le_of_ble_eq_true rfl)) dX12_aloneOf_118 ⟨Nat.le_of_ble_eq_true rfl, Nat.le_of_ble_eq_true rfl⟩) (fun H locs hI => ?_)
      obtain ⟨v22, S21, g20, h⟩ := hq_bd2 h
      refine hq_calli hI (va_runS (As := [.int v19]) (rest := []) ⟨hx, hb, hml, hown, hts⟩ (c_X12_count1 l D kA ρ HB S18 v19 _ g20) (va_cwS 1 hts (gdIn (List.forall_mem_cons.mpr ⟨kw_1173, (List.forall_mem_cons.mpr ⟨kw_1174, (List.forall_mem_cons.mpr ⟨kw_6, (fun _ h => absurd h List.not_mem_nil)⟩)⟩)⟩) kw_1175) rfl rfl rfl yd_X12_count1 ⟨Nat.le_of_ble_eq_true rfl, Nat.le_of_ble_eq_true rfl⟩) (hq_preS hE hI _) rfl rfl hl.1 rfl (lv_room (Nat.le_of_ble_eq_true rfl)) dX12_aloneOf_121 ⟨Nat.le_of_ble_eq_true rfl, Nat.le_of_ble_eq_true rfl⟩) (fun H locs hI => ?_)
      refine lv_bipush (v := 9) hx hb dX12_aloneOf_124 (by decide) ?_
      refine lv_icmp_le (tgt := 133) hx hb dX12_aloneOf_126 (by decide) (fun c23 => ?_) (fun c23 => ?_)
      · have h := hq_t h c23
        refine lv_aload_n hx hb dX12_aloneOf_133 rfl (lv_at hl 0 rfl) ?_
        refine lv_aload_n hx hb dX12_aloneOf_134 rfl (lv_at hl 0 rfl) ?_
        refine lv_iload hx hb dX12_aloneOf_135 (lv_at hl 4 rfl) ?_
        refine lv_iload hx hb dX12_aloneOf_137 (lv_at hl 5 rfl) ?_
        obtain ⟨g25, h⟩ := hq_g h
        obtain ⟨v27, S26, g24, h⟩ := hq_bd2 h
        refine hq_calli hI (va_runV (As := [.int v4, .int x13]) (rest := [.ref a0]) ⟨hx, hb, hml, hown, hts⟩ (c_X12_ofMan l D kA ρ HB S21 a0 v4 x13 _ g24) (cwV 2 hts (gdIn (List.forall_mem_cons.mpr ⟨kw_1169, (List.forall_mem_cons.mpr ⟨kw_1171, (List.forall_mem_cons.mpr ⟨ks_56, (List.forall_mem_cons.mpr ⟨kw_6, (fun _ h => absurd h List.not_mem_nil)⟩)⟩)⟩)⟩) kw_1172) rfl rfl rfl ye_X12_ofMan ⟨Nat.le_of_ble_eq_true rfl, Nat.le_of_ble_eq_true rfl⟩) (hq_preC hE hI g25 rfl _) rfl rfl hl.1 rfl (lv_room (Nat.le_of_ble_eq_true rfl)) dX12_aloneOf_139 ⟨Nat.le_of_ble_eq_true rfl, Nat.le_of_ble_eq_true rfl⟩) (fun H locs hI => ?_)
        refine lv_aload_n hx hb dX12_aloneOf_142 rfl (lv_at hl 0 rfl) ?_
        obtain ⟨b28, g29, h⟩ := hq_bind h
        obtain ⟨fs_g29, hs_g29, hv_g29⟩ := gR_at g29
        refine hq_get hx hb hts hown hE hI hs_g29 inG12 rfl 1 (by decide) kw_945 hv_g29 dX12_aloneOf_143 ?_
        refine lv_sipush (v := 310) hx hb dX12_aloneOf_146 (by decide) ?_
        refine lv_iload_n hx hb dX12_aloneOf_149 rfl (lv_at hl 1 rfl) ?_
        refine lv_iadd hx hb dX12_aloneOf_150 ?_
        obtain ⟨v31, g30, h⟩ := hq_bind h
        refine hq_iald hx hb hE hI g30 dX12_aloneOf_151 ?_
        obtain ⟨g33, h⟩ := hq_g h
        obtain ⟨S34, g32, h⟩ := hq_bind h
        refine hq_callv hI (va_runV (As := [.int v27, .int v31]) (rest := []) ⟨hx, hb, hml, hown, hts⟩ (c_X12_counts l D kA ρ HB S26 a0 v27 v31 _ g32) (cwV 2 hts (gdIn (List.forall_mem_cons.mpr ⟨kw_1199, (List.forall_mem_cons.mpr ⟨kw_1201, (List.forall_mem_cons.mpr ⟨ks_59, (List.forall_mem_cons.mpr ⟨kw_6, (fun _ h => absurd h List.not_mem_nil)⟩)⟩)⟩)⟩) kw_1202) rfl rfl rfl ye_X12_counts ⟨Nat.le_of_ble_eq_true rfl, Nat.le_of_ble_eq_true rfl⟩) (hq_preC hE hI g33 rfl _) rfl rfl hl.1 rfl (lv_room (Nat.le_of_ble_eq_true rfl)) dX12_aloneOf_152 ⟨Nat.le_of_ble_eq_true rfl, Nat.le_of_ble_eq_true rfl⟩) (fun H locs hI => ?_)
        refine lv_aload_n hx hb dX12_aloneOf_155 rfl (lv_at hl 0 rfl) ?_
        refine lv_iload_n hx hb dX12_aloneOf_156 rfl (lv_at hl 2 rfl) ?_
        obtain ⟨g36, h⟩ := hq_g h
        obtain ⟨v38, S37, g35, h⟩ := hq_bd2 h
        refine hq_calll hI (va_runV (As := [.int a2]) (rest := []) ⟨hx, hb, hml, hown, hts⟩ (c_X12_orMore l D kA ρ HB S34 a0 a2 _ g35) (cwV 1 hts (gdIn (List.forall_mem_cons.mpr ⟨kw_1203, (List.forall_mem_cons.mpr ⟨kw_1205, (List.forall_mem_cons.mpr ⟨ks_60, (List.forall_mem_cons.mpr ⟨kw_6, (fun _ h => absurd h List.not_mem_nil)⟩)⟩)⟩)⟩) kw_1206) rfl rfl rfl ye_X12_orMore ⟨Nat.le_of_ble_eq_true rfl, Nat.le_of_ble_eq_true rfl⟩) (hq_preC hE hI g36 rfl _) rfl rfl hl.1 rfl (lv_room (Nat.le_of_ble_eq_true rfl)) dX12_aloneOf_157 ⟨Nat.le_of_ble_eq_true rfl, Nat.le_of_ble_eq_true rfl⟩) (fun H locs hI => ?_)
        refine lv_aload_n hx hb dX12_aloneOf_160 rfl (lv_at hl 0 rfl) ?_
        obtain ⟨v39, g40, h⟩ := hq_bind h
        obtain ⟨fs_g40, hs_g40, hv_g40⟩ := gL_at g40
        refine hq_get hx hb hts hown hE hI hs_g40 inG12 rfl 14 (by decide) kw_958 hv_g40 dX12_aloneOf_161 ?_
        refine lv_iload_n hx hb dX12_aloneOf_164 rfl (lv_at hl 3 rfl) ?_
        obtain ⟨v43, S42, g41, h⟩ := hq_bd2 h
        refine hq_calll hI (va_runS (As := [.long v38, .long v39, .int a3]) (rest := []) ⟨hx, hb, hml, hown, hts⟩ (c_X12_lowest l D kA ρ HB S37 v38 v39 a3 _ g41) (va_cwS 3 hts (gdIn (List.forall_mem_cons.mpr ⟨kw_1185, (List.forall_mem_cons.mpr ⟨kw_1186, (List.forall_mem_cons.mpr ⟨kw_6, (fun _ h => absurd h List.not_mem_nil)⟩)⟩)⟩) kw_1187) rfl rfl rfl yd_X12_lowest ⟨Nat.le_of_ble_eq_true rfl, Nat.le_of_ble_eq_true rfl⟩) (hq_preS hE hI _) rfl rfl hl.1 rfl (lv_room (Nat.le_of_ble_eq_true rfl)) dX12_aloneOf_165 ⟨Nat.le_of_ble_eq_true rfl, Nat.le_of_ble_eq_true rfl⟩) (fun H locs hI => ?_)
        exact hq_lret hx hb hr hlocks h0 hI h dX12_aloneOf_168
      · have h := hq_f h c23
        refine lv_ldc2 (v := (-9223372036854775808)) hx hb hown (hts _ kw_1180) dX12_aloneOf_129 ?_
        exact hq_lret hx hb hr hlocks h0 hI h dX12_aloneOf_132
  have hL31 : ∀ (n31 : Nat) (x44 : Int32) (x45 : Int32) (S46 : HSt) (H : Heap) (locs : List Loc) (ls : Array Slot), (f_X12_aloneOf_L31 a0 v12 v4 (f_X12_aloneOf_K107 a0 a1 a2 a3 v4) n31) x44 x45 S46 = some res → hqX D kA HB S.2 S46 H locs → lv_has ls 9 [(0, .ref a0), (1, .int a1), (2, .int a2), (3, .int a3), (4, .int v4), (5, .int v12), (6, .int x44), (7, .int x45)] → W p l e rm_X12_aloneOf s m ([.ref a0, .int a1, .int a2, .int a3] : List Value).toArray below meth c H locs 0 0 (MQ below (hQl D kA HB S res) ([.ref a0, .int a1, .int a2, .int a3] : List Value).toArray s 0 0 (hFree HB)) (F0 m 31 ls []) := by
    intro n31
    induction n31 with
    | zero =>
      intro x44 x45 S46 H locs ls h
      have h : (none : Option (Int64 × HSt)) = some res := h
      cases h
    | succ n31 ih31 =>
      intro x44 x45 S46 H locs ls h hI hl
      have h : f_X12_aloneOf_B31 a0 v12 v4 (f_X12_aloneOf_K107 a0 a1 a2 a3 v4) (f_X12_aloneOf_L31 a0 v12 v4 (f_X12_aloneOf_K107 a0 a1 a2 a3 v4) n31) x44 x45 S46 = some res := h
      unfold f_X12_aloneOf_B31 at h
      refine lv_iload hx hb dX12_aloneOf_31 (lv_at hl 7 rfl) ?_
      refine lv_bipush (v := 6) hx hb dX12_aloneOf_33 (by decide) ?_
      refine lv_icmp_ge (tgt := 107) hx hb dX12_aloneOf_35 (by decide) (fun c47 => ?_) (fun c47 => ?_)
      · have h := hq_t h c47
        exact hK107 x44 S46 _ _ _ h hI (lv_sub hl [0, 1, 2, 3, 4, 6] rfl)
      · have h := hq_f h c47
        refine lv_aload_n hx hb dX12_aloneOf_38 rfl (lv_at hl 0 rfl) ?_
        refine lv_iload hx hb dX12_aloneOf_39 (lv_at hl 4 rfl) ?_
        refine lv_iload hx hb dX12_aloneOf_41 (lv_at hl 7 rfl) ?_
        obtain ⟨g49, h⟩ := hq_g h
        obtain ⟨v51, S50, g48, h⟩ := hq_bd2 h
        refine hq_calli hI (va_runV (As := [.int v4, .int x45]) (rest := []) ⟨hx, hb, hml, hown, hts⟩ (c_X12_ofMan l D kA ρ HB S46 a0 v4 x45 _ g48) (cwV 2 hts (gdIn (List.forall_mem_cons.mpr ⟨kw_1169, (List.forall_mem_cons.mpr ⟨kw_1171, (List.forall_mem_cons.mpr ⟨ks_56, (List.forall_mem_cons.mpr ⟨kw_6, (fun _ h => absurd h List.not_mem_nil)⟩)⟩)⟩)⟩) kw_1172) rfl rfl rfl ye_X12_ofMan ⟨Nat.le_of_ble_eq_true rfl, Nat.le_of_ble_eq_true rfl⟩) (hq_preC hE hI g49 rfl _) rfl rfl hl.1 rfl (lv_room (Nat.le_of_ble_eq_true rfl)) dX12_aloneOf_43 ⟨Nat.le_of_ble_eq_true rfl, Nat.le_of_ble_eq_true rfl⟩) (fun H locs hI => ?_)
        have hJ85 : ∀ (y52 : Int32) (S53 : HSt) (H : Heap) (locs : List Loc) (ls : Array Slot), (f_X12_aloneOf_J85 (f_X12_aloneOf_L31 a0 v12 v4 (f_X12_aloneOf_K107 a0 a1 a2 a3 v4) n31) x44 x45) y52 S53 = some res → hqX D kA HB S.2 S53 H locs → lv_has ls 9 [(0, .ref a0), (1, .int a1), (2, .int a2), (3, .int a3), (4, .int v4), (5, .int v12), (6, .int x44), (7, .int x45)] → W p l e rm_X12_aloneOf s m ([.ref a0, .int a1, .int a2, .int a3] : List Value).toArray below meth c H locs 0 0 (MQ below (hQl D kA HB S res) ([.ref a0, .int a1, .int a2, .int a3] : List Value).toArray s 0 0 (hFree HB)) (F0 m 85 ls [.int y52]) := by
          intro y52 S53 H locs ls h hI hl
          unfold f_X12_aloneOf_J85 at h
          refine lv_istore (lv' := [(8, .int y52), (0, .ref a0), (1, .int a1), (2, .int a2), (3, .int a3), (4, .int v4), (5, .int v12), (6, .int x44), (7, .int x45)]) hx hb dX12_aloneOf_85 hl (by decide) rfl (fun ls hl => ?_)
          refine lv_iload hx hb dX12_aloneOf_87 (lv_at hl 0 rfl) ?_
          refine lv_if_eq (tgt := 97) hx hb dX12_aloneOf_89 (by decide) (fun c54 => ?_) (fun c54 => ?_)
          · have h := hq_t h c54
            refine lv_iload hx hb dX12_aloneOf_97 (lv_at hl 7 rfl) ?_
            refine lv_istore (lv' := [(6, .int x44), (8, .int y52), (0, .ref a0), (1, .int a1), (2, .int a2), (3, .int a3), (4, .int v4), (5, .int v12), (7, .int x45)]) hx hb dX12_aloneOf_99 hl (by decide) rfl (fun ls hl => ?_)
            refine lv_iinc (v := (x45 + 1)) (lv' := [(7, .int (x45 + 1)), (6, .int x44), (8, .int y52), (0, .ref a0), (1, .int a1), (2, .int a2), (3, .int a3), (4, .int v4), (5, .int v12)]) hx hb dX12_aloneOf_101 hl (k := 8) rfl rfl (by decide) rfl (fun ls hl => ?_)
            refine lv_goto (tgt := 31) hx hb dX12_aloneOf_104 (by decide) ?_
            exact ih31 x44 (x45 + 1) S53 _ _ _ h hI (lv_sub hl [3, 4, 5, 6, 7, 8, 1, 0] rfl)
          · have h := hq_f h c54
            refine lv_iload hx hb dX12_aloneOf_92 (lv_at hl 8 rfl) ?_
            refine lv_goto (tgt := 99) hx hb dX12_aloneOf_94 (by decide) ?_
            refine lv_istore (lv' := [(6, .int x45), (8, .int y52), (0, .ref a0), (1, .int a1), (2, .int a2), (3, .int a3), (4, .int v4), (5, .int v12), (7, .int x45)]) hx hb dX12_aloneOf_99 hl (by decide) rfl (fun ls hl => ?_)
            refine lv_iinc (v := (x45 + 1)) (lv' := [(7, .int (x45 + 1)), (6, .int x45), (8, .int y52), (0, .ref a0), (1, .int a1), (2, .int a2), (3, .int a3), (4, .int v4), (5, .int v12)]) hx hb dX12_aloneOf_101 hl (k := 8) rfl rfl (by decide) rfl (fun ls hl => ?_)
            refine lv_goto (tgt := 31) hx hb dX12_aloneOf_104 (by decide) ?_
            exact ih31 x45 (x45 + 1) S53 _ _ _ h hI (lv_sub hl [3, 4, 5, 6, 7, 8, 1, 0] rfl)
        refine lv_if_eq (tgt := 84) hx hb dX12_aloneOf_46 (by decide) (fun c55 => ?_) (fun c55 => ?_)
        · have h := hq_t h c55
          refine lv_iconst (v := 0) hx hb dX12_aloneOf_84 (by decide) ?_
          exact hJ85 0 S50 _ _ _ h hI (lv_sub hl [0, 1, 2, 3, 4, 5, 6, 7] rfl)
        · have h := hq_f h c55
          refine lv_iload hx hb dX12_aloneOf_49 (lv_at hl 6 rfl) ?_
          refine lv_iconst (v := (-1)) hx hb dX12_aloneOf_51 (by decide) ?_
          refine lv_icmp_eq (tgt := 80) hx hb dX12_aloneOf_52 (by decide) (fun c56 => ?_) (fun c56 => ?_)
          · have h := hq_t h c56
            refine lv_iconst (v := 1) hx hb dX12_aloneOf_80 (by decide) ?_
            refine lv_goto (tgt := 85) hx hb dX12_aloneOf_81 (by decide) ?_
            exact hJ85 1 S50 _ _ _ h hI (lv_sub hl [0, 1, 2, 3, 4, 5, 6, 7] rfl)
          · have h := hq_f h c56
            refine lv_aload_n hx hb dX12_aloneOf_55 rfl (lv_at hl 0 rfl) ?_
            refine lv_iload hx hb dX12_aloneOf_56 (lv_at hl 5 rfl) ?_
            refine lv_iload hx hb dX12_aloneOf_58 (lv_at hl 7 rfl) ?_
            obtain ⟨g58, h⟩ := hq_g h
            obtain ⟨v60, S59, g57, h⟩ := hq_bd2 h
            refine hq_calli hI (va_runV (As := [.int v12, .int x45]) (rest := []) ⟨hx, hb, hml, hown, hts⟩ (c_X12_ofMan l D kA ρ HB S50 a0 v12 x45 _ g57) (cwV 2 hts (gdIn (List.forall_mem_cons.mpr ⟨kw_1169, (List.forall_mem_cons.mpr ⟨kw_1171, (List.forall_mem_cons.mpr ⟨ks_56, (List.forall_mem_cons.mpr ⟨kw_6, (fun _ h => absurd h List.not_mem_nil)⟩)⟩)⟩)⟩) kw_1172) rfl rfl rfl ye_X12_ofMan ⟨Nat.le_of_ble_eq_true rfl, Nat.le_of_ble_eq_true rfl⟩) (hq_preC hE hI g58 rfl _) rfl rfl hl.1 rfl (lv_room (Nat.le_of_ble_eq_true rfl)) dX12_aloneOf_60 ⟨Nat.le_of_ble_eq_true rfl, Nat.le_of_ble_eq_true rfl⟩) (fun H locs hI => ?_)
            obtain ⟨v63, S62, g61, h⟩ := hq_bd2 h
            refine hq_calli hI (va_runS (As := [.int v60]) (rest := []) ⟨hx, hb, hml, hown, hts⟩ (c_X12_count1 l D kA ρ HB S59 v60 _ g61) (va_cwS 1 hts (gdIn (List.forall_mem_cons.mpr ⟨kw_1173, (List.forall_mem_cons.mpr ⟨kw_1174, (List.forall_mem_cons.mpr ⟨kw_6, (fun _ h => absurd h List.not_mem_nil)⟩)⟩)⟩) kw_1175) rfl rfl rfl yd_X12_count1 ⟨Nat.le_of_ble_eq_true rfl, Nat.le_of_ble_eq_true rfl⟩) (hq_preS hE hI _) rfl rfl hl.1 rfl (lv_room (Nat.le_of_ble_eq_true rfl)) dX12_aloneOf_63 ⟨Nat.le_of_ble_eq_true rfl, Nat.le_of_ble_eq_true rfl⟩) (fun H locs hI => ?_)
            refine lv_aload_n hx hb dX12_aloneOf_66 rfl (lv_at hl 0 rfl) ?_
            refine lv_iload hx hb dX12_aloneOf_67 (lv_at hl 5 rfl) ?_
            refine lv_iload hx hb dX12_aloneOf_69 (lv_at hl 6 rfl) ?_
            obtain ⟨g65, h⟩ := hq_g h
            obtain ⟨v67, S66, g64, h⟩ := hq_bd2 h
            refine hq_calli hI (va_runV (As := [.int v12, .int x44]) (rest := [.int v63]) ⟨hx, hb, hml, hown, hts⟩ (c_X12_ofMan l D kA ρ HB S62 a0 v12 x44 _ g64) (cwV 2 hts (gdIn (List.forall_mem_cons.mpr ⟨kw_1169, (List.forall_mem_cons.mpr ⟨kw_1171, (List.forall_mem_cons.mpr ⟨ks_56, (List.forall_mem_cons.mpr ⟨kw_6, (fun _ h => absurd h List.not_mem_nil)⟩)⟩)⟩)⟩) kw_1172) rfl rfl rfl ye_X12_ofMan ⟨Nat.le_of_ble_eq_true rfl, Nat.le_of_ble_eq_true rfl⟩) (hq_preC hE hI g65 rfl _) rfl rfl hl.1 rfl (lv_room (Nat.le_of_ble_eq_true rfl)) dX12_aloneOf_71 ⟨Nat.le_of_ble_eq_true rfl, Nat.le_of_ble_eq_true rfl⟩) (fun H locs hI => ?_)
            obtain ⟨v70, S69, g68, h⟩ := hq_bd2 h
            refine hq_calli hI (va_runS (As := [.int v67]) (rest := [.int v63]) ⟨hx, hb, hml, hown, hts⟩ (c_X12_count1 l D kA ρ HB S66 v67 _ g68) (va_cwS 1 hts (gdIn (List.forall_mem_cons.mpr ⟨kw_1173, (List.forall_mem_cons.mpr ⟨kw_1174, (List.forall_mem_cons.mpr ⟨kw_6, (fun _ h => absurd h List.not_mem_nil)⟩)⟩)⟩) kw_1175) rfl rfl rfl yd_X12_count1 ⟨Nat.le_of_ble_eq_true rfl, Nat.le_of_ble_eq_true rfl⟩) (hq_preS hE hI _) rfl rfl hl.1 rfl (lv_room (Nat.le_of_ble_eq_true rfl)) dX12_aloneOf_74 ⟨Nat.le_of_ble_eq_true rfl, Nat.le_of_ble_eq_true rfl⟩) (fun H locs hI => ?_)
            refine lv_icmp_le (tgt := 84) hx hb dX12_aloneOf_77 (by decide) (fun c71 => ?_) (fun c71 => ?_)
            · have h := hq_t h c71
              refine lv_iconst (v := 0) hx hb dX12_aloneOf_84 (by decide) ?_
              exact hJ85 0 S69 _ _ _ h hI (lv_sub hl [0, 1, 2, 3, 4, 5, 6, 7] rfl)
            · have h := hq_f h c71
              refine lv_iconst (v := 1) hx hb dX12_aloneOf_80 (by decide) ?_
              refine lv_goto (tgt := 85) hx hb dX12_aloneOf_81 (by decide) ?_
              exact hJ85 1 S69 _ _ _ h hI (lv_sub hl [0, 1, 2, 3, 4, 5, 6, 7] rfl)
  exact hL31 FU (-1) 0 S11 _ _ _ h hI (lv_sub hl [4, 5, 6, 7, 3, 2, 1, 0] rfl)
-- RodDipsModel.best(IIII)J
theorem dX12_best_0 : decode cX12_best 0 = .ok (.aload_n 0, 1) := by decide +kernel
theorem dX12_best_1 : decode cX12_best 1 = .ok (.iload_n 1, 1) := by decide +kernel
theorem dX12_best_2 : decode cX12_best 2 = .ok (.invokevirtual 177, 3) := by decide +kernel
theorem dX12_best_5 : decode cX12_best 5 = .ok (.ifCond .eq 32, 3) := by decide +kernel
theorem dX12_best_8 : decode cX12_best 8 = .ok (.iload_n 2, 1) := by decide +kernel
theorem dX12_best_9 : decode cX12_best 9 = .ok (.iconst 0, 1) := by decide +kernel
theorem dX12_best_10 : decode cX12_best 10 = .ok (.bipush 9, 2) := by decide +kernel
theorem dX12_best_12 : decode cX12_best 12 = .ok (.invokestatic 39, 3) := by decide +kernel
theorem dX12_best_15 : decode cX12_best 15 = .ok (.ifCond .eq 22, 3) := by decide +kernel
theorem dX12_best_18 : decode cX12_best 18 = .ok (.iload_n 3, 1) := by decide +kernel
theorem dX12_best_19 : decode cX12_best 19 = .ok (.iconst 0, 1) := by decide +kernel
theorem dX12_best_20 : decode cX12_best 20 = .ok (.iconst 1, 1) := by decide +kernel
theorem dX12_best_21 : decode cX12_best 21 = .ok (.invokestatic 39, 3) := by decide +kernel
theorem dX12_best_24 : decode cX12_best 24 = .ok (.ifCond .eq 13, 3) := by decide +kernel
theorem dX12_best_27 : decode cX12_best 27 = .ok (.iload 4, 2) := by decide +kernel
theorem dX12_best_29 : decode cX12_best 29 = .ok (.iconst 0, 1) := by decide +kernel
theorem dX12_best_30 : decode cX12_best 30 = .ok (.iconst 1, 1) := by decide +kernel
theorem dX12_best_31 : decode cX12_best 31 = .ok (.invokestatic 39, 3) := by decide +kernel
theorem dX12_best_34 : decode cX12_best 34 = .ok (.ifCond .ne 7, 3) := by decide +kernel
theorem dX12_best_37 : decode cX12_best 37 = .ok (.ldc2_w 200, 3) := by decide +kernel
theorem dX12_best_40 : decode cX12_best 40 = .ok (.lreturn, 1) := by decide +kernel
theorem dX12_best_41 : decode cX12_best 41 = .ok (.iload_n 3, 1) := by decide +kernel
theorem dX12_best_42 : decode cX12_best 42 = .ok (.ifCond .ne 14, 3) := by decide +kernel
theorem dX12_best_45 : decode cX12_best 45 = .ok (.aload_n 0, 1) := by decide +kernel
theorem dX12_best_46 : decode cX12_best 46 = .ok (.iload_n 1, 1) := by decide +kernel
theorem dX12_best_47 : decode cX12_best 47 = .ok (.iload_n 2, 1) := by decide +kernel
theorem dX12_best_48 : decode cX12_best 48 = .ok (.iload 4, 2) := by decide +kernel
theorem dX12_best_50 : decode cX12_best 50 = .ok (.invokevirtual 223, 3) := by decide +kernel
theorem dX12_best_53 : decode cX12_best 53 = .ok (.goto 11, 3) := by decide +kernel
theorem dX12_best_56 : decode cX12_best 56 = .ok (.aload_n 0, 1) := by decide +kernel
theorem dX12_best_57 : decode cX12_best 57 = .ok (.iload_n 1, 1) := by decide +kernel
theorem dX12_best_58 : decode cX12_best 58 = .ok (.iload_n 2, 1) := by decide +kernel
theorem dX12_best_59 : decode cX12_best 59 = .ok (.iload 4, 2) := by decide +kernel
theorem dX12_best_61 : decode cX12_best 61 = .ok (.invokevirtual 227, 3) := by decide +kernel
theorem dX12_best_64 : decode cX12_best 64 = .ok (.lreturn, 1) := by decide +kernel
def f_X12_best (S : HSt) (a0 : Nat) (a1 : Int32) (a2 : Int32) (a3 : Int32) (a4 : Int32) : Option (Int64 × HSt) := if gC S a0 = some 12 then (bd2 (f_X12_isPlan S a0 a1) fun v4 S3 => if v4 = 0 then (some ((-9223372036854775808), S3)) else (bd2 (f_X12_in S3 a2 0 9) fun v8 S7 => if v8 = 0 then (some ((-9223372036854775808), S7)) else (bd2 (f_X12_in S7 a3 0 1) fun v12 S11 => if v12 = 0 then (some ((-9223372036854775808), S11)) else (bd2 (f_X12_in S11 a4 0 1) fun v16 S15 => if v16 = 0 then (some ((-9223372036854775808), S15)) else (if a3 = 0 then (if gC S15 a0 = some 12 then (bd2 (f_X12_bestOfMen S15 a0 a1 a2 a4) fun v26 S25 => some (v26, S25)) else none) else (if gC S15 a0 = some 12 then (bd2 (f_X12_aloneOf S15 a0 a1 a2 a4) fun v22 S21 => some (v22, S21)) else none)))))) else none
abbrev rm_X12_best : Room := { frames := 7, cells := 0, slots := 0, locals := 166 }
abbrev w_X12_best : List Cond := Cond.code yX12_best cX12_best 5 (Option.some FieldType.long) :: lwG
theorem yd_X12_best : yX12_best.cls ≠ "java/lang/invoke/MethodHandle" ∧ yX12_best.cls ≠ "java/lang/invoke/VarHandle" ∧ (parseMethodDescriptor yX12_best.desc).map (fun d => d.parameters.length) = some 4 := by decide +kernel
theorem ye_X12_best : yX12_best.cls = RX12 ∧ yX12_best.cls ≠ "java/lang/invoke/MethodHandle" ∧ yX12_best.cls ≠ "java/lang/invoke/VarHandle" ∧ (parseMethodDescriptor yX12_best.desc).map (fun d => d.parameters.length) = some 4 := by decide +kernel
set_option maxHeartbeats 4000000 in
set_option maxRecDepth 100000 in
theorem c_X12_best (l : Launch) (D : va_G) (kA ρ : Nat → Nat) (HB : Heap) (S : HSt) (a0 : Nat) (a1 : Int32) (a2 : Int32) (a3 : Int32) (a4 : Int32) (res : Int64 × HSt) (h : f_X12_best S a0 a1 a2 a3 a4 = some res) : Met l yX12_best w_X12_best rm_X12_best (hPc D kA ρ HB S [.ref a0, .int a1, .int a2, .int a3, .int a4]) (hQl D kA HB S res) 0 0 (hFree HB) := by
  refine Met.ofW (cc := cX12_best) (maxL := 5) (ret := (Option.some FieldType.long)) (by decide) rfl ?_
  intro p e s m args below meth c s₁ B hml hv
  obtain ⟨rfl, hE, h0⟩ := hv
  have hx := B.exec
  have hb := B.bytes
  have hr := B.returns
  have hts0 := atoms_spec (ws := w_X12_best) B.pre
  have hts : ∀ w ∈ lwG, w.before _ s = true := fun w hw => hts0 w (List.mem_cons_of_mem _ hw)
  have hown : s.vm.findClass RX12 = some m.cls := findClass_of_methodNamed B.named
  have hlocks := B.notSynchronized
  have hI : hqX D kA HB S.2 S s.heap [] := ⟨h0, Nat.le_refl _, fun _ q => absurd q List.not_mem_nil⟩
  have hl := lv_entry ([.ref a0, .int a1, .int a2, .int a3, .int a4]) (n := 5) (Nat.le_of_ble_eq_true rfl)
  rw [lg_entry_eq]
  generalize (lg_sl ([.ref a0, .int a1, .int a2, .int a3, .int a4]) ++ List.replicate (5 - (lg_sl ([.ref a0, .int a1, .int a2, .int a3, .int a4])).length) Slot.unset).toArray = ls at hl ⊢
  have hl : lv_has ls 5 [(0, .ref a0), (1, .int a1), (2, .int a2), (3, .int a3), (4, .int a4)] := hl
  unfold f_X12_best at h
  refine lv_aload_n hx hb dX12_best_0 rfl (lv_at hl 0 rfl) ?_
  refine lv_iload_n hx hb dX12_best_1 rfl (lv_at hl 1 rfl) ?_
  obtain ⟨g2, h⟩ := hq_g h
  obtain ⟨v4, S3, g1, h⟩ := hq_bd2 h
  refine hq_calli hI (va_runV (As := [.int a1]) (rest := []) ⟨hx, hb, hml, hown, hts⟩ (c_X12_isPlan l D kA ρ HB S a0 a1 _ g1) (cwV 1 hts (gdIn (List.forall_mem_cons.mpr ⟨kw_1133, (List.forall_mem_cons.mpr ⟨kw_1135, (List.forall_mem_cons.mpr ⟨ks_48, (List.forall_mem_cons.mpr ⟨kw_6, (fun _ h => absurd h List.not_mem_nil)⟩)⟩)⟩)⟩) kw_1136) rfl rfl rfl ye_X12_isPlan ⟨Nat.le_of_ble_eq_true rfl, Nat.le_of_ble_eq_true rfl⟩) (hq_preC hE hI g2 rfl _) rfl rfl hl.1 rfl (lv_room (Nat.le_of_ble_eq_true rfl)) dX12_best_2 ⟨Nat.le_of_ble_eq_true rfl, Nat.le_of_ble_eq_true rfl⟩) (fun H locs hI => ?_)
  refine lv_if_eq (tgt := 37) hx hb dX12_best_5 (by decide) (fun c5 => ?_) (fun c5 => ?_)
  · have h := hq_t h c5
    refine lv_ldc2 (v := (-9223372036854775808)) hx hb hown (hts _ kw_1180) dX12_best_37 ?_
    exact hq_lret hx hb hr hlocks h0 hI h dX12_best_40
  · have h := hq_f h c5
    refine lv_iload_n hx hb dX12_best_8 rfl (lv_at hl 2 rfl) ?_
    refine lv_iconst (v := 0) hx hb dX12_best_9 (by decide) ?_
    refine lv_bipush (v := 9) hx hb dX12_best_10 (by decide) ?_
    obtain ⟨v8, S7, g6, h⟩ := hq_bd2 h
    refine hq_calli hI (va_runS (As := [.int a2, .int 0, .int 9]) (rest := []) ⟨hx, hb, hml, hown, hts⟩ (c_X12_in l D kA ρ HB S3 a2 0 9 _ g6) (va_cwS 3 hts (gdIn (List.forall_mem_cons.mpr ⟨kw_1010, (List.forall_mem_cons.mpr ⟨kw_1011, (List.forall_mem_cons.mpr ⟨kw_6, (fun _ h => absurd h List.not_mem_nil)⟩)⟩)⟩) kw_1012) rfl rfl rfl yd_X12_in ⟨Nat.le_of_ble_eq_true rfl, Nat.le_of_ble_eq_true rfl⟩) (hq_preS hE hI _) rfl rfl hl.1 rfl (lv_room (Nat.le_of_ble_eq_true rfl)) dX12_best_12 ⟨Nat.le_of_ble_eq_true rfl, Nat.le_of_ble_eq_true rfl⟩) (fun H locs hI => ?_)
    refine lv_if_eq (tgt := 37) hx hb dX12_best_15 (by decide) (fun c9 => ?_) (fun c9 => ?_)
    · have h := hq_t h c9
      refine lv_ldc2 (v := (-9223372036854775808)) hx hb hown (hts _ kw_1180) dX12_best_37 ?_
      exact hq_lret hx hb hr hlocks h0 hI h dX12_best_40
    · have h := hq_f h c9
      refine lv_iload_n hx hb dX12_best_18 rfl (lv_at hl 3 rfl) ?_
      refine lv_iconst (v := 0) hx hb dX12_best_19 (by decide) ?_
      refine lv_iconst (v := 1) hx hb dX12_best_20 (by decide) ?_
      obtain ⟨v12, S11, g10, h⟩ := hq_bd2 h
      refine hq_calli hI (va_runS (As := [.int a3, .int 0, .int 1]) (rest := []) ⟨hx, hb, hml, hown, hts⟩ (c_X12_in l D kA ρ HB S7 a3 0 1 _ g10) (va_cwS 3 hts (gdIn (List.forall_mem_cons.mpr ⟨kw_1010, (List.forall_mem_cons.mpr ⟨kw_1011, (List.forall_mem_cons.mpr ⟨kw_6, (fun _ h => absurd h List.not_mem_nil)⟩)⟩)⟩) kw_1012) rfl rfl rfl yd_X12_in ⟨Nat.le_of_ble_eq_true rfl, Nat.le_of_ble_eq_true rfl⟩) (hq_preS hE hI _) rfl rfl hl.1 rfl (lv_room (Nat.le_of_ble_eq_true rfl)) dX12_best_21 ⟨Nat.le_of_ble_eq_true rfl, Nat.le_of_ble_eq_true rfl⟩) (fun H locs hI => ?_)
      refine lv_if_eq (tgt := 37) hx hb dX12_best_24 (by decide) (fun c13 => ?_) (fun c13 => ?_)
      · have h := hq_t h c13
        refine lv_ldc2 (v := (-9223372036854775808)) hx hb hown (hts _ kw_1180) dX12_best_37 ?_
        exact hq_lret hx hb hr hlocks h0 hI h dX12_best_40
      · have h := hq_f h c13
        refine lv_iload hx hb dX12_best_27 (lv_at hl 4 rfl) ?_
        refine lv_iconst (v := 0) hx hb dX12_best_29 (by decide) ?_
        refine lv_iconst (v := 1) hx hb dX12_best_30 (by decide) ?_
        obtain ⟨v16, S15, g14, h⟩ := hq_bd2 h
        refine hq_calli hI (va_runS (As := [.int a4, .int 0, .int 1]) (rest := []) ⟨hx, hb, hml, hown, hts⟩ (c_X12_in l D kA ρ HB S11 a4 0 1 _ g14) (va_cwS 3 hts (gdIn (List.forall_mem_cons.mpr ⟨kw_1010, (List.forall_mem_cons.mpr ⟨kw_1011, (List.forall_mem_cons.mpr ⟨kw_6, (fun _ h => absurd h List.not_mem_nil)⟩)⟩)⟩) kw_1012) rfl rfl rfl yd_X12_in ⟨Nat.le_of_ble_eq_true rfl, Nat.le_of_ble_eq_true rfl⟩) (hq_preS hE hI _) rfl rfl hl.1 rfl (lv_room (Nat.le_of_ble_eq_true rfl)) dX12_best_31 ⟨Nat.le_of_ble_eq_true rfl, Nat.le_of_ble_eq_true rfl⟩) (fun H locs hI => ?_)
        refine lv_if_ne (tgt := 41) hx hb dX12_best_34 (by decide) (fun c17 => ?_) (fun c17 => ?_)
        · have h := hq_f h c17
          refine lv_iload_n hx hb dX12_best_41 rfl (lv_at hl 3 rfl) ?_
          refine lv_if_ne (tgt := 56) hx hb dX12_best_42 (by decide) (fun c18 => ?_) (fun c18 => ?_)
          · have h := hq_f h c18
            refine lv_aload_n hx hb dX12_best_56 rfl (lv_at hl 0 rfl) ?_
            refine lv_iload_n hx hb dX12_best_57 rfl (lv_at hl 1 rfl) ?_
            refine lv_iload_n hx hb dX12_best_58 rfl (lv_at hl 2 rfl) ?_
            refine lv_iload hx hb dX12_best_59 (lv_at hl 4 rfl) ?_
            obtain ⟨g20, h⟩ := hq_g h
            obtain ⟨v22, S21, g19, h⟩ := hq_bd2 h
            refine hq_calll hI (va_runV (As := [.int a1, .int a2, .int a4]) (rest := []) ⟨hx, hb, hml, hown, hts⟩ (c_X12_aloneOf l D kA ρ HB S15 a0 a1 a2 a4 _ g19) (cwV 3 hts (gdIn (List.forall_mem_cons.mpr ⟨kw_1215, (List.forall_mem_cons.mpr ⟨kw_1217, (List.forall_mem_cons.mpr ⟨ks_62, (List.forall_mem_cons.mpr ⟨kw_6, (fun _ h => absurd h List.not_mem_nil)⟩)⟩)⟩)⟩) kw_1218) rfl rfl rfl ye_X12_aloneOf ⟨Nat.le_of_ble_eq_true rfl, Nat.le_of_ble_eq_true rfl⟩) (hq_preC hE hI g20 rfl _) rfl rfl hl.1 rfl (lv_room (Nat.le_of_ble_eq_true rfl)) dX12_best_61 ⟨Nat.le_of_ble_eq_true rfl, Nat.le_of_ble_eq_true rfl⟩) (fun H locs hI => ?_)
            exact hq_lret hx hb hr hlocks h0 hI h dX12_best_64
          · have h := hq_t h c18
            refine lv_aload_n hx hb dX12_best_45 rfl (lv_at hl 0 rfl) ?_
            refine lv_iload_n hx hb dX12_best_46 rfl (lv_at hl 1 rfl) ?_
            refine lv_iload_n hx hb dX12_best_47 rfl (lv_at hl 2 rfl) ?_
            refine lv_iload hx hb dX12_best_48 (lv_at hl 4 rfl) ?_
            obtain ⟨g24, h⟩ := hq_g h
            obtain ⟨v26, S25, g23, h⟩ := hq_bd2 h
            refine hq_calll hI (va_runV (As := [.int a1, .int a2, .int a4]) (rest := []) ⟨hx, hb, hml, hown, hts⟩ (c_X12_bestOfMen l D kA ρ HB S15 a0 a1 a2 a4 _ g23) (cwV 3 hts (gdIn (List.forall_mem_cons.mpr ⟨kw_1211, (List.forall_mem_cons.mpr ⟨kw_1213, (List.forall_mem_cons.mpr ⟨ks_61, (List.forall_mem_cons.mpr ⟨kw_6, (fun _ h => absurd h List.not_mem_nil)⟩)⟩)⟩)⟩) kw_1214) rfl rfl rfl ye_X12_bestOfMen ⟨Nat.le_of_ble_eq_true rfl, Nat.le_of_ble_eq_true rfl⟩) (hq_preC hE hI g24 rfl _) rfl rfl hl.1 rfl (lv_room (Nat.le_of_ble_eq_true rfl)) dX12_best_50 ⟨Nat.le_of_ble_eq_true rfl, Nat.le_of_ble_eq_true rfl⟩) (fun H locs hI => ?_)
            refine lv_goto (tgt := 64) hx hb dX12_best_53 (by decide) ?_
            exact hq_lret hx hb hr hlocks h0 hI h dX12_best_64
        · have h := hq_t h c17
          refine lv_ldc2 (v := (-9223372036854775808)) hx hb hown (hts _ kw_1180) dX12_best_37 ?_
          exact hq_lret hx hb hr hlocks h0 hI h dX12_best_40
-- RodDipsModel.sumFrom(II)I
theorem dX12_sumFrom_0 : decode cX12_sumFrom 0 = .ok (.iconst 0, 1) := by decide +kernel
theorem dX12_sumFrom_1 : decode cX12_sumFrom 1 = .ok (.istore_n 3, 1) := by decide +kernel
theorem dX12_sumFrom_2 : decode cX12_sumFrom 2 = .ok (.iconst 0, 1) := by decide +kernel
theorem dX12_sumFrom_3 : decode cX12_sumFrom 3 = .ok (.istore 4, 2) := by decide +kernel
theorem dX12_sumFrom_5 : decode cX12_sumFrom 5 = .ok (.iload 4, 2) := by decide +kernel
theorem dX12_sumFrom_7 : decode cX12_sumFrom 7 = .ok (.aload_n 0, 1) := by decide +kernel
theorem dX12_sumFrom_8 : decode cX12_sumFrom 8 = .ok (.getfield 9, 3) := by decide +kernel
theorem dX12_sumFrom_11 : decode cX12_sumFrom 11 = .ok (.iconst 1, 1) := by decide +kernel
theorem dX12_sumFrom_12 : decode cX12_sumFrom 12 = .ok (.iaload, 1) := by decide +kernel
theorem dX12_sumFrom_13 : decode cX12_sumFrom 13 = .ok (.if_icmp .ge 42, 3) := by decide +kernel
theorem dX12_sumFrom_16 : decode cX12_sumFrom 16 = .ok (.iload_n 3, 1) := by decide +kernel
theorem dX12_sumFrom_17 : decode cX12_sumFrom 17 = .ok (.iload_n 1, 1) := by decide +kernel
theorem dX12_sumFrom_18 : decode cX12_sumFrom 18 = .ok (.iload 4, 2) := by decide +kernel
theorem dX12_sumFrom_20 : decode cX12_sumFrom 20 = .ok (.ishr, 1) := by decide +kernel
theorem dX12_sumFrom_21 : decode cX12_sumFrom 21 = .ok (.iconst 1, 1) := by decide +kernel
theorem dX12_sumFrom_22 : decode cX12_sumFrom 22 = .ok (.iand, 1) := by decide +kernel
theorem dX12_sumFrom_23 : decode cX12_sumFrom 23 = .ok (.iconst 1, 1) := by decide +kernel
theorem dX12_sumFrom_24 : decode cX12_sumFrom 24 = .ok (.if_icmp .ne 22, 3) := by decide +kernel
theorem dX12_sumFrom_27 : decode cX12_sumFrom 27 = .ok (.aload_n 0, 1) := by decide +kernel
theorem dX12_sumFrom_28 : decode cX12_sumFrom 28 = .ok (.getfield 9, 3) := by decide +kernel
theorem dX12_sumFrom_31 : decode cX12_sumFrom 31 = .ok (.sipush 220, 3) := by decide +kernel
theorem dX12_sumFrom_34 : decode cX12_sumFrom 34 = .ok (.iload 4, 2) := by decide +kernel
theorem dX12_sumFrom_36 : decode cX12_sumFrom 36 = .ok (.iadd, 1) := by decide +kernel
theorem dX12_sumFrom_37 : decode cX12_sumFrom 37 = .ok (.iaload, 1) := by decide +kernel
theorem dX12_sumFrom_38 : decode cX12_sumFrom 38 = .ok (.iload_n 2, 1) := by decide +kernel
theorem dX12_sumFrom_39 : decode cX12_sumFrom 39 = .ok (.isub, 1) := by decide +kernel
theorem dX12_sumFrom_40 : decode cX12_sumFrom 40 = .ok (.invokestatic 53, 3) := by decide +kernel
theorem dX12_sumFrom_43 : decode cX12_sumFrom 43 = .ok (.goto 4, 3) := by decide +kernel
theorem dX12_sumFrom_46 : decode cX12_sumFrom 46 = .ok (.iconst 0, 1) := by decide +kernel
theorem dX12_sumFrom_47 : decode cX12_sumFrom 47 = .ok (.iadd, 1) := by decide +kernel
theorem dX12_sumFrom_48 : decode cX12_sumFrom 48 = .ok (.istore_n 3, 1) := by decide +kernel
theorem dX12_sumFrom_49 : decode cX12_sumFrom 49 = .ok (.iinc 4 1, 3) := by decide +kernel
theorem dX12_sumFrom_52 : decode cX12_sumFrom 52 = .ok (.goto (-47), 3) := by decide +kernel
theorem dX12_sumFrom_55 : decode cX12_sumFrom 55 = .ok (.iload_n 3, 1) := by decide +kernel
theorem dX12_sumFrom_56 : decode cX12_sumFrom 56 = .ok (.ireturn, 1) := by decide +kernel
def f_X12_sumFrom_K55 (x1 : Int32) (S2 : HSt) : Option (Int32 × HSt) := some (x1, S2)
def f_X12_sumFrom_B5 (a0 : Nat) (a1 : Int32) (a2 : Int32) (kx55 : (Int32 → HSt → Option (Int32 × HSt))) (kb5 : (Int32 → Int32 → HSt → Option (Int32 × HSt))) (x3 : Int32) (x4 : Int32) (S5 : HSt) : Option (Int32 × HSt) := (gR S5 a0 12 1).bind fun b6 => (aI S5 b6 0 1).bind fun v9 => if v9 ≤ x4 then (kx55 x3 S5) else (if ((a1 >>> (x4 &&& 31)) &&& 1) = 1 then ((gR S5 a0 12 1).bind fun b12 => (aI S5 b12 0 (220 + x4)).bind fun v15 => bd2 (f_X12_size S5 (v15 - a2)) fun v18 S17 => kb5 (x3 + v18) (x4 + 1) S17) else (kb5 (x3 + 0) (x4 + 1) S5))
def f_X12_sumFrom_L5 (a0 : Nat) (a1 : Int32) (a2 : Int32) (kx55 : (Int32 → HSt → Option (Int32 × HSt))) : Nat → Int32 → Int32 → HSt → Option (Int32 × HSt)
  | 0, _, _, _ => none
  | n + 1, x3, x4, S => f_X12_sumFrom_B5 a0 a1 a2 kx55 (f_X12_sumFrom_L5 a0 a1 a2 kx55 n) x3 x4 S
def f_X12_sumFrom (S : HSt) (a0 : Nat) (a1 : Int32) (a2 : Int32) : Option (Int32 × HSt) := (f_X12_sumFrom_L5 a0 a1 a2 f_X12_sumFrom_K55 FU) 0 0 S
abbrev rm_X12_sumFrom : Room := { frames := 1, cells := 0, slots := 0, locals := 20 }
abbrev w_X12_sumFrom : List Cond := Cond.code yX12_sumFrom cX12_sumFrom 5 (Option.some FieldType.int) :: lwG
theorem yd_X12_sumFrom : yX12_sumFrom.cls ≠ "java/lang/invoke/MethodHandle" ∧ yX12_sumFrom.cls ≠ "java/lang/invoke/VarHandle" ∧ (parseMethodDescriptor yX12_sumFrom.desc).map (fun d => d.parameters.length) = some 2 := by decide +kernel
theorem ye_X12_sumFrom : yX12_sumFrom.cls = RX12 ∧ yX12_sumFrom.cls ≠ "java/lang/invoke/MethodHandle" ∧ yX12_sumFrom.cls ≠ "java/lang/invoke/VarHandle" ∧ (parseMethodDescriptor yX12_sumFrom.desc).map (fun d => d.parameters.length) = some 2 := by decide +kernel
set_option maxHeartbeats 4000000 in
set_option maxRecDepth 100000 in
theorem c_X12_sumFrom (l : Launch) (D : va_G) (kA ρ : Nat → Nat) (HB : Heap) (S : HSt) (a0 : Nat) (a1 : Int32) (a2 : Int32) (res : Int32 × HSt) (h : f_X12_sumFrom S a0 a1 a2 = some res) : Met l yX12_sumFrom w_X12_sumFrom rm_X12_sumFrom (hPc D kA ρ HB S [.ref a0, .int a1, .int a2]) (hQi D kA HB S res) 0 0 (hFree HB) := by
  refine Met.ofW (cc := cX12_sumFrom) (maxL := 5) (ret := (Option.some FieldType.int)) (by decide) rfl ?_
  intro p e s m args below meth c s₁ B hml hv
  obtain ⟨rfl, hE, h0⟩ := hv
  have hx := B.exec
  have hb := B.bytes
  have hr := B.returns
  have hts0 := atoms_spec (ws := w_X12_sumFrom) B.pre
  have hts : ∀ w ∈ lwG, w.before _ s = true := fun w hw => hts0 w (List.mem_cons_of_mem _ hw)
  have hown : s.vm.findClass RX12 = some m.cls := findClass_of_methodNamed B.named
  have hlocks := B.notSynchronized
  have hI : hqX D kA HB S.2 S s.heap [] := ⟨h0, Nat.le_refl _, fun _ q => absurd q List.not_mem_nil⟩
  have hl := lv_entry ([.ref a0, .int a1, .int a2]) (n := 5) (Nat.le_of_ble_eq_true rfl)
  rw [lg_entry_eq]
  generalize (lg_sl ([.ref a0, .int a1, .int a2]) ++ List.replicate (5 - (lg_sl ([.ref a0, .int a1, .int a2])).length) Slot.unset).toArray = ls at hl ⊢
  have hl : lv_has ls 5 [(0, .ref a0), (1, .int a1), (2, .int a2)] := hl
  unfold f_X12_sumFrom at h
  refine lv_iconst (v := 0) hx hb dX12_sumFrom_0 (by decide) ?_
  refine lv_istore_n (lv' := [(3, .int 0), (0, .ref a0), (1, .int a1), (2, .int a2)]) hx hb dX12_sumFrom_1 rfl hl (by decide) rfl (fun ls hl => ?_)
  refine lv_iconst (v := 0) hx hb dX12_sumFrom_2 (by decide) ?_
  refine lv_istore (lv' := [(4, .int 0), (3, .int 0), (0, .ref a0), (1, .int a1), (2, .int a2)]) hx hb dX12_sumFrom_3 hl (by decide) rfl (fun ls hl => ?_)
  have hK55 : ∀ (x1 : Int32) (S2 : HSt) (H : Heap) (locs : List Loc) (ls : Array Slot), f_X12_sumFrom_K55 x1 S2 = some res → hqX D kA HB S.2 S2 H locs → lv_has ls 5 [(3, .int x1)] → W p l e rm_X12_sumFrom s m ([.ref a0, .int a1, .int a2] : List Value).toArray below meth c H locs 0 0 (MQ below (hQi D kA HB S res) ([.ref a0, .int a1, .int a2] : List Value).toArray s 0 0 (hFree HB)) (F0 m 55 ls []) := by
    intro x1 S2 H locs ls h hI hl
    unfold f_X12_sumFrom_K55 at h
    refine lv_iload_n hx hb dX12_sumFrom_55 rfl (lv_at hl 0 rfl) ?_
    exact hq_iret hx hb hr hlocks h0 hI h dX12_sumFrom_56
  have hL5 : ∀ (n5 : Nat) (x3 : Int32) (x4 : Int32) (S5 : HSt) (H : Heap) (locs : List Loc) (ls : Array Slot), (f_X12_sumFrom_L5 a0 a1 a2 f_X12_sumFrom_K55 n5) x3 x4 S5 = some res → hqX D kA HB S.2 S5 H locs → lv_has ls 5 [(0, .ref a0), (1, .int a1), (2, .int a2), (3, .int x3), (4, .int x4)] → W p l e rm_X12_sumFrom s m ([.ref a0, .int a1, .int a2] : List Value).toArray below meth c H locs 0 0 (MQ below (hQi D kA HB S res) ([.ref a0, .int a1, .int a2] : List Value).toArray s 0 0 (hFree HB)) (F0 m 5 ls []) := by
    intro n5
    induction n5 with
    | zero =>
      intro x3 x4 S5 H locs ls h
      have h : (none : Option (Int32 × HSt)) = some res := h
      cases h
    | succ n5 ih5 =>
      intro x3 x4 S5 H locs ls h hI hl
      have h : f_X12_sumFrom_B5 a0 a1 a2 f_X12_sumFrom_K55 (f_X12_sumFrom_L5 a0 a1 a2 f_X12_sumFrom_K55 n5) x3 x4 S5 = some res := h
      unfold f_X12_sumFrom_B5 at h
      refine lv_iload hx hb dX12_sumFrom_5 (lv_at hl 4 rfl) ?_
      refine lv_aload_n hx hb dX12_sumFrom_7 rfl (lv_at hl 0 rfl) ?_
      obtain ⟨b6, g7, h⟩ := hq_bind h
      obtain ⟨fs_g7, hs_g7, hv_g7⟩ := gR_at g7
      refine hq_get hx hb hts hown hE hI hs_g7 inG12 rfl 1 (by decide) kw_945 hv_g7 dX12_sumFrom_8 ?_
      refine lv_iconst (v := 1) hx hb dX12_sumFrom_11 (by decide) ?_
      obtain ⟨v9, g8, h⟩ := hq_bind h
      refine hq_iald hx hb hE hI g8 dX12_sumFrom_12 ?_
      refine lv_icmp_ge (tgt := 55) hx hb dX12_sumFrom_13 (by decide) (fun c10 => ?_) (fun c10 => ?_)
      · have h := hq_t h c10
        exact hK55 x3 S5 _ _ _ h hI (lv_sub hl [3] rfl)
      · have h := hq_f h c10
        refine lv_iload_n hx hb dX12_sumFrom_16 rfl (lv_at hl 3 rfl) ?_
        refine lv_iload_n hx hb dX12_sumFrom_17 rfl (lv_at hl 1 rfl) ?_
        refine lv_iload hx hb dX12_sumFrom_18 (lv_at hl 4 rfl) ?_
        refine lv_ishr hx hb dX12_sumFrom_20 ?_
        refine lv_iconst (v := 1) hx hb dX12_sumFrom_21 (by decide) ?_
        refine lv_iand hx hb dX12_sumFrom_22 ?_
        refine lv_iconst (v := 1) hx hb dX12_sumFrom_23 (by decide) ?_
        refine lv_icmp_ne (tgt := 46) hx hb dX12_sumFrom_24 (by decide) (fun c11 => ?_) (fun c11 => ?_)
        · have h := hq_f h c11
          refine lv_iconst (v := 0) hx hb dX12_sumFrom_46 (by decide) ?_
          refine lv_iadd hx hb dX12_sumFrom_47 ?_
          refine lv_istore_n (lv' := [(3, .int (x3 + 0)), (0, .ref a0), (1, .int a1), (2, .int a2), (4, .int x4)]) hx hb dX12_sumFrom_48 rfl hl (by decide) rfl (fun ls hl => ?_)
          refine lv_iinc (v := (x4 + 1)) (lv' := [(4, .int (x4 + 1)), (3, .int (x3 + 0)), (0, .ref a0), (1, .int a1), (2, .int a2)]) hx hb dX12_sumFrom_49 hl (k := 4) rfl rfl (by decide) rfl (fun ls hl => ?_)
          refine lv_goto (tgt := 5) hx hb dX12_sumFrom_52 (by decide) ?_
          exact ih5 (x3 + 0) (x4 + 1) S5 _ _ _ h hI (lv_sub hl [2, 3, 4, 1, 0] rfl)
        · have h := hq_t h c11
          refine lv_aload_n hx hb dX12_sumFrom_27 rfl (lv_at hl 0 rfl) ?_
          obtain ⟨b12, g13, h⟩ := hq_bind h
          obtain ⟨fs_g13, hs_g13, hv_g13⟩ := gR_at g13
          refine hq_get hx hb hts hown hE hI hs_g13 inG12 rfl 1 (by decide) kw_945 hv_g13 dX12_sumFrom_28 ?_
          refine lv_sipush (v := 220) hx hb dX12_sumFrom_31 (by decide) ?_
          refine lv_iload hx hb dX12_sumFrom_34 (lv_at hl 4 rfl) ?_
          refine lv_iadd hx hb dX12_sumFrom_36 ?_
          obtain ⟨v15, g14, h⟩ := hq_bind h
          refine hq_iald hx hb hE hI g14 dX12_sumFrom_37 ?_
          refine lv_iload_n hx hb dX12_sumFrom_38 rfl (lv_at hl 2 rfl) ?_
          refine lv_isub hx hb dX12_sumFrom_39 ?_
          obtain ⟨v18, S17, g16, h⟩ := hq_bd2 h
          refine hq_calli hI (va_runS (As := [.int (v15 - a2)]) (rest := [.int x3]) ⟨hx, hb, hml, hown, hts⟩ (c_X12_size l D kA ρ HB S5 (v15 - a2) _ g16) (va_cwS 1 hts (gdIn (List.forall_mem_cons.mpr ⟨kw_1040, (List.forall_mem_cons.mpr ⟨kw_1041, (List.forall_mem_cons.mpr ⟨kw_6, (fun _ h => absurd h List.not_mem_nil)⟩)⟩)⟩) kw_1042) rfl rfl rfl yd_X12_size ⟨Nat.le_of_ble_eq_true rfl, Nat.le_of_ble_eq_true rfl⟩) (hq_preS hE hI _) rfl rfl hl.1 rfl (lv_room (Nat.le_of_ble_eq_true rfl)) dX12_sumFrom_40 ⟨Nat.le_of_ble_eq_true rfl, Nat.le_of_ble_eq_true rfl⟩) (fun H locs hI => ?_)
          refine lv_goto (tgt := 47) hx hb dX12_sumFrom_43 (by decide) ?_
          refine lv_iadd hx hb dX12_sumFrom_47 ?_
          refine lv_istore_n (lv' := [(3, .int (x3 + v18)), (0, .ref a0), (1, .int a1), (2, .int a2), (4, .int x4)]) hx hb dX12_sumFrom_48 rfl hl (by decide) rfl (fun ls hl => ?_)
          refine lv_iinc (v := (x4 + 1)) (lv' := [(4, .int (x4 + 1)), (3, .int (x3 + v18)), (0, .ref a0), (1, .int a1), (2, .int a2)]) hx hb dX12_sumFrom_49 hl (k := 4) rfl rfl (by decide) rfl (fun ls hl => ?_)
          refine lv_goto (tgt := 5) hx hb dX12_sumFrom_52 (by decide) ?_
          exact ih5 (x3 + v18) (x4 + 1) S17 _ _ _ h hI (lv_sub hl [2, 3, 4, 1, 0] rfl)
  exact hL5 FU 0 0 S _ _ _ h hI (lv_sub hl [2, 3, 4, 1, 0] rfl)
-- RodDipsModel.fixed(II)I
theorem dX12_fixed_0 : decode cX12_fixed 0 = .ok (.aload_n 0, 1) := by decide +kernel
theorem dX12_fixed_1 : decode cX12_fixed 1 = .ok (.iload_n 1, 1) := by decide +kernel
theorem dX12_fixed_2 : decode cX12_fixed 2 = .ok (.invokevirtual 177, 3) := by decide +kernel
theorem dX12_fixed_5 : decode cX12_fixed 5 = .ok (.ifCond .eq 10, 3) := by decide +kernel
theorem dX12_fixed_8 : decode cX12_fixed 8 = .ok (.iload_n 2, 1) := by decide +kernel
theorem dX12_fixed_9 : decode cX12_fixed 9 = .ok (.invokestatic 43, 3) := by decide +kernel
theorem dX12_fixed_12 : decode cX12_fixed 12 = .ok (.ifCond .ne 5, 3) := by decide +kernel
theorem dX12_fixed_15 : decode cX12_fixed 15 = .ok (.iconst (-1), 1) := by decide +kernel
theorem dX12_fixed_16 : decode cX12_fixed 16 = .ok (.ireturn, 1) := by decide +kernel
theorem dX12_fixed_17 : decode cX12_fixed 17 = .ok (.aload_n 0, 1) := by decide +kernel
theorem dX12_fixed_18 : decode cX12_fixed 18 = .ok (.aload_n 0, 1) := by decide +kernel
theorem dX12_fixed_19 : decode cX12_fixed 19 = .ok (.iload_n 1, 1) := by decide +kernel
theorem dX12_fixed_20 : decode cX12_fixed 20 = .ok (.invokevirtual 180, 3) := by decide +kernel
theorem dX12_fixed_23 : decode cX12_fixed 23 = .ok (.iload_n 2, 1) := by decide +kernel
theorem dX12_fixed_24 : decode cX12_fixed 24 = .ok (.invokevirtual 187, 3) := by decide +kernel
theorem dX12_fixed_27 : decode cX12_fixed 27 = .ok (.istore_n 3, 1) := by decide +kernel
theorem dX12_fixed_28 : decode cX12_fixed 28 = .ok (.iload_n 3, 1) := by decide +kernel
theorem dX12_fixed_29 : decode cX12_fixed 29 = .ok (.ifCond .ne 6, 3) := by decide +kernel
theorem dX12_fixed_32 : decode cX12_fixed 32 = .ok (.bipush (-5), 2) := by decide +kernel
theorem dX12_fixed_34 : decode cX12_fixed 34 = .ok (.ireturn, 1) := by decide +kernel
theorem dX12_fixed_35 : decode cX12_fixed 35 = .ok (.iconst 0, 1) := by decide +kernel
theorem dX12_fixed_36 : decode cX12_fixed 36 = .ok (.istore 4, 2) := by decide +kernel
theorem dX12_fixed_38 : decode cX12_fixed 38 = .ok (.iconst 1, 1) := by decide +kernel
theorem dX12_fixed_39 : decode cX12_fixed 39 = .ok (.istore 5, 2) := by decide +kernel
theorem dX12_fixed_41 : decode cX12_fixed 41 = .ok (.iload 5, 2) := by decide +kernel
theorem dX12_fixed_43 : decode cX12_fixed 43 = .ok (.aload_n 0, 1) := by decide +kernel
theorem dX12_fixed_44 : decode cX12_fixed 44 = .ok (.getfield 9, 3) := by decide +kernel
theorem dX12_fixed_47 : decode cX12_fixed 47 = .ok (.iconst 0, 1) := by decide +kernel
theorem dX12_fixed_48 : decode cX12_fixed 48 = .ok (.iaload, 1) := by decide +kernel
theorem dX12_fixed_49 : decode cX12_fixed 49 = .ok (.if_icmp .ge 35, 3) := by decide +kernel
theorem dX12_fixed_52 : decode cX12_fixed 52 = .ok (.aload_n 0, 1) := by decide +kernel
theorem dX12_fixed_53 : decode cX12_fixed 53 = .ok (.iload_n 3, 1) := by decide +kernel
theorem dX12_fixed_54 : decode cX12_fixed 54 = .ok (.iload 5, 2) := by decide +kernel
theorem dX12_fixed_56 : decode cX12_fixed 56 = .ok (.invokevirtual 230, 3) := by decide +kernel
theorem dX12_fixed_59 : decode cX12_fixed 59 = .ok (.aload_n 0, 1) := by decide +kernel
theorem dX12_fixed_60 : decode cX12_fixed 60 = .ok (.iload_n 3, 1) := by decide +kernel
theorem dX12_fixed_61 : decode cX12_fixed 61 = .ok (.iload 4, 2) := by decide +kernel
theorem dX12_fixed_63 : decode cX12_fixed 63 = .ok (.invokevirtual 230, 3) := by decide +kernel
theorem dX12_fixed_66 : decode cX12_fixed 66 = .ok (.if_icmp .ge 8, 3) := by decide +kernel
theorem dX12_fixed_69 : decode cX12_fixed 69 = .ok (.iload 5, 2) := by decide +kernel
theorem dX12_fixed_71 : decode cX12_fixed 71 = .ok (.goto 5, 3) := by decide +kernel
theorem dX12_fixed_74 : decode cX12_fixed 74 = .ok (.iload 4, 2) := by decide +kernel
theorem dX12_fixed_76 : decode cX12_fixed 76 = .ok (.istore 4, 2) := by decide +kernel
theorem dX12_fixed_78 : decode cX12_fixed 78 = .ok (.iinc 5 1, 3) := by decide +kernel
theorem dX12_fixed_81 : decode cX12_fixed 81 = .ok (.goto (-40), 3) := by decide +kernel
theorem dX12_fixed_84 : decode cX12_fixed 84 = .ok (.iload 4, 2) := by decide +kernel
theorem dX12_fixed_86 : decode cX12_fixed 86 = .ok (.ireturn, 1) := by decide +kernel
def f_X12_fixed_K84 (x19 : Int32) (S20 : HSt) : Option (Int32 × HSt) := some (x19, S20)
def f_X12_fixed_B41 (a0 : Nat) (v17 : Int32) (kx84 : (Int32 → HSt → Option (Int32 × HSt))) (kb41 : (Int32 → Int32 → HSt → Option (Int32 × HSt))) (x21 : Int32) (x22 : Int32) (S23 : HSt) : Option (Int32 × HSt) := (gR S23 a0 12 1).bind fun b24 => (aI S23 b24 0 0).bind fun v27 => if v27 ≤ x22 then (kx84 x21 S23) else (if gC S23 a0 = some 12 then (bd2 (f_X12_sumFrom S23 a0 v17 x22) fun v32 S31 => if gC S31 a0 = some 12 then (bd2 (f_X12_sumFrom S31 a0 v17 x21) fun v36 S35 => if v36 ≤ v32 then (kb41 x21 (x22 + 1) S35) else (kb41 x22 (x22 + 1) S35)) else none) else none)
def f_X12_fixed_L41 (a0 : Nat) (v17 : Int32) (kx84 : (Int32 → HSt → Option (Int32 × HSt))) : Nat → Int32 → Int32 → HSt → Option (Int32 × HSt)
  | 0, _, _, _ => none
  | n + 1, x21, x22, S => f_X12_fixed_B41 a0 v17 kx84 (f_X12_fixed_L41 a0 v17 kx84 n) x21 x22 S
def f_X12_fixed (S : HSt) (a0 : Nat) (a1 : Int32) (a2 : Int32) : Option (Int32 × HSt) := if gC S a0 = some 12 then (bd2 (f_X12_isPlan S a0 a1) fun v4 S3 => if v4 = 0 then (some ((-1), S3)) else (bd2 (f_X12_isMan S3 a2) fun v8 S7 => if v8 = 0 then (some ((-1), S7)) else (if gC S7 a0 = some 12 then (bd2 (f_X12_counted S7 a0 a1) fun v13 S12 => if gC S12 a0 = some 12 then (bd2 (f_X12_ofMan S12 a0 v13 a2) fun v17 S16 => if v17 = 0 then (some ((-5), S16)) else ((f_X12_fixed_L41 a0 v17 f_X12_fixed_K84 FU) 0 1 S16)) else none) else none))) else none
abbrev rm_X12_fixed : Room := { frames := 6, cells := 0, slots := 0, locals := 137 }
abbrev w_X12_fixed : List Cond := Cond.code yX12_fixed cX12_fixed 6 (Option.some FieldType.int) :: lwG
theorem yd_X12_fixed : yX12_fixed.cls ≠ "java/lang/invoke/MethodHandle" ∧ yX12_fixed.cls ≠ "java/lang/invoke/VarHandle" ∧ (parseMethodDescriptor yX12_fixed.desc).map (fun d => d.parameters.length) = some 2 := by decide +kernel
theorem ye_X12_fixed : yX12_fixed.cls = RX12 ∧ yX12_fixed.cls ≠ "java/lang/invoke/MethodHandle" ∧ yX12_fixed.cls ≠ "java/lang/invoke/VarHandle" ∧ (parseMethodDescriptor yX12_fixed.desc).map (fun d => d.parameters.length) = some 2 := by decide +kernel
set_option maxHeartbeats 4000000 in
set_option maxRecDepth 100000 in
theorem c_X12_fixed (l : Launch) (D : va_G) (kA ρ : Nat → Nat) (HB : Heap) (S : HSt) (a0 : Nat) (a1 : Int32) (a2 : Int32) (res : Int32 × HSt) (h : f_X12_fixed S a0 a1 a2 = some res) : Met l yX12_fixed w_X12_fixed rm_X12_fixed (hPc D kA ρ HB S [.ref a0, .int a1, .int a2]) (hQi D kA HB S res) 0 0 (hFree HB) := by
  refine Met.ofW (cc := cX12_fixed) (maxL := 6) (ret := (Option.some FieldType.int)) (by decide) rfl ?_
  intro p e s m args below meth c s₁ B hml hv
  obtain ⟨rfl, hE, h0⟩ := hv
  have hx := B.exec
  have hb := B.bytes
  have hr := B.returns
  have hts0 := atoms_spec (ws := w_X12_fixed) B.pre
  have hts : ∀ w ∈ lwG, w.before _ s = true := fun w hw => hts0 w (List.mem_cons_of_mem _ hw)
  have hown : s.vm.findClass RX12 = some m.cls := findClass_of_methodNamed B.named
  have hlocks := B.notSynchronized
  have hI : hqX D kA HB S.2 S s.heap [] := ⟨h0, Nat.le_refl _, fun _ q => absurd q List.not_mem_nil⟩
  have hl := lv_entry ([.ref a0, .int a1, .int a2]) (n := 6) (Nat.le_of_ble_eq_true rfl)
  rw [lg_entry_eq]
  generalize (lg_sl ([.ref a0, .int a1, .int a2]) ++ List.replicate (6 - (lg_sl ([.ref a0, .int a1, .int a2])).length) Slot.unset).toArray = ls at hl ⊢
  have hl : lv_has ls 6 [(0, .ref a0), (1, .int a1), (2, .int a2)] := hl
  unfold f_X12_fixed at h
  refine lv_aload_n hx hb dX12_fixed_0 rfl (lv_at hl 0 rfl) ?_
  refine lv_iload_n hx hb dX12_fixed_1 rfl (lv_at hl 1 rfl) ?_
  obtain ⟨g2, h⟩ := hq_g h
  obtain ⟨v4, S3, g1, h⟩ := hq_bd2 h
  refine hq_calli hI (va_runV (As := [.int a1]) (rest := []) ⟨hx, hb, hml, hown, hts⟩ (c_X12_isPlan l D kA ρ HB S a0 a1 _ g1) (cwV 1 hts (gdIn (List.forall_mem_cons.mpr ⟨kw_1133, (List.forall_mem_cons.mpr ⟨kw_1135, (List.forall_mem_cons.mpr ⟨ks_48, (List.forall_mem_cons.mpr ⟨kw_6, (fun _ h => absurd h List.not_mem_nil)⟩)⟩)⟩)⟩) kw_1136) rfl rfl rfl ye_X12_isPlan ⟨Nat.le_of_ble_eq_true rfl, Nat.le_of_ble_eq_true rfl⟩) (hq_preC hE hI g2 rfl _) rfl rfl hl.1 rfl (lv_room (Nat.le_of_ble_eq_true rfl)) dX12_fixed_2 ⟨Nat.le_of_ble_eq_true rfl, Nat.le_of_ble_eq_true rfl⟩) (fun H locs hI => ?_)
  refine lv_if_eq (tgt := 15) hx hb dX12_fixed_5 (by decide) (fun c5 => ?_) (fun c5 => ?_)
  · have h := hq_t h c5
    refine lv_iconst (v := (-1)) hx hb dX12_fixed_15 (by decide) ?_
    exact hq_iret hx hb hr hlocks h0 hI h dX12_fixed_16
  · have h := hq_f h c5
    refine lv_iload_n hx hb dX12_fixed_8 rfl (lv_at hl 2 rfl) ?_
    obtain ⟨v8, S7, g6, h⟩ := hq_bd2 h
    refine hq_calli hI (va_runS (As := [.int a2]) (rest := []) ⟨hx, hb, hml, hown, hts⟩ (c_X12_isMan l D kA ρ HB S3 a2 _ g6) (va_cwS 1 hts (gdIn (List.forall_mem_cons.mpr ⟨kw_1017, (List.forall_mem_cons.mpr ⟨kw_1018, (List.forall_mem_cons.mpr ⟨kw_6, (fun _ h => absurd h List.not_mem_nil)⟩)⟩)⟩) kw_1019) rfl rfl rfl yd_X12_isMan ⟨Nat.le_of_ble_eq_true rfl, Nat.le_of_ble_eq_true rfl⟩) (hq_preS hE hI _) rfl rfl hl.1 rfl (lv_room (Nat.le_of_ble_eq_true rfl)) dX12_fixed_9 ⟨Nat.le_of_ble_eq_true rfl, Nat.le_of_ble_eq_true rfl⟩) (fun H locs hI => ?_)
    refine lv_if_ne (tgt := 17) hx hb dX12_fixed_12 (by decide) (fun c9 => ?_) (fun c9 => ?_)
    · have h := hq_f h c9
      refine lv_aload_n hx hb dX12_fixed_17 rfl (lv_at hl 0 rfl) ?_
      refine lv_aload_n hx hb dX12_fixed_18 rfl (lv_at hl 0 rfl) ?_
      refine lv_iload_n hx hb dX12_fixed_19 rfl (lv_at hl 1 rfl) ?_
      obtain ⟨g11, h⟩ := hq_g h
      obtain ⟨v13, S12, g10, h⟩ := hq_bd2 h
      refine hq_calli hI (va_runV (As := [.int a1]) (rest := [.ref a0]) ⟨hx, hb, hml, hown, hts⟩ (c_X12_counted l D kA ρ HB S7 a0 a1 _ g10) (cwV 1 hts (gdIn (List.forall_mem_cons.mpr ⟨kw_1137, (List.forall_mem_cons.mpr ⟨kw_1139, (List.forall_mem_cons.mpr ⟨ks_49, (List.forall_mem_cons.mpr ⟨kw_6, (fun _ h => absurd h List.not_mem_nil)⟩)⟩)⟩)⟩) kw_1140) rfl rfl rfl ye_X12_counted ⟨Nat.le_of_ble_eq_true rfl, Nat.le_of_ble_eq_true rfl⟩) (hq_preC hE hI g11 rfl _) rfl rfl hl.1 rfl (lv_room (Nat.le_of_ble_eq_true rfl)) dX12_fixed_20 ⟨Nat.le_of_ble_eq_true rfl, Nat.le_of_ble_eq_true rfl⟩) (fun H locs hI => ?_)
      refine lv_iload_n hx hb dX12_fixed_23 rfl (lv_at hl 2 rfl) ?_
      obtain ⟨g15, h⟩ := hq_g h
      obtain ⟨v17, S16, g14, h⟩ := hq_bd2 h
      refine hq_calli hI (va_runV (As := [.int v13, .int a2]) (rest := []) ⟨hx, hb, hml, hown, hts⟩ (c_X12_ofMan l D kA ρ HB S12 a0 v13 a2 _ g14) (cwV 2 hts (gdIn (List.forall_mem_cons.mpr ⟨kw_1169, (List.forall_mem_cons.mpr ⟨kw_1171, (List.forall_mem_cons.mpr ⟨ks_56, (List.forall_mem_cons.mpr ⟨kw_6, (fun _ h => absurd h List.not_mem_nil)⟩)⟩)⟩)⟩) kw_1172) rfl rfl rfl ye_X12_ofMan ⟨Nat.le_of_ble_eq_true rfl, Nat.le_of_ble_eq_true rfl⟩) (hq_preC hE hI g15 rfl _) rfl rfl hl.1 rfl (lv_room (Nat.le_of_ble_eq_true rfl)) dX12_fixed_24 ⟨Nat.le_of_ble_eq_true rfl, Nat.le_of_ble_eq_true rfl⟩) (fun H locs hI => ?_)
      refine lv_istore_n (lv' := [(3, .int v17), (0, .ref a0), (1, .int a1), (2, .int a2)]) hx hb dX12_fixed_27 rfl hl (by decide) rfl (fun ls hl => ?_)
      refine lv_iload_n hx hb dX12_fixed_28 rfl (lv_at hl 0 rfl) ?_
      refine lv_if_ne (tgt := 35) hx hb dX12_fixed_29 (by decide) (fun c18 => ?_) (fun c18 => ?_)
      · have h := hq_f h c18
        refine lv_iconst (v := 0) hx hb dX12_fixed_35 (by decide) ?_
        refine lv_istore (lv' := [(4, .int 0), (3, .int v17), (0, .ref a0), (1, .int a1), (2, .int a2)]) hx hb dX12_fixed_36 hl (by decide) rfl (fun ls hl => ?_)
        refine lv_iconst (v := 1) hx hb dX12_fixed_38 (by decide) ?_
        refine lv_istore (lv' := [(5, .int 1), (4, .int 0), (3, .int v17), (0, .ref a0), (1, .int a1), (2, .int a2)]) hx hb dX12_fixed_39 hl (by decide) rfl (fun ls hl => ?_)
        have hK84 : ∀ (x19 : Int32) (S20 : HSt) (H : Heap) (locs : List Loc) (ls : Array Slot), f_X12_fixed_K84 x19 S20 = some res → hqX D kA HB S.2 S20 H locs → lv_has ls 6 [(4, .int x19)] → W p l e rm_X12_fixed s m ([.ref a0, .int a1, .int a2] : List Value).toArray below meth c H locs 0 0 (MQ below (hQi D kA HB S res) ([.ref a0, .int a1, .int a2] : List Value).toArray s 0 0 (hFree HB)) (F0 m 84 ls []) := by
          intro x19 S20 H locs ls h hI hl
          unfold f_X12_fixed_K84 at h
          refine lv_iload hx hb dX12_fixed_84 (lv_at hl 0 rfl) ?_
          exact hq_iret hx hb hr hlocks h0 hI h dX12_fixed_86
        have hL41 : ∀ (n41 : Nat) (x21 : Int32) (x22 : Int32) (S23 : HSt) (H : Heap) (locs : List Loc) (ls : Array Slot), (f_X12_fixed_L41 a0 v17 f_X12_fixed_K84 n41) x21 x22 S23 = some res → hqX D kA HB S.2 S23 H locs → lv_has ls 6 [(0, .ref a0), (3, .int v17), (4, .int x21), (5, .int x22)] → W p l e rm_X12_fixed s m ([.ref a0, .int a1, .int a2] : List Value).toArray below meth c H locs 0 0 (MQ below (hQi D kA HB S res) ([.ref a0, .int a1, .int a2] : List Value).toArray s 0 0 (hFree HB)) (F0 m 41 ls []) := by
          intro n41
          induction n41 with
          | zero =>
            intro x21 x22 S23 H locs ls h
            have h : (none : Option (Int32 × HSt)) = some res := h
            cases h
          | succ n41 ih41 =>
            intro x21 x22 S23 H locs ls h hI hl
            have h : f_X12_fixed_B41 a0 v17 f_X12_fixed_K84 (f_X12_fixed_L41 a0 v17 f_X12_fixed_K84 n41) x21 x22 S23 = some res := h
            unfold f_X12_fixed_B41 at h
            refine lv_iload hx hb dX12_fixed_41 (lv_at hl 3 rfl) ?_
            refine lv_aload_n hx hb dX12_fixed_43 rfl (lv_at hl 0 rfl) ?_
            obtain ⟨b24, g25, h⟩ := hq_bind h
            obtain ⟨fs_g25, hs_g25, hv_g25⟩ := gR_at g25
            refine hq_get hx hb hts hown hE hI hs_g25 inG12 rfl 1 (by decide) kw_945 hv_g25 dX12_fixed_44 ?_
            refine lv_iconst (v := 0) hx hb dX12_fixed_47 (by decide) ?_
            obtain ⟨v27, g26, h⟩ := hq_bind h
            refine hq_iald hx hb hE hI g26 dX12_fixed_48 ?_
            refine lv_icmp_ge (tgt := 84) hx hb dX12_fixed_49 (by decide) (fun c28 => ?_) (fun c28 => ?_)
            · have h := hq_t h c28
              exact hK84 x21 S23 _ _ _ h hI (lv_sub hl [2] rfl)
            · have h := hq_f h c28
              refine lv_aload_n hx hb dX12_fixed_52 rfl (lv_at hl 0 rfl) ?_
              refine lv_iload_n hx hb dX12_fixed_53 rfl (lv_at hl 1 rfl) ?_
              refine lv_iload hx hb dX12_fixed_54 (lv_at hl 3 rfl) ?_
              obtain ⟨g30, h⟩ := hq_g h
              obtain ⟨v32, S31, g29, h⟩ := hq_bd2 h
              refine hq_calli hI (va_runV (As := [.int v17, .int x22]) (rest := []) ⟨hx, hb, hml, hown, hts⟩ (c_X12_sumFrom l D kA ρ HB S23 a0 v17 x22 _ g29) (cwV 2 hts (gdIn (List.forall_mem_cons.mpr ⟨kw_1223, (List.forall_mem_cons.mpr ⟨kw_1225, (List.forall_mem_cons.mpr ⟨ks_63, (List.forall_mem_cons.mpr ⟨kw_6, (fun _ h => absurd h List.not_mem_nil)⟩)⟩)⟩)⟩) kw_1226) rfl rfl rfl ye_X12_sumFrom ⟨Nat.le_of_ble_eq_true rfl, Nat.le_of_ble_eq_true rfl⟩) (hq_preC hE hI g30 rfl _) rfl rfl hl.1 rfl (lv_room (Nat.le_of_ble_eq_true rfl)) dX12_fixed_56 ⟨Nat.le_of_ble_eq_true rfl, Nat.le_of_ble_eq_true rfl⟩) (fun H locs hI => ?_)
              refine lv_aload_n hx hb dX12_fixed_59 rfl (lv_at hl 0 rfl) ?_
              refine lv_iload_n hx hb dX12_fixed_60 rfl (lv_at hl 1 rfl) ?_
              refine lv_iload hx hb dX12_fixed_61 (lv_at hl 2 rfl) ?_
              obtain ⟨g34, h⟩ := hq_g h
              obtain ⟨v36, S35, g33, h⟩ := hq_bd2 h
              refine hq_calli hI (va_runV (As := [.int v17, .int x21]) (rest := [.int v32]) ⟨hx, hb, hml, hown, hts⟩ (c_X12_sumFrom l D kA ρ HB S31 a0 v17 x21 _ g33) (cwV 2 hts (gdIn (List.forall_mem_cons.mpr ⟨kw_1223, (List.forall_mem_cons.mpr ⟨kw_1225, (List.forall_mem_cons.mpr ⟨ks_63, (List.forall_mem_cons.mpr ⟨kw_6, (fun _ h => absurd h List.not_mem_nil)⟩)⟩)⟩)⟩) kw_1226) rfl rfl rfl ye_X12_sumFrom ⟨Nat.le_of_ble_eq_true rfl, Nat.le_of_ble_eq_true rfl⟩) (hq_preC hE hI g34 rfl _) rfl rfl hl.1 rfl (lv_room (Nat.le_of_ble_eq_true rfl)) dX12_fixed_63 ⟨Nat.le_of_ble_eq_true rfl, Nat.le_of_ble_eq_true rfl⟩) (fun H locs hI => ?_)
              refine lv_icmp_ge (tgt := 74) hx hb dX12_fixed_66 (by decide) (fun c37 => ?_) (fun c37 => ?_)
              · have h := hq_t h c37
                refine lv_iload hx hb dX12_fixed_74 (lv_at hl 2 rfl) ?_
                refine lv_istore (lv' := [(4, .int x21), (0, .ref a0), (3, .int v17), (5, .int x22)]) hx hb dX12_fixed_76 hl (by decide) rfl (fun ls hl => ?_)
                refine lv_iinc (v := (x22 + 1)) (lv' := [(5, .int (x22 + 1)), (4, .int x21), (0, .ref a0), (3, .int v17)]) hx hb dX12_fixed_78 hl (k := 3) rfl rfl (by decide) rfl (fun ls hl => ?_)
                refine lv_goto (tgt := 41) hx hb dX12_fixed_81 (by decide) ?_
                exact ih41 x21 (x22 + 1) S35 _ _ _ h hI (lv_sub hl [2, 3, 1, 0] rfl)
              · have h := hq_f h c37
                refine lv_iload hx hb dX12_fixed_69 (lv_at hl 3 rfl) ?_
                refine lv_goto (tgt := 76) hx hb dX12_fixed_71 (by decide) ?_
                refine lv_istore (lv' := [(4, .int x22), (0, .ref a0), (3, .int v17), (5, .int x22)]) hx hb dX12_fixed_76 hl (by decide) rfl (fun ls hl => ?_)
                refine lv_iinc (v := (x22 + 1)) (lv' := [(5, .int (x22 + 1)), (4, .int x22), (0, .ref a0), (3, .int v17)]) hx hb dX12_fixed_78 hl (k := 3) rfl rfl (by decide) rfl (fun ls hl => ?_)
                refine lv_goto (tgt := 41) hx hb dX12_fixed_81 (by decide) ?_
                exact ih41 x22 (x22 + 1) S35 _ _ _ h hI (lv_sub hl [2, 3, 1, 0] rfl)
        exact hL41 FU 0 1 S16 _ _ _ h hI (lv_sub hl [3, 2, 1, 0] rfl)
      · have h := hq_t h c18
        refine lv_bipush (v := (-5)) hx hb dX12_fixed_32 (by decide) ?_
        exact hq_iret hx hb hr hlocks h0 hI h dX12_fixed_34
    · have h := hq_t h c9
      refine lv_iconst (v := (-1)) hx hb dX12_fixed_15 (by decide) ?_
      exact hq_iret hx hb hr hlocks h0 hI h dX12_fixed_16
-- RodDipsModel.beats(I)I
theorem dX12_beats_0 : decode cX12_beats 0 = .ok (.aload_n 0, 1) := by decide +kernel
theorem dX12_beats_1 : decode cX12_beats 1 = .ok (.iload_n 1, 1) := by decide +kernel
theorem dX12_beats_2 : decode cX12_beats 2 = .ok (.invokevirtual 177, 3) := by decide +kernel
theorem dX12_beats_5 : decode cX12_beats 5 = .ok (.ifCond .ne 5, 3) := by decide +kernel
theorem dX12_beats_8 : decode cX12_beats 8 = .ok (.iconst (-1), 1) := by decide +kernel
theorem dX12_beats_9 : decode cX12_beats 9 = .ok (.ireturn, 1) := by decide +kernel
theorem dX12_beats_10 : decode cX12_beats 10 = .ok (.aload_n 0, 1) := by decide +kernel
theorem dX12_beats_11 : decode cX12_beats 11 = .ok (.iload_n 1, 1) := by decide +kernel
theorem dX12_beats_12 : decode cX12_beats 12 = .ok (.invokevirtual 180, 3) := by decide +kernel
theorem dX12_beats_15 : decode cX12_beats 15 = .ok (.istore_n 2, 1) := by decide +kernel
theorem dX12_beats_16 : decode cX12_beats 16 = .ok (.iconst 0, 1) := by decide +kernel
theorem dX12_beats_17 : decode cX12_beats 17 = .ok (.istore_n 3, 1) := by decide +kernel
theorem dX12_beats_18 : decode cX12_beats 18 = .ok (.iconst 0, 1) := by decide +kernel
theorem dX12_beats_19 : decode cX12_beats 19 = .ok (.istore 4, 2) := by decide +kernel
theorem dX12_beats_21 : decode cX12_beats 21 = .ok (.iload 4, 2) := by decide +kernel
theorem dX12_beats_23 : decode cX12_beats 23 = .ok (.bipush 6, 2) := by decide +kernel
theorem dX12_beats_25 : decode cX12_beats 25 = .ok (.if_icmp .ge 102, 3) := by decide +kernel
theorem dX12_beats_28 : decode cX12_beats 28 = .ok (.aload_n 0, 1) := by decide +kernel
theorem dX12_beats_29 : decode cX12_beats 29 = .ok (.iload_n 2, 1) := by decide +kernel
theorem dX12_beats_30 : decode cX12_beats 30 = .ok (.iload 4, 2) := by decide +kernel
theorem dX12_beats_32 : decode cX12_beats 32 = .ok (.invokevirtual 187, 3) := by decide +kernel
theorem dX12_beats_35 : decode cX12_beats 35 = .ok (.istore 5, 2) := by decide +kernel
theorem dX12_beats_37 : decode cX12_beats 37 = .ok (.iconst 0, 1) := by decide +kernel
theorem dX12_beats_38 : decode cX12_beats 38 = .ok (.istore 6, 2) := by decide +kernel
theorem dX12_beats_40 : decode cX12_beats 40 = .ok (.iconst 0, 1) := by decide +kernel
theorem dX12_beats_41 : decode cX12_beats 41 = .ok (.istore 7, 2) := by decide +kernel
theorem dX12_beats_43 : decode cX12_beats 43 = .ok (.iload 7, 2) := by decide +kernel
theorem dX12_beats_45 : decode cX12_beats 45 = .ok (.aload_n 0, 1) := by decide +kernel
theorem dX12_beats_46 : decode cX12_beats 46 = .ok (.getfield 9, 3) := by decide +kernel
theorem dX12_beats_49 : decode cX12_beats 49 = .ok (.iconst 1, 1) := by decide +kernel
theorem dX12_beats_50 : decode cX12_beats 50 = .ok (.iaload, 1) := by decide +kernel
theorem dX12_beats_51 : decode cX12_beats 51 = .ok (.if_icmp .ge 35, 3) := by decide +kernel
theorem dX12_beats_54 : decode cX12_beats 54 = .ok (.iload 6, 2) := by decide +kernel
theorem dX12_beats_56 : decode cX12_beats 56 = .ok (.iload 5, 2) := by decide +kernel
theorem dX12_beats_58 : decode cX12_beats 58 = .ok (.iload 7, 2) := by decide +kernel
theorem dX12_beats_60 : decode cX12_beats 60 = .ok (.ishr, 1) := by decide +kernel
theorem dX12_beats_61 : decode cX12_beats 61 = .ok (.iconst 1, 1) := by decide +kernel
theorem dX12_beats_62 : decode cX12_beats 62 = .ok (.iand, 1) := by decide +kernel
theorem dX12_beats_63 : decode cX12_beats 63 = .ok (.iconst 1, 1) := by decide +kernel
theorem dX12_beats_64 : decode cX12_beats 64 = .ok (.if_icmp .ne 12, 3) := by decide +kernel
theorem dX12_beats_67 : decode cX12_beats 67 = .ok (.aload_n 0, 1) := by decide +kernel
theorem dX12_beats_68 : decode cX12_beats 68 = .ok (.iload 7, 2) := by decide +kernel
theorem dX12_beats_70 : decode cX12_beats 70 = .ok (.invokevirtual 57, 3) := by decide +kernel
theorem dX12_beats_73 : decode cX12_beats 73 = .ok (.goto 4, 3) := by decide +kernel
theorem dX12_beats_76 : decode cX12_beats 76 = .ok (.iconst 0, 1) := by decide +kernel
theorem dX12_beats_77 : decode cX12_beats 77 = .ok (.iadd, 1) := by decide +kernel
theorem dX12_beats_78 : decode cX12_beats 78 = .ok (.istore 6, 2) := by decide +kernel
theorem dX12_beats_80 : decode cX12_beats 80 = .ok (.iinc 7 1, 3) := by decide +kernel
theorem dX12_beats_83 : decode cX12_beats 83 = .ok (.goto (-40), 3) := by decide +kernel
theorem dX12_beats_86 : decode cX12_beats 86 = .ok (.iload_n 3, 1) := by decide +kernel
theorem dX12_beats_87 : decode cX12_beats 87 = .ok (.iload 5, 2) := by decide +kernel
theorem dX12_beats_89 : decode cX12_beats 89 = .ok (.ifCond .eq 29, 3) := by decide +kernel
theorem dX12_beats_92 : decode cX12_beats 92 = .ok (.iload 6, 2) := by decide +kernel
theorem dX12_beats_94 : decode cX12_beats 94 = .ok (.aload_n 0, 1) := by decide +kernel
theorem dX12_beats_95 : decode cX12_beats 95 = .ok (.iload 5, 2) := by decide +kernel
theorem dX12_beats_97 : decode cX12_beats 97 = .ok (.aload_n 0, 1) := by decide +kernel
theorem dX12_beats_98 : decode cX12_beats 98 = .ok (.getfield 9, 3) := by decide +kernel
theorem dX12_beats_101 : decode cX12_beats 101 = .ok (.iconst 0, 1) := by decide +kernel
theorem dX12_beats_102 : decode cX12_beats 102 = .ok (.iaload, 1) := by decide +kernel
theorem dX12_beats_103 : decode cX12_beats 103 = .ok (.iconst 2, 1) := by decide +kernel
theorem dX12_beats_104 : decode cX12_beats 104 = .ok (.idiv, 1) := by decide +kernel
theorem dX12_beats_105 : decode cX12_beats 105 = .ok (.invokevirtual 230, 3) := by decide +kernel
theorem dX12_beats_108 : decode cX12_beats 108 = .ok (.if_icmp .ge 10, 3) := by decide +kernel
theorem dX12_beats_111 : decode cX12_beats 111 = .ok (.iconst 1, 1) := by decide +kernel
theorem dX12_beats_112 : decode cX12_beats 112 = .ok (.iload 4, 2) := by decide +kernel
theorem dX12_beats_114 : decode cX12_beats 114 = .ok (.ishl, 1) := by decide +kernel
theorem dX12_beats_115 : decode cX12_beats 115 = .ok (.goto 4, 3) := by decide +kernel
theorem dX12_beats_118 : decode cX12_beats 118 = .ok (.iconst 0, 1) := by decide +kernel
theorem dX12_beats_119 : decode cX12_beats 119 = .ok (.ior, 1) := by decide +kernel
theorem dX12_beats_120 : decode cX12_beats 120 = .ok (.istore_n 3, 1) := by decide +kernel
theorem dX12_beats_121 : decode cX12_beats 121 = .ok (.iinc 4 1, 3) := by decide +kernel
theorem dX12_beats_124 : decode cX12_beats 124 = .ok (.goto (-103), 3) := by decide +kernel
theorem dX12_beats_127 : decode cX12_beats 127 = .ok (.iload_n 3, 1) := by decide +kernel
theorem dX12_beats_128 : decode cX12_beats 128 = .ok (.ireturn, 1) := by decide +kernel
def f_X12_beats_K127 (x10 : Int32) (S11 : HSt) : Option (Int32 × HSt) := some (x10, S11)
def f_X12_beats_K86 (a0 : Nat) (kb21 : (Int32 → Int32 → HSt → Option (Int32 × HSt))) (v19 : Int32) (x12 : Int32) (x13 : Int32) (x20 : Int32) (S21 : HSt) : Option (Int32 × HSt) := if v19 = 0 then (kb21 (x12 ||| 0) (x13 + 1) S21) else ((gR S21 a0 12 1).bind fun b23 => (aI S21 b23 0 0).bind fun v26 => if gC S21 a0 = some 12 then (bd2 (f_X12_sumFrom S21 a0 v19 (v26 / 2)) fun v30 S29 => if v30 ≤ x20 then (kb21 (x12 ||| 0) (x13 + 1) S29) else (kb21 (x12 ||| (1 <<< (x13 &&& 31))) (x13 + 1) S29)) else none)
def f_X12_beats_B43 (a0 : Nat) (v19 : Int32) (kx86 : (Int32 → HSt → Option (Int32 × HSt))) (kb43 : (Int32 → Int32 → HSt → Option (Int32 × HSt))) (x32 : Int32) (x33 : Int32) (S34 : HSt) : Option (Int32 × HSt) := (gR S34 a0 12 1).bind fun b35 => (aI S34 b35 0 1).bind fun v38 => if v38 ≤ x33 then (kx86 x32 S34) else (if ((v19 >>> (x33 &&& 31)) &&& 1) = 1 then (if gC S34 a0 = some 12 then (bd2 (f_X12_nearOf S34 a0 x33) fun v44 S43 => kb43 (x32 + v44) (x33 + 1) S43) else none) else (kb43 (x32 + 0) (x33 + 1) S34))
def f_X12_beats_L43 (a0 : Nat) (v19 : Int32) (kx86 : (Int32 → HSt → Option (Int32 × HSt))) : Nat → Int32 → Int32 → HSt → Option (Int32 × HSt)
  | 0, _, _, _ => none
  | n + 1, x32, x33, S => f_X12_beats_B43 a0 v19 kx86 (f_X12_beats_L43 a0 v19 kx86 n) x32 x33 S
def f_X12_beats_B21 (a0 : Nat) (v9 : Int32) (kx127 : (Int32 → HSt → Option (Int32 × HSt))) (kb21 : (Int32 → Int32 → HSt → Option (Int32 × HSt))) (x12 : Int32) (x13 : Int32) (S14 : HSt) : Option (Int32 × HSt) := if 6 ≤ x13 then (kx127 x12 S14) else (if gC S14 a0 = some 12 then (bd2 (f_X12_ofMan S14 a0 v9 x13) fun v19 S18 => (f_X12_beats_L43 a0 v19 (f_X12_beats_K86 a0 kb21 v19 x12 x13) FU) 0 0 S18) else none)
def f_X12_beats_L21 (a0 : Nat) (v9 : Int32) (kx127 : (Int32 → HSt → Option (Int32 × HSt))) : Nat → Int32 → Int32 → HSt → Option (Int32 × HSt)
  | 0, _, _, _ => none
  | n + 1, x12, x13, S => f_X12_beats_B21 a0 v9 kx127 (f_X12_beats_L21 a0 v9 kx127 n) x12 x13 S
def f_X12_beats (S : HSt) (a0 : Nat) (a1 : Int32) : Option (Int32 × HSt) := if gC S a0 = some 12 then (bd2 (f_X12_isPlan S a0 a1) fun v4 S3 => if v4 = 0 then (some ((-1), S3)) else (if gC S3 a0 = some 12 then (bd2 (f_X12_counted S3 a0 a1) fun v9 S8 => (f_X12_beats_L21 a0 v9 f_X12_beats_K127 FU) 0 0 S8) else none)) else none
abbrev rm_X12_beats : Room := { frames := 6, cells := 0, slots := 0, locals := 137 }
abbrev w_X12_beats : List Cond := Cond.code yX12_beats cX12_beats 8 (Option.some FieldType.int) :: lwG
theorem yd_X12_beats : yX12_beats.cls ≠ "java/lang/invoke/MethodHandle" ∧ yX12_beats.cls ≠ "java/lang/invoke/VarHandle" ∧ (parseMethodDescriptor yX12_beats.desc).map (fun d => d.parameters.length) = some 1 := by decide +kernel
theorem ye_X12_beats : yX12_beats.cls = RX12 ∧ yX12_beats.cls ≠ "java/lang/invoke/MethodHandle" ∧ yX12_beats.cls ≠ "java/lang/invoke/VarHandle" ∧ (parseMethodDescriptor yX12_beats.desc).map (fun d => d.parameters.length) = some 1 := by decide +kernel
set_option maxHeartbeats 4000000 in
set_option maxRecDepth 100000 in
theorem c_X12_beats (l : Launch) (D : va_G) (kA ρ : Nat → Nat) (HB : Heap) (S : HSt) (a0 : Nat) (a1 : Int32) (res : Int32 × HSt) (h : f_X12_beats S a0 a1 = some res) : Met l yX12_beats w_X12_beats rm_X12_beats (hPc D kA ρ HB S [.ref a0, .int a1]) (hQi D kA HB S res) 0 0 (hFree HB) := by
  refine Met.ofW (cc := cX12_beats) (maxL := 8) (ret := (Option.some FieldType.int)) (by decide) rfl ?_
  intro p e s m args below meth c s₁ B hml hv
  obtain ⟨rfl, hE, h0⟩ := hv
  have hx := B.exec
  have hb := B.bytes
  have hr := B.returns
  have hts0 := atoms_spec (ws := w_X12_beats) B.pre
  have hts : ∀ w ∈ lwG, w.before _ s = true := fun w hw => hts0 w (List.mem_cons_of_mem _ hw)
  have hown : s.vm.findClass RX12 = some m.cls := findClass_of_methodNamed B.named
  have hlocks := B.notSynchronized
  have hI : hqX D kA HB S.2 S s.heap [] := ⟨h0, Nat.le_refl _, fun _ q => absurd q List.not_mem_nil⟩
  have hl := lv_entry ([.ref a0, .int a1]) (n := 8) (Nat.le_of_ble_eq_true rfl)
  rw [lg_entry_eq]
  generalize (lg_sl ([.ref a0, .int a1]) ++ List.replicate (8 - (lg_sl ([.ref a0, .int a1])).length) Slot.unset).toArray = ls at hl ⊢
  have hl : lv_has ls 8 [(0, .ref a0), (1, .int a1)] := hl
  unfold f_X12_beats at h
  refine lv_aload_n hx hb dX12_beats_0 rfl (lv_at hl 0 rfl) ?_
  refine lv_iload_n hx hb dX12_beats_1 rfl (lv_at hl 1 rfl) ?_
  obtain ⟨g2, h⟩ := hq_g h
  obtain ⟨v4, S3, g1, h⟩ := hq_bd2 h
  refine hq_calli hI (va_runV (As := [.int a1]) (rest := []) ⟨hx, hb, hml, hown, hts⟩ (c_X12_isPlan l D kA ρ HB S a0 a1 _ g1) (cwV 1 hts (gdIn (List.forall_mem_cons.mpr ⟨kw_1133, (List.forall_mem_cons.mpr ⟨kw_1135, (List.forall_mem_cons.mpr ⟨ks_48, (List.forall_mem_cons.mpr ⟨kw_6, (fun _ h => absurd h List.not_mem_nil)⟩)⟩)⟩)⟩) kw_1136) rfl rfl rfl ye_X12_isPlan ⟨Nat.le_of_ble_eq_true rfl, Nat.le_of_ble_eq_true rfl⟩) (hq_preC hE hI g2 rfl _) rfl rfl hl.1 rfl (lv_room (Nat.le_of_ble_eq_true rfl)) dX12_beats_2 ⟨Nat.le_of_ble_eq_true rfl, Nat.le_of_ble_eq_true rfl⟩) (fun H locs hI => ?_)
  refine lv_if_ne (tgt := 10) hx hb dX12_beats_5 (by decide) (fun c5 => ?_) (fun c5 => ?_)
  · have h := hq_f h c5
    refine lv_aload_n hx hb dX12_beats_10 rfl (lv_at hl 0 rfl) ?_
    refine lv_iload_n hx hb dX12_beats_11 rfl (lv_at hl 1 rfl) ?_
    obtain ⟨g7, h⟩ := hq_g h
    obtain ⟨v9, S8, g6, h⟩ := hq_bd2 h
    refine hq_calli hI (va_runV (As := [.int a1]) (rest := []) ⟨hx, hb, hml, hown, hts⟩ (c_X12_counted l D kA ρ HB S3 a0 a1 _ g6) (cwV 1 hts (gdIn (List.forall_mem_cons.mpr ⟨kw_1137, (List.forall_mem_cons.mpr ⟨kw_1139, (List.forall_mem_cons.mpr ⟨ks_49, (List.forall_mem_cons.mpr ⟨kw_6, (fun _ h => absurd h List.not_mem_nil)⟩)⟩)⟩)⟩) kw_1140) rfl rfl rfl ye_X12_counted ⟨Nat.le_of_ble_eq_true rfl, Nat.le_of_ble_eq_true rfl⟩) (hq_preC hE hI g7 rfl _) rfl rfl hl.1 rfl (lv_room (Nat.le_of_ble_eq_true rfl)) dX12_beats_12 ⟨Nat.le_of_ble_eq_true rfl, Nat.le_of_ble_eq_true rfl⟩) (fun H locs hI => ?_)
    refine lv_istore_n (lv' := [(2, .int v9), (0, .ref a0), (1, .int a1)]) hx hb dX12_beats_15 rfl hl (by decide) rfl (fun ls hl => ?_)
    refine lv_iconst (v := 0) hx hb dX12_beats_16 (by decide) ?_
    refine lv_istore_n (lv' := [(3, .int 0), (2, .int v9), (0, .ref a0), (1, .int a1)]) hx hb dX12_beats_17 rfl hl (by decide) rfl (fun ls hl => ?_)
    refine lv_iconst (v := 0) hx hb dX12_beats_18 (by decide) ?_
    refine lv_istore (lv' := [(4, .int 0), (3, .int 0), (2, .int v9), (0, .ref a0), (1, .int a1)]) hx hb dX12_beats_19 hl (by decide) rfl (fun ls hl => ?_)
    have hK127 : ∀ (x10 : Int32) (S11 : HSt) (H : Heap) (locs : List Loc) (ls : Array Slot), f_X12_beats_K127 x10 S11 = some res → hqX D kA HB S.2 S11 H locs → lv_has ls 8 [(3, .int x10)] → W p l e rm_X12_beats s m ([.ref a0, .int a1] : List Value).toArray below meth c H locs 0 0 (MQ below (hQi D kA HB S res) ([.ref a0, .int a1] : List Value).toArray s 0 0 (hFree HB)) (F0 m 127 ls []) := by
      intro x10 S11 H locs ls h hI hl
      unfold f_X12_beats_K127 at h
      refine lv_iload_n hx hb dX12_beats_127 rfl (lv_at hl 0 rfl) ?_
      exact hq_iret hx hb hr hlocks h0 hI h dX12_beats_128
    have hL21 : ∀ (n21 : Nat) (x12 : Int32) (x13 : Int32) (S14 : HSt) (H : Heap) (locs : List Loc) (ls : Array Slot), (f_X12_beats_L21 a0 v9 f_X12_beats_K127 n21) x12 x13 S14 = some res → hqX D kA HB S.2 S14 H locs → lv_has ls 8 [(0, .ref a0), (2, .int v9), (3, .int x12), (4, .int x13)] → W p l e rm_X12_beats s m ([.ref a0, .int a1] : List Value).toArray below meth c H locs 0 0 (MQ below (hQi D kA HB S res) ([.ref a0, .int a1] : List Value).toArray s 0 0 (hFree HB)) (F0 m 21 ls []) := by
      intro n21
      induction n21 with
      | zero =>
        intro x12 x13 S14 H locs ls h
        have h : (none : Option (Int32 × HSt)) = some res := h
        cases h
      | succ n21 ih21 =>
        intro x12 x13 S14 H locs ls h hI hl
        have h : f_X12_beats_B21 a0 v9 f_X12_beats_K127 (f_X12_beats_L21 a0 v9 f_X12_beats_K127 n21) x12 x13 S14 = some res := h
        unfold f_X12_beats_B21 at h
        refine lv_iload hx hb dX12_beats_21 (lv_at hl 3 rfl) ?_
        refine lv_bipush (v := 6) hx hb dX12_beats_23 (by decide) ?_
        refine lv_icmp_ge (tgt := 127) hx hb dX12_beats_25 (by decide) (fun c15 => ?_) (fun c15 => ?_)
        · have h := hq_t h c15
          exact hK127 x12 S14 _ _ _ h hI (lv_sub hl [2] rfl)
        · have h := hq_f h c15
          refine lv_aload_n hx hb dX12_beats_28 rfl (lv_at hl 0 rfl) ?_
          refine lv_iload_n hx hb dX12_beats_29 rfl (lv_at hl 1 rfl) ?_
          refine lv_iload hx hb dX12_beats_30 (lv_at hl 3 rfl) ?_
          obtain ⟨g17, h⟩ := hq_g h
          obtain ⟨v19, S18, g16, h⟩ := hq_bd2 h
          refine hq_calli hI (va_runV (As := [.int v9, .int x13]) (rest := []) ⟨hx, hb, hml, hown, hts⟩ (c_X12_ofMan l D kA ρ HB S14 a0 v9 x13 _ g16) (cwV 2 hts (gdIn (List.forall_mem_cons.mpr ⟨kw_1169, (List.forall_mem_cons.mpr ⟨kw_1171, (List.forall_mem_cons.mpr ⟨ks_56, (List.forall_mem_cons.mpr ⟨kw_6, (fun _ h => absurd h List.not_mem_nil)⟩)⟩)⟩)⟩) kw_1172) rfl rfl rfl ye_X12_ofMan ⟨Nat.le_of_ble_eq_true rfl, Nat.le_of_ble_eq_true rfl⟩) (hq_preC hE hI g17 rfl _) rfl rfl hl.1 rfl (lv_room (Nat.le_of_ble_eq_true rfl)) dX12_beats_32 ⟨Nat.le_of_ble_eq_true rfl, Nat.le_of_ble_eq_true rfl⟩) (fun H locs hI => ?_)
          refine lv_istore (lv' := [(5, .int v19), (0, .ref a0), (2, .int v9), (3, .int x12), (4, .int x13)]) hx hb dX12_beats_35 hl (by decide) rfl (fun ls hl => ?_)
          refine lv_iconst (v := 0) hx hb dX12_beats_37 (by decide) ?_
          refine lv_istore (lv' := [(6, .int 0), (5, .int v19), (0, .ref a0), (2, .int v9), (3, .int x12), (4, .int x13)]) hx hb dX12_beats_38 hl (by decide) rfl (fun ls hl => ?_)
          refine lv_iconst (v := 0) hx hb dX12_beats_40 (by decide) ?_
          refine lv_istore (lv' := [(7, .int 0), (6, .int 0), (5, .int v19), (0, .ref a0), (2, .int v9), (3, .int x12), (4, .int x13)]) hx hb dX12_beats_41 hl (by decide) rfl (fun ls hl => ?_)
          have hK86 : ∀ (x20 : Int32) (S21 : HSt) (H : Heap) (locs : List Loc) (ls : Array Slot), (f_X12_beats_K86 a0 (f_X12_beats_L21 a0 v9 f_X12_beats_K127 n21) v19 x12 x13) x20 S21 = some res → hqX D kA HB S.2 S21 H locs → lv_has ls 8 [(0, .ref a0), (2, .int v9), (3, .int x12), (4, .int x13), (5, .int v19), (6, .int x20)] → W p l e rm_X12_beats s m ([.ref a0, .int a1] : List Value).toArray below meth c H locs 0 0 (MQ below (hQi D kA HB S res) ([.ref a0, .int a1] : List Value).toArray s 0 0 (hFree HB)) (F0 m 86 ls []) := by
            intro x20 S21 H locs ls h hI hl
            unfold f_X12_beats_K86 at h
            refine lv_iload_n hx hb dX12_beats_86 rfl (lv_at hl 2 rfl) ?_
            refine lv_iload hx hb dX12_beats_87 (lv_at hl 4 rfl) ?_
            refine lv_if_eq (tgt := 118) hx hb dX12_beats_89 (by decide) (fun c22 => ?_) (fun c22 => ?_)
            · have h := hq_t h c22
              refine lv_iconst (v := 0) hx hb dX12_beats_118 (by decide) ?_
              refine lv_ior hx hb dX12_beats_119 ?_
              refine lv_istore_n (lv' := [(3, .int (x12 ||| 0)), (0, .ref a0), (2, .int v9), (4, .int x13), (5, .int v19), (6, .int x20)]) hx hb dX12_beats_120 rfl hl (by decide) rfl (fun ls hl => ?_)
              refine lv_iinc (v := (x13 + 1)) (lv' := [(4, .int (x13 + 1)), (3, .int (x12 ||| 0)), (0, .ref a0), (2, .int v9), (5, .int v19), (6, .int x20)]) hx hb dX12_beats_121 hl (k := 3) rfl rfl (by decide) rfl (fun ls hl => ?_)
              refine lv_goto (tgt := 21) hx hb dX12_beats_124 (by decide) ?_
              exact ih21 (x12 ||| 0) (x13 + 1) S21 _ _ _ h hI (lv_sub hl [2, 3, 1, 0] rfl)
            · have h := hq_f h c22
              refine lv_iload hx hb dX12_beats_92 (lv_at hl 5 rfl) ?_
              refine lv_aload_n hx hb dX12_beats_94 rfl (lv_at hl 0 rfl) ?_
              refine lv_iload hx hb dX12_beats_95 (lv_at hl 4 rfl) ?_
              refine lv_aload_n hx hb dX12_beats_97 rfl (lv_at hl 0 rfl) ?_
              obtain ⟨b23, g24, h⟩ := hq_bind h
              obtain ⟨fs_g24, hs_g24, hv_g24⟩ := gR_at g24
              refine hq_get hx hb hts hown hE hI hs_g24 inG12 rfl 1 (by decide) kw_945 hv_g24 dX12_beats_98 ?_
              refine lv_iconst (v := 0) hx hb dX12_beats_101 (by decide) ?_
              obtain ⟨v26, g25, h⟩ := hq_bind h
              refine hq_iald hx hb hE hI g25 dX12_beats_102 ?_
              refine lv_iconst (v := 2) hx hb dX12_beats_103 (by decide) ?_
              refine lv_idiv hx hb dX12_beats_104 (by decide) ?_
              obtain ⟨g28, h⟩ := hq_g h
              obtain ⟨v30, S29, g27, h⟩ := hq_bd2 h
              refine hq_calli hI (va_runV (As := [.int v19, .int (v26 / 2)]) (rest := [.int x20, .int x12]) ⟨hx, hb, hml, hown, hts⟩ (c_X12_sumFrom l D kA ρ HB S21 a0 v19 (v26 / 2) _ g27) (cwV 2 hts (gdIn (List.forall_mem_cons.mpr ⟨kw_1223, (List.forall_mem_cons.mpr ⟨kw_1225, (List.forall_mem_cons.mpr ⟨ks_63, (List.forall_mem_cons.mpr ⟨kw_6, (fun _ h => absurd h List.not_mem_nil)⟩)⟩)⟩)⟩) kw_1226) rfl rfl rfl ye_X12_sumFrom ⟨Nat.le_of_ble_eq_true rfl, Nat.le_of_ble_eq_true rfl⟩) (hq_preC hE hI g28 rfl _) rfl rfl hl.1 rfl (lv_room (Nat.le_of_ble_eq_true rfl)) dX12_beats_105 ⟨Nat.le_of_ble_eq_true rfl, Nat.le_of_ble_eq_true rfl⟩) (fun H locs hI => ?_)
              refine lv_icmp_ge (tgt := 118) hx hb dX12_beats_108 (by decide) (fun c31 => ?_) (fun c31 => ?_)
              · have h := hq_t h c31
                refine lv_iconst (v := 0) hx hb dX12_beats_118 (by decide) ?_
                refine lv_ior hx hb dX12_beats_119 ?_
                refine lv_istore_n (lv' := [(3, .int (x12 ||| 0)), (0, .ref a0), (2, .int v9), (4, .int x13), (5, .int v19), (6, .int x20)]) hx hb dX12_beats_120 rfl hl (by decide) rfl (fun ls hl => ?_)
                refine lv_iinc (v := (x13 + 1)) (lv' := [(4, .int (x13 + 1)), (3, .int (x12 ||| 0)), (0, .ref a0), (2, .int v9), (5, .int v19), (6, .int x20)]) hx hb dX12_beats_121 hl (k := 3) rfl rfl (by decide) rfl (fun ls hl => ?_)
                refine lv_goto (tgt := 21) hx hb dX12_beats_124 (by decide) ?_
                exact ih21 (x12 ||| 0) (x13 + 1) S29 _ _ _ h hI (lv_sub hl [2, 3, 1, 0] rfl)
              · have h := hq_f h c31
                refine lv_iconst (v := 1) hx hb dX12_beats_111 (by decide) ?_
                refine lv_iload hx hb dX12_beats_112 (lv_at hl 3 rfl) ?_
                refine lv_ishl hx hb dX12_beats_114 ?_
                refine lv_goto (tgt := 119) hx hb dX12_beats_115 (by decide) ?_
                refine lv_ior hx hb dX12_beats_119 ?_
                refine lv_istore_n (lv' := [(3, .int (x12 ||| (1 <<< (x13 &&& 31)))), (0, .ref a0), (2, .int v9), (4, .int x13), (5, .int v19), (6, .int x20)]) hx hb dX12_beats_120 rfl hl (by decide) rfl (fun ls hl => ?_)
                refine lv_iinc (v := (x13 + 1)) (lv' := [(4, .int (x13 + 1)), (3, .int (x12 ||| (1 <<< (x13 &&& 31)))), (0, .ref a0), (2, .int v9), (5, .int v19), (6, .int x20)]) hx hb dX12_beats_121 hl (k := 3) rfl rfl (by decide) rfl (fun ls hl => ?_)
                refine lv_goto (tgt := 21) hx hb dX12_beats_124 (by decide) ?_
                exact ih21 (x12 ||| (1 <<< (x13 &&& 31))) (x13 + 1) S29 _ _ _ h hI (lv_sub hl [2, 3, 1, 0] rfl)
          have hL43 : ∀ (n43 : Nat) (x32 : Int32) (x33 : Int32) (S34 : HSt) (H : Heap) (locs : List Loc) (ls : Array Slot), (f_X12_beats_L43 a0 v19 (f_X12_beats_K86 a0 (f_X12_beats_L21 a0 v9 f_X12_beats_K127 n21) v19 x12 x13) n43) x32 x33 S34 = some res → hqX D kA HB S.2 S34 H locs → lv_has ls 8 [(0, .ref a0), (2, .int v9), (3, .int x12), (4, .int x13), (5, .int v19), (6, .int x32), (7, .int x33)] → W p l e rm_X12_beats s m ([.ref a0, .int a1] : List Value).toArray below meth c H locs 0 0 (MQ below (hQi D kA HB S res) ([.ref a0, .int a1] : List Value).toArray s 0 0 (hFree HB)) (F0 m 43 ls []) := by
            intro n43
            induction n43 with
            | zero =>
              intro x32 x33 S34 H locs ls h
              have h : (none : Option (Int32 × HSt)) = some res := h
              cases h
            | succ n43 ih43 =>
              intro x32 x33 S34 H locs ls h hI hl
              have h : f_X12_beats_B43 a0 v19 (f_X12_beats_K86 a0 (f_X12_beats_L21 a0 v9 f_X12_beats_K127 n21) v19 x12 x13) (f_X12_beats_L43 a0 v19 (f_X12_beats_K86 a0 (f_X12_beats_L21 a0 v9 f_X12_beats_K127 n21) v19 x12 x13) n43) x32 x33 S34 = some res := h
              unfold f_X12_beats_B43 at h
              refine lv_iload hx hb dX12_beats_43 (lv_at hl 6 rfl) ?_
              refine lv_aload_n hx hb dX12_beats_45 rfl (lv_at hl 0 rfl) ?_
              obtain ⟨b35, g36, h⟩ := hq_bind h
              obtain ⟨fs_g36, hs_g36, hv_g36⟩ := gR_at g36
              refine hq_get hx hb hts hown hE hI hs_g36 inG12 rfl 1 (by decide) kw_945 hv_g36 dX12_beats_46 ?_
              refine lv_iconst (v := 1) hx hb dX12_beats_49 (by decide) ?_
              obtain ⟨v38, g37, h⟩ := hq_bind h
              refine hq_iald hx hb hE hI g37 dX12_beats_50 ?_
              refine lv_icmp_ge (tgt := 86) hx hb dX12_beats_51 (by decide) (fun c39 => ?_) (fun c39 => ?_)
              · have h := hq_t h c39
                exact hK86 x32 S34 _ _ _ h hI (lv_sub hl [0, 1, 2, 3, 4, 5] rfl)
              · have h := hq_f h c39
                refine lv_iload hx hb dX12_beats_54 (lv_at hl 5 rfl) ?_
                refine lv_iload hx hb dX12_beats_56 (lv_at hl 4 rfl) ?_
                refine lv_iload hx hb dX12_beats_58 (lv_at hl 6 rfl) ?_
                refine lv_ishr hx hb dX12_beats_60 ?_
                refine lv_iconst (v := 1) hx hb dX12_beats_61 (by decide) ?_
                refine lv_iand hx hb dX12_beats_62 ?_
                refine lv_iconst (v := 1) hx hb dX12_beats_63 (by decide) ?_
                refine lv_icmp_ne (tgt := 76) hx hb dX12_beats_64 (by decide) (fun c40 => ?_) (fun c40 => ?_)
                · have h := hq_f h c40
                  refine lv_iconst (v := 0) hx hb dX12_beats_76 (by decide) ?_
                  refine lv_iadd hx hb dX12_beats_77 ?_
                  refine lv_istore (lv' := [(6, .int (x32 + 0)), (0, .ref a0), (2, .int v9), (3, .int x12), (4, .int x13), (5, .int v19), (7, .int x33)]) hx hb dX12_beats_78 hl (by decide) rfl (fun ls hl => ?_)
                  refine lv_iinc (v := (x33 + 1)) (lv' := [(7, .int (x33 + 1)), (6, .int (x32 + 0)), (0, .ref a0), (2, .int v9), (3, .int x12), (4, .int x13), (5, .int v19)]) hx hb dX12_beats_80 hl (k := 6) rfl rfl (by decide) rfl (fun ls hl => ?_)
                  refine lv_goto (tgt := 43) hx hb dX12_beats_83 (by decide) ?_
                  exact ih43 (x32 + 0) (x33 + 1) S34 _ _ _ h hI (lv_sub hl [2, 3, 4, 5, 6, 1, 0] rfl)
                · have h := hq_t h c40
                  refine lv_aload_n hx hb dX12_beats_67 rfl (lv_at hl 0 rfl) ?_
                  refine lv_iload hx hb dX12_beats_68 (lv_at hl 6 rfl) ?_
                  obtain ⟨g42, h⟩ := hq_g h
                  obtain ⟨v44, S43, g41, h⟩ := hq_bd2 h
                  refine hq_calli hI (va_runV (As := [.int x33]) (rest := [.int x32]) ⟨hx, hb, hml, hown, hts⟩ (c_X12_nearOf l D kA ρ HB S34 a0 x33 _ g41) (cwV 1 hts (gdIn (List.forall_mem_cons.mpr ⟨kw_1036, (List.forall_mem_cons.mpr ⟨kw_1038, (List.forall_mem_cons.mpr ⟨ks_32, (List.forall_mem_cons.mpr ⟨kw_6, (fun _ h => absurd h List.not_mem_nil)⟩)⟩)⟩)⟩) kw_1039) rfl rfl rfl ye_X12_nearOf ⟨Nat.le_of_ble_eq_true rfl, Nat.le_of_ble_eq_true rfl⟩) (hq_preC hE hI g42 rfl _) rfl rfl hl.1 rfl (lv_room (Nat.le_of_ble_eq_true rfl)) dX12_beats_70 ⟨Nat.le_of_ble_eq_true rfl, Nat.le_of_ble_eq_true rfl⟩) (fun H locs hI => ?_)
                  refine lv_goto (tgt := 77) hx hb dX12_beats_73 (by decide) ?_
                  refine lv_iadd hx hb dX12_beats_77 ?_
                  refine lv_istore (lv' := [(6, .int (x32 + v44)), (0, .ref a0), (2, .int v9), (3, .int x12), (4, .int x13), (5, .int v19), (7, .int x33)]) hx hb dX12_beats_78 hl (by decide) rfl (fun ls hl => ?_)
                  refine lv_iinc (v := (x33 + 1)) (lv' := [(7, .int (x33 + 1)), (6, .int (x32 + v44)), (0, .ref a0), (2, .int v9), (3, .int x12), (4, .int x13), (5, .int v19)]) hx hb dX12_beats_80 hl (k := 6) rfl rfl (by decide) rfl (fun ls hl => ?_)
                  refine lv_goto (tgt := 43) hx hb dX12_beats_83 (by decide) ?_
                  exact ih43 (x32 + v44) (x33 + 1) S43 _ _ _ h hI (lv_sub hl [2, 3, 4, 5, 6, 1, 0] rfl)
          exact hL43 FU 0 0 S18 _ _ _ h hI (lv_sub hl [3, 4, 5, 6, 2, 1, 0] rfl)
    exact hL21 FU 0 0 S8 _ _ _ h hI (lv_sub hl [3, 2, 1, 0] rfl)
  · have h := hq_t h c5
    refine lv_iconst (v := (-1)) hx hb dX12_beats_8 (by decide) ?_
    exact hq_iret hx hb hr hlocks h0 hI h dX12_beats_9
-- RodDipsModel.otherwise(I)I
theorem dX12_otherwise_0 : decode cX12_otherwise 0 = .ok (.aload_n 0, 1) := by decide +kernel
theorem dX12_otherwise_1 : decode cX12_otherwise 1 = .ok (.iload_n 1, 1) := by decide +kernel
theorem dX12_otherwise_2 : decode cX12_otherwise 2 = .ok (.invokevirtual 177, 3) := by decide +kernel
theorem dX12_otherwise_5 : decode cX12_otherwise 5 = .ok (.ifCond .ne 5, 3) := by decide +kernel
theorem dX12_otherwise_8 : decode cX12_otherwise 8 = .ok (.iconst (-1), 1) := by decide +kernel
theorem dX12_otherwise_9 : decode cX12_otherwise 9 = .ok (.ireturn, 1) := by decide +kernel
theorem dX12_otherwise_10 : decode cX12_otherwise 10 = .ok (.aload_n 0, 1) := by decide +kernel
theorem dX12_otherwise_11 : decode cX12_otherwise 11 = .ok (.iload_n 1, 1) := by decide +kernel
theorem dX12_otherwise_12 : decode cX12_otherwise 12 = .ok (.invokevirtual 180, 3) := by decide +kernel
theorem dX12_otherwise_15 : decode cX12_otherwise 15 = .ok (.istore_n 2, 1) := by decide +kernel
theorem dX12_otherwise_16 : decode cX12_otherwise 16 = .ok (.iload_n 2, 1) := by decide +kernel
theorem dX12_otherwise_17 : decode cX12_otherwise 17 = .ok (.ifCond .ne 6, 3) := by decide +kernel
theorem dX12_otherwise_20 : decode cX12_otherwise 20 = .ok (.bipush (-5), 2) := by decide +kernel
theorem dX12_otherwise_22 : decode cX12_otherwise 22 = .ok (.ireturn, 1) := by decide +kernel
theorem dX12_otherwise_23 : decode cX12_otherwise 23 = .ok (.iconst (-1), 1) := by decide +kernel
theorem dX12_otherwise_24 : decode cX12_otherwise 24 = .ok (.istore_n 3, 1) := by decide +kernel
theorem dX12_otherwise_25 : decode cX12_otherwise 25 = .ok (.iconst 0, 1) := by decide +kernel
theorem dX12_otherwise_26 : decode cX12_otherwise 26 = .ok (.istore 4, 2) := by decide +kernel
theorem dX12_otherwise_28 : decode cX12_otherwise 28 = .ok (.iconst 0, 1) := by decide +kernel
theorem dX12_otherwise_29 : decode cX12_otherwise 29 = .ok (.istore 5, 2) := by decide +kernel
theorem dX12_otherwise_31 : decode cX12_otherwise 31 = .ok (.iload 5, 2) := by decide +kernel
theorem dX12_otherwise_33 : decode cX12_otherwise 33 = .ok (.aload_n 0, 1) := by decide +kernel
theorem dX12_otherwise_34 : decode cX12_otherwise 34 = .ok (.getfield 9, 3) := by decide +kernel
theorem dX12_otherwise_37 : decode cX12_otherwise 37 = .ok (.iconst 0, 1) := by decide +kernel
theorem dX12_otherwise_38 : decode cX12_otherwise 38 = .ok (.iaload, 1) := by decide +kernel
theorem dX12_otherwise_39 : decode cX12_otherwise 39 = .ok (.if_icmp .ge 117, 3) := by decide +kernel
theorem dX12_otherwise_42 : decode cX12_otherwise 42 = .ok (.iconst 0, 1) := by decide +kernel
theorem dX12_otherwise_43 : decode cX12_otherwise 43 = .ok (.istore 6, 2) := by decide +kernel
theorem dX12_otherwise_45 : decode cX12_otherwise 45 = .ok (.iconst 0, 1) := by decide +kernel
theorem dX12_otherwise_46 : decode cX12_otherwise 46 = .ok (.istore 7, 2) := by decide +kernel
theorem dX12_otherwise_48 : decode cX12_otherwise 48 = .ok (.iload 7, 2) := by decide +kernel
theorem dX12_otherwise_50 : decode cX12_otherwise 50 = .ok (.aload_n 0, 1) := by decide +kernel
theorem dX12_otherwise_51 : decode cX12_otherwise 51 = .ok (.getfield 9, 3) := by decide +kernel
theorem dX12_otherwise_54 : decode cX12_otherwise 54 = .ok (.iconst 1, 1) := by decide +kernel
theorem dX12_otherwise_55 : decode cX12_otherwise 55 = .ok (.iaload, 1) := by decide +kernel
theorem dX12_otherwise_56 : decode cX12_otherwise 56 = .ok (.if_icmp .ge 59, 3) := by decide +kernel
theorem dX12_otherwise_59 : decode cX12_otherwise 59 = .ok (.iload 6, 2) := by decide +kernel
theorem dX12_otherwise_61 : decode cX12_otherwise 61 = .ok (.iload_n 2, 1) := by decide +kernel
theorem dX12_otherwise_62 : decode cX12_otherwise 62 = .ok (.iload 7, 2) := by decide +kernel
theorem dX12_otherwise_64 : decode cX12_otherwise 64 = .ok (.ishr, 1) := by decide +kernel
theorem dX12_otherwise_65 : decode cX12_otherwise 65 = .ok (.iconst 1, 1) := by decide +kernel
theorem dX12_otherwise_66 : decode cX12_otherwise 66 = .ok (.iand, 1) := by decide +kernel
theorem dX12_otherwise_67 : decode cX12_otherwise 67 = .ok (.iconst 1, 1) := by decide +kernel
theorem dX12_otherwise_68 : decode cX12_otherwise 68 = .ok (.if_icmp .ne 37, 3) := by decide +kernel
theorem dX12_otherwise_71 : decode cX12_otherwise 71 = .ok (.aload_n 0, 1) := by decide +kernel
theorem dX12_otherwise_72 : decode cX12_otherwise 72 = .ok (.getfield 9, 3) := by decide +kernel
theorem dX12_otherwise_75 : decode cX12_otherwise 75 = .ok (.sipush 220, 3) := by decide +kernel
theorem dX12_otherwise_78 : decode cX12_otherwise 78 = .ok (.iload 7, 2) := by decide +kernel
theorem dX12_otherwise_80 : decode cX12_otherwise 80 = .ok (.iadd, 1) := by decide +kernel
theorem dX12_otherwise_81 : decode cX12_otherwise 81 = .ok (.iaload, 1) := by decide +kernel
theorem dX12_otherwise_82 : decode cX12_otherwise 82 = .ok (.iload 5, 2) := by decide +kernel
theorem dX12_otherwise_84 : decode cX12_otherwise 84 = .ok (.isub, 1) := by decide +kernel
theorem dX12_otherwise_85 : decode cX12_otherwise 85 = .ok (.invokestatic 53, 3) := by decide +kernel
theorem dX12_otherwise_88 : decode cX12_otherwise 88 = .ok (.aload_n 0, 1) := by decide +kernel
theorem dX12_otherwise_89 : decode cX12_otherwise 89 = .ok (.getfield 9, 3) := by decide +kernel
theorem dX12_otherwise_92 : decode cX12_otherwise 92 = .ok (.sipush 310, 3) := by decide +kernel
theorem dX12_otherwise_95 : decode cX12_otherwise 95 = .ok (.iload_n 1, 1) := by decide +kernel
theorem dX12_otherwise_96 : decode cX12_otherwise 96 = .ok (.iadd, 1) := by decide +kernel
theorem dX12_otherwise_97 : decode cX12_otherwise 97 = .ok (.iaload, 1) := by decide +kernel
theorem dX12_otherwise_98 : decode cX12_otherwise 98 = .ok (.if_icmp .gt 7, 3) := by decide +kernel
theorem dX12_otherwise_101 : decode cX12_otherwise 101 = .ok (.iconst 1, 1) := by decide +kernel
theorem dX12_otherwise_102 : decode cX12_otherwise 102 = .ok (.goto 4, 3) := by decide +kernel
theorem dX12_otherwise_105 : decode cX12_otherwise 105 = .ok (.iconst 0, 1) := by decide +kernel
theorem dX12_otherwise_106 : decode cX12_otherwise 106 = .ok (.iadd, 1) := by decide +kernel
theorem dX12_otherwise_107 : decode cX12_otherwise 107 = .ok (.istore 6, 2) := by decide +kernel
theorem dX12_otherwise_109 : decode cX12_otherwise 109 = .ok (.iinc 7 1, 3) := by decide +kernel
theorem dX12_otherwise_112 : decode cX12_otherwise 112 = .ok (.goto (-64), 3) := by decide +kernel
theorem dX12_otherwise_115 : decode cX12_otherwise 115 = .ok (.iload_n 3, 1) := by decide +kernel
theorem dX12_otherwise_116 : decode cX12_otherwise 116 = .ok (.iconst (-1), 1) := by decide +kernel
theorem dX12_otherwise_117 : decode cX12_otherwise 117 = .ok (.if_icmp .eq 10, 3) := by decide +kernel
theorem dX12_otherwise_120 : decode cX12_otherwise 120 = .ok (.iload 6, 2) := by decide +kernel
theorem dX12_otherwise_122 : decode cX12_otherwise 122 = .ok (.iload 4, 2) := by decide +kernel
theorem dX12_otherwise_124 : decode cX12_otherwise 124 = .ok (.if_icmp .le 8, 3) := by decide +kernel
theorem dX12_otherwise_127 : decode cX12_otherwise 127 = .ok (.iload 5, 2) := by decide +kernel
theorem dX12_otherwise_129 : decode cX12_otherwise 129 = .ok (.goto 4, 3) := by decide +kernel
theorem dX12_otherwise_132 : decode cX12_otherwise 132 = .ok (.iload_n 3, 1) := by decide +kernel
theorem dX12_otherwise_133 : decode cX12_otherwise 133 = .ok (.istore_n 3, 1) := by decide +kernel
theorem dX12_otherwise_134 : decode cX12_otherwise 134 = .ok (.iload 6, 2) := by decide +kernel
theorem dX12_otherwise_136 : decode cX12_otherwise 136 = .ok (.iload 4, 2) := by decide +kernel
theorem dX12_otherwise_138 : decode cX12_otherwise 138 = .ok (.if_icmp .le 8, 3) := by decide +kernel
theorem dX12_otherwise_141 : decode cX12_otherwise 141 = .ok (.iload 6, 2) := by decide +kernel
theorem dX12_otherwise_143 : decode cX12_otherwise 143 = .ok (.goto 5, 3) := by decide +kernel
theorem dX12_otherwise_146 : decode cX12_otherwise 146 = .ok (.iload 4, 2) := by decide +kernel
theorem dX12_otherwise_148 : decode cX12_otherwise 148 = .ok (.istore 4, 2) := by decide +kernel
theorem dX12_otherwise_150 : decode cX12_otherwise 150 = .ok (.iinc 5 1, 3) := by decide +kernel
theorem dX12_otherwise_153 : decode cX12_otherwise 153 = .ok (.goto (-122), 3) := by decide +kernel
theorem dX12_otherwise_156 : decode cX12_otherwise 156 = .ok (.iload_n 3, 1) := by decide +kernel
theorem dX12_otherwise_157 : decode cX12_otherwise 157 = .ok (.ireturn, 1) := by decide +kernel
def f_X12_otherwise_K156 (x11 : Int32) (S12 : HSt) : Option (Int32 × HSt) := some (x11, S12)
def f_X12_otherwise_J133 (kb31 : (Int32 → Int32 → Int32 → HSt → Option (Int32 × HSt))) (x14 : Int32) (x15 : Int32) (x22 : Int32) (y24 : Int32) (S25 : HSt) : Option (Int32 × HSt) := if x22 ≤ x14 then (kb31 y24 x14 (x15 + 1) S25) else (kb31 y24 x22 (x15 + 1) S25)
def f_X12_otherwise_K115 (kb31 : (Int32 → Int32 → Int32 → HSt → Option (Int32 × HSt))) (x13 : Int32) (x14 : Int32) (x15 : Int32) (x22 : Int32) (S23 : HSt) : Option (Int32 × HSt) := if x13 = (-1) then ((f_X12_otherwise_J133 kb31 x14 x15 x22) x15 S23) else (if x22 ≤ x14 then ((f_X12_otherwise_J133 kb31 x14 x15 x22) x13 S23) else ((f_X12_otherwise_J133 kb31 x14 x15 x22) x15 S23))
def f_X12_otherwise_B48 (a0 : Nat) (a1 : Int32) (v9 : Int32) (x15 : Int32) (kx115 : (Int32 → HSt → Option (Int32 × HSt))) (kb48 : (Int32 → Int32 → HSt → Option (Int32 × HSt))) (x29 : Int32) (x30 : Int32) (S31 : HSt) : Option (Int32 × HSt) := (gR S31 a0 12 1).bind fun b32 => (aI S31 b32 0 1).bind fun v35 => if v35 ≤ x30 then (kx115 x29 S31) else (if ((v9 >>> (x30 &&& 31)) &&& 1) = 1 then ((gR S31 a0 12 1).bind fun b38 => (aI S31 b38 0 (220 + x30)).bind fun v41 => bd2 (f_X12_size S31 (v41 - x15)) fun v44 S43 => (gR S43 a0 12 1).bind fun b45 => (aI S43 b45 0 (310 + a1)).bind fun v48 => if v48 < v44 then (kb48 (x29 + 0) (x30 + 1) S43) else (kb48 (x29 + 1) (x30 + 1) S43)) else (kb48 (x29 + 0) (x30 + 1) S31))
def f_X12_otherwise_L48 (a0 : Nat) (a1 : Int32) (v9 : Int32) (x15 : Int32) (kx115 : (Int32 → HSt → Option (Int32 × HSt))) : Nat → Int32 → Int32 → HSt → Option (Int32 × HSt)
  | 0, _, _, _ => none
  | n + 1, x29, x30, S => f_X12_otherwise_B48 a0 a1 v9 x15 kx115 (f_X12_otherwise_L48 a0 a1 v9 x15 kx115 n) x29 x30 S
def f_X12_otherwise_B31 (a0 : Nat) (a1 : Int32) (v9 : Int32) (kx156 : (Int32 → HSt → Option (Int32 × HSt))) (kb31 : (Int32 → Int32 → Int32 → HSt → Option (Int32 × HSt))) (x13 : Int32) (x14 : Int32) (x15 : Int32) (S16 : HSt) : Option (Int32 × HSt) := (gR S16 a0 12 1).bind fun b17 => (aI S16 b17 0 0).bind fun v20 => if v20 ≤ x15 then (kx156 x13 S16) else ((f_X12_otherwise_L48 a0 a1 v9 x15 (f_X12_otherwise_K115 kb31 x13 x14 x15) FU) 0 0 S16)
def f_X12_otherwise_L31 (a0 : Nat) (a1 : Int32) (v9 : Int32) (kx156 : (Int32 → HSt → Option (Int32 × HSt))) : Nat → Int32 → Int32 → Int32 → HSt → Option (Int32 × HSt)
  | 0, _, _, _, _ => none
  | n + 1, x13, x14, x15, S => f_X12_otherwise_B31 a0 a1 v9 kx156 (f_X12_otherwise_L31 a0 a1 v9 kx156 n) x13 x14 x15 S
def f_X12_otherwise (S : HSt) (a0 : Nat) (a1 : Int32) : Option (Int32 × HSt) := if gC S a0 = some 12 then (bd2 (f_X12_isPlan S a0 a1) fun v4 S3 => if v4 = 0 then (some ((-1), S3)) else (if gC S3 a0 = some 12 then (bd2 (f_X12_counted S3 a0 a1) fun v9 S8 => if v9 = 0 then (some ((-5), S8)) else ((f_X12_otherwise_L31 a0 a1 v9 f_X12_otherwise_K156 FU) (-1) 0 0 S8)) else none)) else none
abbrev rm_X12_otherwise : Room := { frames := 6, cells := 0, slots := 0, locals := 137 }
abbrev w_X12_otherwise : List Cond := Cond.code yX12_otherwise cX12_otherwise 8 (Option.some FieldType.int) :: lwG
theorem yd_X12_otherwise : yX12_otherwise.cls ≠ "java/lang/invoke/MethodHandle" ∧ yX12_otherwise.cls ≠ "java/lang/invoke/VarHandle" ∧ (parseMethodDescriptor yX12_otherwise.desc).map (fun d => d.parameters.length) = some 1 := by decide +kernel
theorem ye_X12_otherwise : yX12_otherwise.cls = RX12 ∧ yX12_otherwise.cls ≠ "java/lang/invoke/MethodHandle" ∧ yX12_otherwise.cls ≠ "java/lang/invoke/VarHandle" ∧ (parseMethodDescriptor yX12_otherwise.desc).map (fun d => d.parameters.length) = some 1 := by decide +kernel
set_option maxHeartbeats 4000000 in
set_option maxRecDepth 100000 in
theorem c_X12_otherwise (l : Launch) (D : va_G) (kA ρ : Nat → Nat) (HB : Heap) (S : HSt) (a0 : Nat) (a1 : Int32) (res : Int32 × HSt) (h : f_X12_otherwise S a0 a1 = some res) : Met l yX12_otherwise w_X12_otherwise rm_X12_otherwise (hPc D kA ρ HB S [.ref a0, .int a1]) (hQi D kA HB S res) 0 0 (hFree HB) := by
  refine Met.ofW (cc := cX12_otherwise) (maxL := 8) (ret := (Option.some FieldType.int)) (by decide) rfl ?_
  intro p e s m args below meth c s₁ B hml hv
  obtain ⟨rfl, hE, h0⟩ := hv
  have hx := B.exec
  have hb := B.bytes
  have hr := B.returns
  have hts0 := atoms_spec (ws := w_X12_otherwise) B.pre
  have hts : ∀ w ∈ lwG, w.before _ s = true := fun w hw => hts0 w (List.mem_cons_of_mem _ hw)
  have hown : s.vm.findClass RX12 = some m.cls := findClass_of_methodNamed B.named
  have hlocks := B.notSynchronized
  have hI : hqX D kA HB S.2 S s.heap [] := ⟨h0, Nat.le_refl _, fun _ q => absurd q List.not_mem_nil⟩
  have hl := lv_entry ([.ref a0, .int a1]) (n := 8) (Nat.le_of_ble_eq_true rfl)
  rw [lg_entry_eq]
  generalize (lg_sl ([.ref a0, .int a1]) ++ List.replicate (8 - (lg_sl ([.ref a0, .int a1])).length) Slot.unset).toArray = ls at hl ⊢
  have hl : lv_has ls 8 [(0, .ref a0), (1, .int a1)] := hl
  unfold f_X12_otherwise at h
  refine lv_aload_n hx hb dX12_otherwise_0 rfl (lv_at hl 0 rfl) ?_
  refine lv_iload_n hx hb dX12_otherwise_1 rfl (lv_at hl 1 rfl) ?_
  obtain ⟨g2, h⟩ := hq_g h
  obtain ⟨v4, S3, g1, h⟩ := hq_bd2 h
  refine hq_calli hI (va_runV (As := [.int a1]) (rest := []) ⟨hx, hb, hml, hown, hts⟩ (c_X12_isPlan l D kA ρ HB S a0 a1 _ g1) (cwV 1 hts (gdIn (List.forall_mem_cons.mpr ⟨kw_1133, (List.forall_mem_cons.mpr ⟨kw_1135, (List.forall_mem_cons.mpr ⟨ks_48, (List.forall_mem_cons.mpr ⟨kw_6, (fun _ h => absurd h List.not_mem_nil)⟩)⟩)⟩)⟩) kw_1136) rfl rfl rfl ye_X12_isPlan ⟨Nat.le_of_ble_eq_true rfl, Nat.le_of_ble_eq_true rfl⟩) (hq_preC hE hI g2 rfl _) rfl rfl hl.1 rfl (lv_room (Nat.le_of_ble_eq_true rfl)) dX12_otherwise_2 ⟨Nat.le_of_ble_eq_true rfl, Nat.le_of_ble_eq_true rfl⟩) (fun H locs hI => ?_)
  refine lv_if_ne (tgt := 10) hx hb dX12_otherwise_5 (by decide) (fun c5 => ?_) (fun c5 => ?_)
  · have h := hq_f h c5
    refine lv_aload_n hx hb dX12_otherwise_10 rfl (lv_at hl 0 rfl) ?_
    refine lv_iload_n hx hb dX12_otherwise_11 rfl (lv_at hl 1 rfl) ?_
    obtain ⟨g7, h⟩ := hq_g h
    obtain ⟨v9, S8, g6, h⟩ := hq_bd2 h
    refine hq_calli hI (va_runV (As := [.int a1]) (rest := []) ⟨hx, hb, hml, hown, hts⟩ (c_X12_counted l D kA ρ HB S3 a0 a1 _ g6) (cwV 1 hts (gdIn (List.forall_mem_cons.mpr ⟨kw_1137, (List.forall_mem_cons.mpr ⟨kw_1139, (List.forall_mem_cons.mpr ⟨ks_49, (List.forall_mem_cons.mpr ⟨kw_6, (fun _ h => absurd h List.not_mem_nil)⟩)⟩)⟩)⟩) kw_1140) rfl rfl rfl ye_X12_counted ⟨Nat.le_of_ble_eq_true rfl, Nat.le_of_ble_eq_true rfl⟩) (hq_preC hE hI g7 rfl _) rfl rfl hl.1 rfl (lv_room (Nat.le_of_ble_eq_true rfl)) dX12_otherwise_12 ⟨Nat.le_of_ble_eq_true rfl, Nat.le_of_ble_eq_true rfl⟩) (fun H locs hI => ?_)
    refine lv_istore_n (lv' := [(2, .int v9), (0, .ref a0), (1, .int a1)]) hx hb dX12_otherwise_15 rfl hl (by decide) rfl (fun ls hl => ?_)
    refine lv_iload_n hx hb dX12_otherwise_16 rfl (lv_at hl 0 rfl) ?_
    refine lv_if_ne (tgt := 23) hx hb dX12_otherwise_17 (by decide) (fun c10 => ?_) (fun c10 => ?_)
    · have h := hq_f h c10
      refine lv_iconst (v := (-1)) hx hb dX12_otherwise_23 (by decide) ?_
      refine lv_istore_n (lv' := [(3, .int (-1)), (2, .int v9), (0, .ref a0), (1, .int a1)]) hx hb dX12_otherwise_24 rfl hl (by decide) rfl (fun ls hl => ?_)
      refine lv_iconst (v := 0) hx hb dX12_otherwise_25 (by decide) ?_
      refine lv_istore (lv' := [(4, .int 0), (3, .int (-1)), (2, .int v9), (0, .ref a0), (1, .int a1)]) hx hb dX12_otherwise_26 hl (by decide) rfl (fun ls hl => ?_)
      refine lv_iconst (v := 0) hx hb dX12_otherwise_28 (by decide) ?_
      refine lv_istore (lv' := [(5, .int 0), (4, .int 0), (3, .int (-1)), (2, .int v9), (0, .ref a0), (1, .int a1)]) hx hb dX12_otherwise_29 hl (by decide) rfl (fun ls hl => ?_)
      have hK156 : ∀ (x11 : Int32) (S12 : HSt) (H : Heap) (locs : List Loc) (ls : Array Slot), f_X12_otherwise_K156 x11 S12 = some res → hqX D kA HB S.2 S12 H locs → lv_has ls 8 [(3, .int x11)] → W p l e rm_X12_otherwise s m ([.ref a0, .int a1] : List Value).toArray below meth c H locs 0 0 (MQ below (hQi D kA HB S res) ([.ref a0, .int a1] : List Value).toArray s 0 0 (hFree HB)) (F0 m 156 ls []) := by
        intro x11 S12 H locs ls h hI hl
        unfold f_X12_otherwise_K156 at h
        refine lv_iload_n hx hb dX12_otherwise_156 rfl (lv_at hl 0 rfl) ?_
        exact hq_iret hx hb hr hlocks h0 hI h dX12_otherwise_157
      have hL31 : ∀ (n31 : Nat) (x13 : Int32) (x14 : Int32) (x15 : Int32) (S16 : HSt) (H : Heap) (locs : List Loc) (ls : Array Slot), (f_X12_otherwise_L31 a0 a1 v9 f_X12_otherwise_K156 n31) x13 x14 x15 S16 = some res → hqX D kA HB S.2 S16 H locs → lv_has ls 8 [(0, .ref a0), (1, .int a1), (2, .int v9), (3, .int x13), (4, .int x14), (5, .int x15)] → W p l e rm_X12_otherwise s m ([.ref a0, .int a1] : List Value).toArray below meth c H locs 0 0 (MQ below (hQi D kA HB S res) ([.ref a0, .int a1] : List Value).toArray s 0 0 (hFree HB)) (F0 m 31 ls []) := by
        intro n31
        induction n31 with
        | zero =>
          intro x13 x14 x15 S16 H locs ls h
          have h : (none : Option (Int32 × HSt)) = some res := h
          cases h
        | succ n31 ih31 =>
          intro x13 x14 x15 S16 H locs ls h hI hl
          have h : f_X12_otherwise_B31 a0 a1 v9 f_X12_otherwise_K156 (f_X12_otherwise_L31 a0 a1 v9 f_X12_otherwise_K156 n31) x13 x14 x15 S16 = some res := h
          unfold f_X12_otherwise_B31 at h
          refine lv_iload hx hb dX12_otherwise_31 (lv_at hl 5 rfl) ?_
          refine lv_aload_n hx hb dX12_otherwise_33 rfl (lv_at hl 0 rfl) ?_
          obtain ⟨b17, g18, h⟩ := hq_bind h
          obtain ⟨fs_g18, hs_g18, hv_g18⟩ := gR_at g18
          refine hq_get hx hb hts hown hE hI hs_g18 inG12 rfl 1 (by decide) kw_945 hv_g18 dX12_otherwise_34 ?_
          refine lv_iconst (v := 0) hx hb dX12_otherwise_37 (by decide) ?_
          obtain ⟨v20, g19, h⟩ := hq_bind h
          refine hq_iald hx hb hE hI g19 dX12_otherwise_38 ?_
          refine lv_icmp_ge (tgt := 156) hx hb dX12_otherwise_39 (by decide) (fun c21 => ?_) (fun c21 => ?_)
          · have h := hq_t h c21
            exact hK156 x13 S16 _ _ _ h hI (lv_sub hl [3] rfl)
          · have h := hq_f h c21
            refine lv_iconst (v := 0) hx hb dX12_otherwise_42 (by decide) ?_
            refine lv_istore (lv' := [(6, .int 0), (0, .ref a0), (1, .int a1), (2, .int v9), (3, .int x13), (4, .int x14), (5, .int x15)]) hx hb dX12_otherwise_43 hl (by decide) rfl (fun ls hl => ?_)
            refine lv_iconst (v := 0) hx hb dX12_otherwise_45 (by decide) ?_
            refine lv_istore (lv' := [(7, .int 0), (6, .int 0), (0, .ref a0), (1, .int a1), (2, .int v9), (3, .int x13), (4, .int x14), (5, .int x15)]) hx hb dX12_otherwise_46 hl (by decide) rfl (fun ls hl => ?_)
            have hK115 : ∀ (x22 : Int32) (S23 : HSt) (H : Heap) (locs : List Loc) (ls : Array Slot), (f_X12_otherwise_K115 (f_X12_otherwise_L31 a0 a1 v9 f_X12_otherwise_K156 n31) x13 x14 x15) x22 S23 = some res → hqX D kA HB S.2 S23 H locs → lv_has ls 8 [(0, .ref a0), (1, .int a1), (2, .int v9), (3, .int x13), (4, .int x14), (5, .int x15), (6, .int x22)] → W p l e rm_X12_otherwise s m ([.ref a0, .int a1] : List Value).toArray below meth c H locs 0 0 (MQ below (hQi D kA HB S res) ([.ref a0, .int a1] : List Value).toArray s 0 0 (hFree HB)) (F0 m 115 ls []) := by
              intro x22 S23 H locs ls h hI hl
              unfold f_X12_otherwise_K115 at h
              refine lv_iload_n hx hb dX12_otherwise_115 rfl (lv_at hl 3 rfl) ?_
              refine lv_iconst (v := (-1)) hx hb dX12_otherwise_116 (by decide) ?_
              have hJ133 : ∀ (y24 : Int32) (S25 : HSt) (H : Heap) (locs : List Loc) (ls : Array Slot), (f_X12_otherwise_J133 (f_X12_otherwise_L31 a0 a1 v9 f_X12_otherwise_K156 n31) x14 x15 x22) y24 S25 = some res → hqX D kA HB S.2 S25 H locs → lv_has ls 8 [(0, .ref a0), (1, .int a1), (2, .int v9), (4, .int x14), (5, .int x15), (6, .int x22)] → W p l e rm_X12_otherwise s m ([.ref a0, .int a1] : List Value).toArray below meth c H locs 0 0 (MQ below (hQi D kA HB S res) ([.ref a0, .int a1] : List Value).toArray s 0 0 (hFree HB)) (F0 m 133 ls [.int y24]) := by
                intro y24 S25 H locs ls h hI hl
                unfold f_X12_otherwise_J133 at h
                refine lv_istore_n (lv' := [(3, .int y24), (0, .ref a0), (1, .int a1), (2, .int v9), (4, .int x14), (5, .int x15), (6, .int x22)]) hx hb dX12_otherwise_133 rfl hl (by decide) rfl (fun ls hl => ?_)
                refine lv_iload hx hb dX12_otherwise_134 (lv_at hl 6 rfl) ?_
                refine lv_iload hx hb dX12_otherwise_136 (lv_at hl 4 rfl) ?_
                refine lv_icmp_le (tgt := 146) hx hb dX12_otherwise_138 (by decide) (fun c26 => ?_) (fun c26 => ?_)
                · have h := hq_t h c26
                  refine lv_iload hx hb dX12_otherwise_146 (lv_at hl 4 rfl) ?_
                  refine lv_istore (lv' := [(4, .int x14), (3, .int y24), (0, .ref a0), (1, .int a1), (2, .int v9), (5, .int x15), (6, .int x22)]) hx hb dX12_otherwise_148 hl (by decide) rfl (fun ls hl => ?_)
                  refine lv_iinc (v := (x15 + 1)) (lv' := [(5, .int (x15 + 1)), (4, .int x14), (3, .int y24), (0, .ref a0), (1, .int a1), (2, .int v9), (6, .int x22)]) hx hb dX12_otherwise_150 hl (k := 5) rfl rfl (by decide) rfl (fun ls hl => ?_)
                  refine lv_goto (tgt := 31) hx hb dX12_otherwise_153 (by decide) ?_
                  exact ih31 y24 x14 (x15 + 1) S25 _ _ _ h hI (lv_sub hl [3, 4, 5, 2, 1, 0] rfl)
                · have h := hq_f h c26
                  refine lv_iload hx hb dX12_otherwise_141 (lv_at hl 6 rfl) ?_
                  refine lv_goto (tgt := 148) hx hb dX12_otherwise_143 (by decide) ?_
                  refine lv_istore (lv' := [(4, .int x22), (3, .int y24), (0, .ref a0), (1, .int a1), (2, .int v9), (5, .int x15), (6, .int x22)]) hx hb dX12_otherwise_148 hl (by decide) rfl (fun ls hl => ?_)
                  refine lv_iinc (v := (x15 + 1)) (lv' := [(5, .int (x15 + 1)), (4, .int x22), (3, .int y24), (0, .ref a0), (1, .int a1), (2, .int v9), (6, .int x22)]) hx hb dX12_otherwise_150 hl (k := 5) rfl rfl (by decide) rfl (fun ls hl => ?_)
                  refine lv_goto (tgt := 31) hx hb dX12_otherwise_153 (by decide) ?_
                  exact ih31 y24 x22 (x15 + 1) S25 _ _ _ h hI (lv_sub hl [3, 4, 5, 2, 1, 0] rfl)
              refine lv_icmp_eq (tgt := 127) hx hb dX12_otherwise_117 (by decide) (fun c27 => ?_) (fun c27 => ?_)
              · have h := hq_t h c27
                refine lv_iload hx hb dX12_otherwise_127 (lv_at hl 5 rfl) ?_
                refine lv_goto (tgt := 133) hx hb dX12_otherwise_129 (by decide) ?_
                exact hJ133 x15 S23 _ _ _ h hI (lv_sub hl [0, 1, 2, 4, 5, 6] rfl)
              · have h := hq_f h c27
                refine lv_iload hx hb dX12_otherwise_120 (lv_at hl 6 rfl) ?_
                refine lv_iload hx hb dX12_otherwise_122 (lv_at hl 4 rfl) ?_
                refine lv_icmp_le (tgt := 132) hx hb dX12_otherwise_124 (by decide) (fun c28 => ?_) (fun c28 => ?_)
                · have h := hq_t h c28
                  refine lv_iload_n hx hb dX12_otherwise_132 rfl (lv_at hl 3 rfl) ?_
                  exact hJ133 x13 S23 _ _ _ h hI (lv_sub hl [0, 1, 2, 4, 5, 6] rfl)
                · have h := hq_f h c28
                  refine lv_iload hx hb dX12_otherwise_127 (lv_at hl 5 rfl) ?_
                  refine lv_goto (tgt := 133) hx hb dX12_otherwise_129 (by decide) ?_
                  exact hJ133 x15 S23 _ _ _ h hI (lv_sub hl [0, 1, 2, 4, 5, 6] rfl)
            have hL48 : ∀ (n48 : Nat) (x29 : Int32) (x30 : Int32) (S31 : HSt) (H : Heap) (locs : List Loc) (ls : Array Slot), (f_X12_otherwise_L48 a0 a1 v9 x15 (f_X12_otherwise_K115 (f_X12_otherwise_L31 a0 a1 v9 f_X12_otherwise_K156 n31) x13 x14 x15) n48) x29 x30 S31 = some res → hqX D kA HB S.2 S31 H locs → lv_has ls 8 [(0, .ref a0), (1, .int a1), (2, .int v9), (3, .int x13), (4, .int x14), (5, .int x15), (6, .int x29), (7, .int x30)] → W p l e rm_X12_otherwise s m ([.ref a0, .int a1] : List Value).toArray below meth c H locs 0 0 (MQ below (hQi D kA HB S res) ([.ref a0, .int a1] : List Value).toArray s 0 0 (hFree HB)) (F0 m 48 ls []) := by
              intro n48
              induction n48 with
              | zero =>
                intro x29 x30 S31 H locs ls h
                have h : (none : Option (Int32 × HSt)) = some res := h
                cases h
              | succ n48 ih48 =>
                intro x29 x30 S31 H locs ls h hI hl
                have h : f_X12_otherwise_B48 a0 a1 v9 x15 (f_X12_otherwise_K115 (f_X12_otherwise_L31 a0 a1 v9 f_X12_otherwise_K156 n31) x13 x14 x15) (f_X12_otherwise_L48 a0 a1 v9 x15 (f_X12_otherwise_K115 (f_X12_otherwise_L31 a0 a1 v9 f_X12_otherwise_K156 n31) x13 x14 x15) n48) x29 x30 S31 = some res := h
                unfold f_X12_otherwise_B48 at h
                refine lv_iload hx hb dX12_otherwise_48 (lv_at hl 7 rfl) ?_
                refine lv_aload_n hx hb dX12_otherwise_50 rfl (lv_at hl 0 rfl) ?_
                obtain ⟨b32, g33, h⟩ := hq_bind h
                obtain ⟨fs_g33, hs_g33, hv_g33⟩ := gR_at g33
                refine hq_get hx hb hts hown hE hI hs_g33 inG12 rfl 1 (by decide) kw_945 hv_g33 dX12_otherwise_51 ?_
                refine lv_iconst (v := 1) hx hb dX12_otherwise_54 (by decide) ?_
                obtain ⟨v35, g34, h⟩ := hq_bind h
                refine hq_iald hx hb hE hI g34 dX12_otherwise_55 ?_
                refine lv_icmp_ge (tgt := 115) hx hb dX12_otherwise_56 (by decide) (fun c36 => ?_) (fun c36 => ?_)
                · have h := hq_t h c36
                  exact hK115 x29 S31 _ _ _ h hI (lv_sub hl [0, 1, 2, 3, 4, 5, 6] rfl)
                · have h := hq_f h c36
                  refine lv_iload hx hb dX12_otherwise_59 (lv_at hl 6 rfl) ?_
                  refine lv_iload_n hx hb dX12_otherwise_61 rfl (lv_at hl 2 rfl) ?_
                  refine lv_iload hx hb dX12_otherwise_62 (lv_at hl 7 rfl) ?_
                  refine lv_ishr hx hb dX12_otherwise_64 ?_
                  refine lv_iconst (v := 1) hx hb dX12_otherwise_65 (by decide) ?_
                  refine lv_iand hx hb dX12_otherwise_66 ?_
                  refine lv_iconst (v := 1) hx hb dX12_otherwise_67 (by decide) ?_
                  refine lv_icmp_ne (tgt := 105) hx hb dX12_otherwise_68 (by decide) (fun c37 => ?_) (fun c37 => ?_)
                  · have h := hq_f h c37
                    refine lv_iconst (v := 0) hx hb dX12_otherwise_105 (by decide) ?_
                    refine lv_iadd hx hb dX12_otherwise_106 ?_
                    refine lv_istore (lv' := [(6, .int (x29 + 0)), (0, .ref a0), (1, .int a1), (2, .int v9), (3, .int x13), (4, .int x14), (5, .int x15), (7, .int x30)]) hx hb dX12_otherwise_107 hl (by decide) rfl (fun ls hl => ?_)
                    refine lv_iinc (v := (x30 + 1)) (lv' := [(7, .int (x30 + 1)), (6, .int (x29 + 0)), (0, .ref a0), (1, .int a1), (2, .int v9), (3, .int x13), (4, .int x14), (5, .int x15)]) hx hb dX12_otherwise_109 hl (k := 7) rfl rfl (by decide) rfl (fun ls hl => ?_)
                    refine lv_goto (tgt := 48) hx hb dX12_otherwise_112 (by decide) ?_
                    exact ih48 (x29 + 0) (x30 + 1) S31 _ _ _ h hI (lv_sub hl [2, 3, 4, 5, 6, 7, 1, 0] rfl)
                  · have h := hq_t h c37
                    refine lv_aload_n hx hb dX12_otherwise_71 rfl (lv_at hl 0 rfl) ?_
                    obtain ⟨b38, g39, h⟩ := hq_bind h
                    obtain ⟨fs_g39, hs_g39, hv_g39⟩ := gR_at g39
                    refine hq_get hx hb hts hown hE hI hs_g39 inG12 rfl 1 (by decide) kw_945 hv_g39 dX12_otherwise_72 ?_
                    refine lv_sipush (v := 220) hx hb dX12_otherwise_75 (by decide) ?_
                    refine lv_iload hx hb dX12_otherwise_78 (lv_at hl 7 rfl) ?_
                    refine lv_iadd hx hb dX12_otherwise_80 ?_
                    obtain ⟨v41, g40, h⟩ := hq_bind h
                    refine hq_iald hx hb hE hI g40 dX12_otherwise_81 ?_
                    refine lv_iload hx hb dX12_otherwise_82 (lv_at hl 5 rfl) ?_
                    refine lv_isub hx hb dX12_otherwise_84 ?_
                    obtain ⟨v44, S43, g42, h⟩ := hq_bd2 h
                    refine hq_calli hI (va_runS (As := [.int (v41 - x15)]) (rest := [.int x29]) ⟨hx, hb, hml, hown, hts⟩ (c_X12_size l D kA ρ HB S31 (v41 - x15) _ g42) (va_cwS 1 hts (gdIn (List.forall_mem_cons.mpr ⟨kw_1040, (List.forall_mem_cons.mpr ⟨kw_1041, (List.forall_mem_cons.mpr ⟨kw_6, (fun _ h => absurd h List.not_mem_nil)⟩)⟩)⟩) kw_1042) rfl rfl rfl yd_X12_size ⟨Nat.le_of_ble_eq_true rfl, Nat.le_of_ble_eq_true rfl⟩) (hq_preS hE hI _) rfl rfl hl.1 rfl (lv_room (Nat.le_of_ble_eq_true rfl)) dX12_otherwise_85 ⟨Nat.le_of_ble_eq_true rfl, Nat.le_of_ble_eq_true rfl⟩) (fun H locs hI => ?_)
                    refine lv_aload_n hx hb dX12_otherwise_88 rfl (lv_at hl 0 rfl) ?_
                    obtain ⟨b45, g46, h⟩ := hq_bind h
                    obtain ⟨fs_g46, hs_g46, hv_g46⟩ := gR_at g46
                    refine hq_get hx hb hts hown hE hI hs_g46 inG12 rfl 1 (by decide) kw_945 hv_g46 dX12_otherwise_89 ?_
                    refine lv_sipush (v := 310) hx hb dX12_otherwise_92 (by decide) ?_
                    refine lv_iload_n hx hb dX12_otherwise_95 rfl (lv_at hl 1 rfl) ?_
                    refine lv_iadd hx hb dX12_otherwise_96 ?_
                    obtain ⟨v48, g47, h⟩ := hq_bind h
                    refine hq_iald hx hb hE hI g47 dX12_otherwise_97 ?_
                    refine lv_icmp_gt (tgt := 105) hx hb dX12_otherwise_98 (by decide) (fun c49 => ?_) (fun c49 => ?_)
                    · have h := hq_t h c49
                      refine lv_iconst (v := 0) hx hb dX12_otherwise_105 (by decide) ?_
                      refine lv_iadd hx hb dX12_otherwise_106 ?_
                      refine lv_istore (lv' := [(6, .int (x29 + 0)), (0, .ref a0), (1, .int a1), (2, .int v9), (3, .int x13), (4, .int x14), (5, .int x15), (7, .int x30)]) hx hb dX12_otherwise_107 hl (by decide) rfl (fun ls hl => ?_)
                      refine lv_iinc (v := (x30 + 1)) (lv' := [(7, .int (x30 + 1)), (6, .int (x29 + 0)), (0, .ref a0), (1, .int a1), (2, .int v9), (3, .int x13), (4, .int x14), (5, .int x15)]) hx hb dX12_otherwise_109 hl (k := 7) rfl rfl (by decide) rfl (fun ls hl => ?_)
                      refine lv_goto (tgt := 48) hx hb dX12_otherwise_112 (by decide) ?_
                      exact ih48 (x29 + 0) (x30 + 1) S43 _ _ _ h hI (lv_sub hl [2, 3, 4, 5, 6, 7, 1, 0] rfl)
                    · have h := hq_f h c49
                      refine lv_iconst (v := 1) hx hb dX12_otherwise_101 (by decide) ?_
                      refine lv_goto (tgt := 106) hx hb dX12_otherwise_102 (by decide) ?_
                      refine lv_iadd hx hb dX12_otherwise_106 ?_
                      refine lv_istore (lv' := [(6, .int (x29 + 1)), (0, .ref a0), (1, .int a1), (2, .int v9), (3, .int x13), (4, .int x14), (5, .int x15), (7, .int x30)]) hx hb dX12_otherwise_107 hl (by decide) rfl (fun ls hl => ?_)
                      refine lv_iinc (v := (x30 + 1)) (lv' := [(7, .int (x30 + 1)), (6, .int (x29 + 1)), (0, .ref a0), (1, .int a1), (2, .int v9), (3, .int x13), (4, .int x14), (5, .int x15)]) hx hb dX12_otherwise_109 hl (k := 7) rfl rfl (by decide) rfl (fun ls hl => ?_)
                      refine lv_goto (tgt := 48) hx hb dX12_otherwise_112 (by decide) ?_
                      exact ih48 (x29 + 1) (x30 + 1) S43 _ _ _ h hI (lv_sub hl [2, 3, 4, 5, 6, 7, 1, 0] rfl)
            exact hL48 FU 0 0 S16 _ _ _ h hI (lv_sub hl [2, 3, 4, 5, 6, 7, 1, 0] rfl)
      exact hL31 FU (-1) 0 0 S8 _ _ _ h hI (lv_sub hl [4, 5, 3, 2, 1, 0] rfl)
    · have h := hq_t h c10
      refine lv_bipush (v := (-5)) hx hb dX12_otherwise_20 (by decide) ?_
      exact hq_iret hx hb hr hlocks h0 hI h dX12_otherwise_22
  · have h := hq_t h c5
    refine lv_iconst (v := (-1)) hx hb dX12_otherwise_8 (by decide) ?_
    exact hq_iret hx hb hr hlocks h0 hI h dX12_otherwise_9
-- RodDipsModel.afterwards(II)I
theorem dX12_afterwards_0 : decode cX12_afterwards 0 = .ok (.aload_n 0, 1) := by decide +kernel
theorem dX12_afterwards_1 : decode cX12_afterwards 1 = .ok (.iload_n 1, 1) := by decide +kernel
theorem dX12_afterwards_2 : decode cX12_afterwards 2 = .ok (.invokevirtual 177, 3) := by decide +kernel
theorem dX12_afterwards_5 : decode cX12_afterwards 5 = .ok (.ifCond .eq 10, 3) := by decide +kernel
theorem dX12_afterwards_8 : decode cX12_afterwards 8 = .ok (.iload_n 2, 1) := by decide +kernel
theorem dX12_afterwards_9 : decode cX12_afterwards 9 = .ok (.invokestatic 43, 3) := by decide +kernel
theorem dX12_afterwards_12 : decode cX12_afterwards 12 = .ok (.ifCond .ne 5, 3) := by decide +kernel
theorem dX12_afterwards_15 : decode cX12_afterwards 15 = .ok (.iconst (-1), 1) := by decide +kernel
theorem dX12_afterwards_16 : decode cX12_afterwards 16 = .ok (.ireturn, 1) := by decide +kernel
theorem dX12_afterwards_17 : decode cX12_afterwards 17 = .ok (.aload_n 0, 1) := by decide +kernel
theorem dX12_afterwards_18 : decode cX12_afterwards 18 = .ok (.aload_n 0, 1) := by decide +kernel
theorem dX12_afterwards_19 : decode cX12_afterwards 19 = .ok (.iload_n 1, 1) := by decide +kernel
theorem dX12_afterwards_20 : decode cX12_afterwards 20 = .ok (.invokevirtual 180, 3) := by decide +kernel
theorem dX12_afterwards_23 : decode cX12_afterwards 23 = .ok (.iload_n 2, 1) := by decide +kernel
theorem dX12_afterwards_24 : decode cX12_afterwards 24 = .ok (.invokevirtual 187, 3) := by decide +kernel
theorem dX12_afterwards_27 : decode cX12_afterwards 27 = .ok (.istore_n 3, 1) := by decide +kernel
theorem dX12_afterwards_28 : decode cX12_afterwards 28 = .ok (.iload_n 3, 1) := by decide +kernel
theorem dX12_afterwards_29 : decode cX12_afterwards 29 = .ok (.ifCond .eq 12, 3) := by decide +kernel
theorem dX12_afterwards_32 : decode cX12_afterwards 32 = .ok (.iload_n 3, 1) := by decide +kernel
theorem dX12_afterwards_33 : decode cX12_afterwards 33 = .ok (.invokestatic 190, 3) := by decide +kernel
theorem dX12_afterwards_36 : decode cX12_afterwards 36 = .ok (.bipush 9, 2) := by decide +kernel
theorem dX12_afterwards_38 : decode cX12_afterwards 38 = .ok (.if_icmp .le 6, 3) := by decide +kernel
theorem dX12_afterwards_41 : decode cX12_afterwards 41 = .ok (.bipush (-5), 2) := by decide +kernel
theorem dX12_afterwards_43 : decode cX12_afterwards 43 = .ok (.ireturn, 1) := by decide +kernel
theorem dX12_afterwards_44 : decode cX12_afterwards 44 = .ok (.iconst (-1), 1) := by decide +kernel
theorem dX12_afterwards_45 : decode cX12_afterwards 45 = .ok (.istore 4, 2) := by decide +kernel
theorem dX12_afterwards_47 : decode cX12_afterwards 47 = .ok (.lconst 0, 1) := by decide +kernel
theorem dX12_afterwards_48 : decode cX12_afterwards 48 = .ok (.lstore 5, 2) := by decide +kernel
theorem dX12_afterwards_50 : decode cX12_afterwards 50 = .ok (.iconst 0, 1) := by decide +kernel
theorem dX12_afterwards_51 : decode cX12_afterwards 51 = .ok (.istore 7, 2) := by decide +kernel
theorem dX12_afterwards_53 : decode cX12_afterwards 53 = .ok (.iload 7, 2) := by decide +kernel
theorem dX12_afterwards_55 : decode cX12_afterwards 55 = .ok (.bipush 10, 2) := by decide +kernel
theorem dX12_afterwards_57 : decode cX12_afterwards 57 = .ok (.if_icmp .ge 77, 3) := by decide +kernel
theorem dX12_afterwards_60 : decode cX12_afterwards 60 = .ok (.aload_n 0, 1) := by decide +kernel
theorem dX12_afterwards_61 : decode cX12_afterwards 61 = .ok (.iload_n 3, 1) := by decide +kernel
theorem dX12_afterwards_62 : decode cX12_afterwards 62 = .ok (.iload 7, 2) := by decide +kernel
theorem dX12_afterwards_64 : decode cX12_afterwards 64 = .ok (.invokevirtual 216, 3) := by decide +kernel
theorem dX12_afterwards_67 : decode cX12_afterwards 67 = .ok (.aload_n 0, 1) := by decide +kernel
theorem dX12_afterwards_68 : decode cX12_afterwards 68 = .ok (.aload_n 0, 1) := by decide +kernel
theorem dX12_afterwards_69 : decode cX12_afterwards 69 = .ok (.iload_n 3, 1) := by decide +kernel
theorem dX12_afterwards_70 : decode cX12_afterwards 70 = .ok (.iload 7, 2) := by decide +kernel
theorem dX12_afterwards_72 : decode cX12_afterwards 72 = .ok (.invokevirtual 183, 3) := by decide +kernel
theorem dX12_afterwards_75 : decode cX12_afterwards 75 = .ok (.invokestatic 190, 3) := by decide +kernel
theorem dX12_afterwards_78 : decode cX12_afterwards 78 = .ok (.invokevirtual 219, 3) := by decide +kernel
theorem dX12_afterwards_81 : decode cX12_afterwards 81 = .ok (.lstore 8, 2) := by decide +kernel
theorem dX12_afterwards_83 : decode cX12_afterwards 83 = .ok (.iload 4, 2) := by decide +kernel
theorem dX12_afterwards_85 : decode cX12_afterwards 85 = .ok (.iconst (-1), 1) := by decide +kernel
theorem dX12_afterwards_86 : decode cX12_afterwards 86 = .ok (.if_icmp .eq 11, 3) := by decide +kernel
theorem dX12_afterwards_89 : decode cX12_afterwards 89 = .ok (.lload 8, 2) := by decide +kernel
theorem dX12_afterwards_91 : decode cX12_afterwards 91 = .ok (.lload 5, 2) := by decide +kernel
theorem dX12_afterwards_93 : decode cX12_afterwards 93 = .ok (.lcmp, 1) := by decide +kernel
theorem dX12_afterwards_94 : decode cX12_afterwards 94 = .ok (.ifCond .ge 8, 3) := by decide +kernel
theorem dX12_afterwards_97 : decode cX12_afterwards 97 = .ok (.iload 7, 2) := by decide +kernel
theorem dX12_afterwards_99 : decode cX12_afterwards 99 = .ok (.goto 5, 3) := by decide +kernel
theorem dX12_afterwards_102 : decode cX12_afterwards 102 = .ok (.iload 4, 2) := by decide +kernel
theorem dX12_afterwards_104 : decode cX12_afterwards 104 = .ok (.istore 4, 2) := by decide +kernel
theorem dX12_afterwards_106 : decode cX12_afterwards 106 = .ok (.iload 7, 2) := by decide +kernel
theorem dX12_afterwards_108 : decode cX12_afterwards 108 = .ok (.ifCond .eq 11, 3) := by decide +kernel
theorem dX12_afterwards_111 : decode cX12_afterwards 111 = .ok (.lload 8, 2) := by decide +kernel
theorem dX12_afterwards_113 : decode cX12_afterwards 113 = .ok (.lload 5, 2) := by decide +kernel
theorem dX12_afterwards_115 : decode cX12_afterwards 115 = .ok (.lcmp, 1) := by decide +kernel
theorem dX12_afterwards_116 : decode cX12_afterwards 116 = .ok (.ifCond .ge 8, 3) := by decide +kernel
theorem dX12_afterwards_119 : decode cX12_afterwards 119 = .ok (.lload 8, 2) := by decide +kernel
theorem dX12_afterwards_121 : decode cX12_afterwards 121 = .ok (.goto 5, 3) := by decide +kernel
theorem dX12_afterwards_124 : decode cX12_afterwards 124 = .ok (.lload 5, 2) := by decide +kernel
theorem dX12_afterwards_126 : decode cX12_afterwards 126 = .ok (.lstore 5, 2) := by decide +kernel
theorem dX12_afterwards_128 : decode cX12_afterwards 128 = .ok (.iinc 7 1, 3) := by decide +kernel
theorem dX12_afterwards_131 : decode cX12_afterwards 131 = .ok (.goto (-78), 3) := by decide +kernel
theorem dX12_afterwards_134 : decode cX12_afterwards 134 = .ok (.iload 4, 2) := by decide +kernel
theorem dX12_afterwards_136 : decode cX12_afterwards 136 = .ok (.ireturn, 1) := by decide +kernel
def f_X12_afterwards_K134 (x23 : Int32) (S24 : HSt) : Option (Int32 × HSt) := some (x23, S24)
def f_X12_afterwards_J104 (kb53 : (Int32 → Int64 → Int32 → HSt → Option (Int32 × HSt))) (v43 : Int64) (x26 : Int64) (x27 : Int32) (y44 : Int32) (S45 : HSt) : Option (Int32 × HSt) := if x27 = 0 then (kb53 y44 v43 (x27 + 1) S45) else (if 0 ≤ (lg_cmp v43 x26) then (kb53 y44 x26 (x27 + 1) S45) else (kb53 y44 v43 (x27 + 1) S45))
def f_X12_afterwards_B53 (a0 : Nat) (v17 : Int32) (kx134 : (Int32 → HSt → Option (Int32 × HSt))) (kb53 : (Int32 → Int64 → Int32 → HSt → Option (Int32 × HSt))) (x25 : Int32) (x26 : Int64) (x27 : Int32) (S28 : HSt) : Option (Int32 × HSt) := if 10 ≤ x27 then (kx134 x25 S28) else (if gC S28 a0 = some 12 then ((f_X12_counts S28 a0 v17 x27).bind fun S32 => if gC S32 a0 = some 12 then (bd2 (f_X12_hitsOf S32 a0 v17 x27) fun v36 S35 => bd2 (f_X12_count1 S35 v36) fun v39 S38 => if gC S38 a0 = some 12 then (bd2 (f_X12_orMore S38 a0 v39) fun v43 S42 => if x25 = (-1) then ((f_X12_afterwards_J104 kb53 v43 x26 x27) x27 S42) else (if 0 ≤ (lg_cmp v43 x26) then ((f_X12_afterwards_J104 kb53 v43 x26 x27) x25 S42) else ((f_X12_afterwards_J104 kb53 v43 x26 x27) x27 S42))) else none) else none) else none)
def f_X12_afterwards_L53 (a0 : Nat) (v17 : Int32) (kx134 : (Int32 → HSt → Option (Int32 × HSt))) : Nat → Int32 → Int64 → Int32 → HSt → Option (Int32 × HSt)
  | 0, _, _, _, _ => none
  | n + 1, x25, x26, x27, S => f_X12_afterwards_B53 a0 v17 kx134 (f_X12_afterwards_L53 a0 v17 kx134 n) x25 x26 x27 S
def f_X12_afterwards (S : HSt) (a0 : Nat) (a1 : Int32) (a2 : Int32) : Option (Int32 × HSt) := if gC S a0 = some 12 then (bd2 (f_X12_isPlan S a0 a1) fun v4 S3 => if v4 = 0 then (some ((-1), S3)) else (bd2 (f_X12_isMan S3 a2) fun v8 S7 => if v8 = 0 then (some ((-1), S7)) else (if gC S7 a0 = some 12 then (bd2 (f_X12_counted S7 a0 a1) fun v13 S12 => if gC S12 a0 = some 12 then (bd2 (f_X12_ofMan S12 a0 v13 a2) fun v17 S16 => if v17 = 0 then (some ((-5), S16)) else (bd2 (f_X12_count1 S16 v17) fun v21 S20 => if v21 ≤ 9 then ((f_X12_afterwards_L53 a0 v17 f_X12_afterwards_K134 FU) (-1) 0 0 S20) else (some ((-5), S20)))) else none) else none))) else none
abbrev rm_X12_afterwards : Room := { frames := 6, cells := 0, slots := 0, locals := 137 }
abbrev w_X12_afterwards : List Cond := Cond.code yX12_afterwards cX12_afterwards 10 (Option.some FieldType.int) :: lwG
theorem yd_X12_afterwards : yX12_afterwards.cls ≠ "java/lang/invoke/MethodHandle" ∧ yX12_afterwards.cls ≠ "java/lang/invoke/VarHandle" ∧ (parseMethodDescriptor yX12_afterwards.desc).map (fun d => d.parameters.length) = some 2 := by decide +kernel
theorem ye_X12_afterwards : yX12_afterwards.cls = RX12 ∧ yX12_afterwards.cls ≠ "java/lang/invoke/MethodHandle" ∧ yX12_afterwards.cls ≠ "java/lang/invoke/VarHandle" ∧ (parseMethodDescriptor yX12_afterwards.desc).map (fun d => d.parameters.length) = some 2 := by decide +kernel
set_option maxHeartbeats 4000000 in
set_option maxRecDepth 100000 in
theorem c_X12_afterwards (l : Launch) (D : va_G) (kA ρ : Nat → Nat) (HB : Heap) (S : HSt) (a0 : Nat) (a1 : Int32) (a2 : Int32) (res : Int32 × HSt) (h : f_X12_afterwards S a0 a1 a2 = some res) : Met l yX12_afterwards w_X12_afterwards rm_X12_afterwards (hPc D kA ρ HB S [.ref a0, .int a1, .int a2]) (hQi D kA HB S res) 0 0 (hFree HB) := by
  refine Met.ofW (cc := cX12_afterwards) (maxL := 10) (ret := (Option.some FieldType.int)) (by decide) rfl ?_
  intro p e s m args below meth c s₁ B hml hv
  obtain ⟨rfl, hE, h0⟩ := hv
  have hx := B.exec
  have hb := B.bytes
  have hr := B.returns
  have hts0 := atoms_spec (ws := w_X12_afterwards) B.pre
  have hts : ∀ w ∈ lwG, w.before _ s = true := fun w hw => hts0 w (List.mem_cons_of_mem _ hw)
  have hown : s.vm.findClass RX12 = some m.cls := findClass_of_methodNamed B.named
  have hlocks := B.notSynchronized
  have hI : hqX D kA HB S.2 S s.heap [] := ⟨h0, Nat.le_refl _, fun _ q => absurd q List.not_mem_nil⟩
  have hl := lv_entry ([.ref a0, .int a1, .int a2]) (n := 10) (Nat.le_of_ble_eq_true rfl)
  rw [lg_entry_eq]
  generalize (lg_sl ([.ref a0, .int a1, .int a2]) ++ List.replicate (10 - (lg_sl ([.ref a0, .int a1, .int a2])).length) Slot.unset).toArray = ls at hl ⊢
  have hl : lv_has ls 10 [(0, .ref a0), (1, .int a1), (2, .int a2)] := hl
  unfold f_X12_afterwards at h
  refine lv_aload_n hx hb dX12_afterwards_0 rfl (lv_at hl 0 rfl) ?_
  refine lv_iload_n hx hb dX12_afterwards_1 rfl (lv_at hl 1 rfl) ?_
  obtain ⟨g2, h⟩ := hq_g h
  obtain ⟨v4, S3, g1, h⟩ := hq_bd2 h
  refine hq_calli hI (va_runV (As := [.int a1]) (rest := []) ⟨hx, hb, hml, hown, hts⟩ (c_X12_isPlan l D kA ρ HB S a0 a1 _ g1) (cwV 1 hts (gdIn (List.forall_mem_cons.mpr ⟨kw_1133, (List.forall_mem_cons.mpr ⟨kw_1135, (List.forall_mem_cons.mpr ⟨ks_48, (List.forall_mem_cons.mpr ⟨kw_6, (fun _ h => absurd h List.not_mem_nil)⟩)⟩)⟩)⟩) kw_1136) rfl rfl rfl ye_X12_isPlan ⟨Nat.le_of_ble_eq_true rfl, Nat.le_of_ble_eq_true rfl⟩) (hq_preC hE hI g2 rfl _) rfl rfl hl.1 rfl (lv_room (Nat.le_of_ble_eq_true rfl)) dX12_afterwards_2 ⟨Nat.le_of_ble_eq_true rfl, Nat.le_of_ble_eq_true rfl⟩) (fun H locs hI => ?_)
  refine lv_if_eq (tgt := 15) hx hb dX12_afterwards_5 (by decide) (fun c5 => ?_) (fun c5 => ?_)
  · have h := hq_t h c5
    refine lv_iconst (v := (-1)) hx hb dX12_afterwards_15 (by decide) ?_
    exact hq_iret hx hb hr hlocks h0 hI h dX12_afterwards_16
  · have h := hq_f h c5
    refine lv_iload_n hx hb dX12_afterwards_8 rfl (lv_at hl 2 rfl) ?_
    obtain ⟨v8, S7, g6, h⟩ := hq_bd2 h
    refine hq_calli hI (va_runS (As := [.int a2]) (rest := []) ⟨hx, hb, hml, hown, hts⟩ (c_X12_isMan l D kA ρ HB S3 a2 _ g6) (va_cwS 1 hts (gdIn (List.forall_mem_cons.mpr ⟨kw_1017, (List.forall_mem_cons.mpr ⟨kw_1018, (List.forall_mem_cons.mpr ⟨kw_6, (fun _ h => absurd h List.not_mem_nil)⟩)⟩)⟩) kw_1019) rfl rfl rfl yd_X12_isMan ⟨Nat.le_of_ble_eq_true rfl, Nat.le_of_ble_eq_true rfl⟩) (hq_preS hE hI _) rfl rfl hl.1 rfl (lv_room (Nat.le_of_ble_eq_true rfl)) dX12_afterwards_9 ⟨Nat.le_of_ble_eq_true rfl, Nat.le_of_ble_eq_true rfl⟩) (fun H locs hI => ?_)
    refine lv_if_ne (tgt := 17) hx hb dX12_afterwards_12 (by decide) (fun c9 => ?_) (fun c9 => ?_)
    · have h := hq_f h c9
      refine lv_aload_n hx hb dX12_afterwards_17 rfl (lv_at hl 0 rfl) ?_
      refine lv_aload_n hx hb dX12_afterwards_18 rfl (lv_at hl 0 rfl) ?_
      refine lv_iload_n hx hb dX12_afterwards_19 rfl (lv_at hl 1 rfl) ?_
      obtain ⟨g11, h⟩ := hq_g h
      obtain ⟨v13, S12, g10, h⟩ := hq_bd2 h
      refine hq_calli hI (va_runV (As := [.int a1]) (rest := [.ref a0]) ⟨hx, hb, hml, hown, hts⟩ (c_X12_counted l D kA ρ HB S7 a0 a1 _ g10) (cwV 1 hts (gdIn (List.forall_mem_cons.mpr ⟨kw_1137, (List.forall_mem_cons.mpr ⟨kw_1139, (List.forall_mem_cons.mpr ⟨ks_49, (List.forall_mem_cons.mpr ⟨kw_6, (fun _ h => absurd h List.not_mem_nil)⟩)⟩)⟩)⟩) kw_1140) rfl rfl rfl ye_X12_counted ⟨Nat.le_of_ble_eq_true rfl, Nat.le_of_ble_eq_true rfl⟩) (hq_preC hE hI g11 rfl _) rfl rfl hl.1 rfl (lv_room (Nat.le_of_ble_eq_true rfl)) dX12_afterwards_20 ⟨Nat.le_of_ble_eq_true rfl, Nat.le_of_ble_eq_true rfl⟩) (fun H locs hI => ?_)
      refine lv_iload_n hx hb dX12_afterwards_23 rfl (lv_at hl 2 rfl) ?_
      obtain ⟨g15, h⟩ := hq_g h
      obtain ⟨v17, S16, g14, h⟩ := hq_bd2 h
      refine hq_calli hI (va_runV (As := [.int v13, .int a2]) (rest := []) ⟨hx, hb, hml, hown, hts⟩ (c_X12_ofMan l D kA ρ HB S12 a0 v13 a2 _ g14) (cwV 2 hts (gdIn (List.forall_mem_cons.mpr ⟨kw_1169, (List.forall_mem_cons.mpr ⟨kw_1171, (List.forall_mem_cons.mpr ⟨ks_56, (List.forall_mem_cons.mpr ⟨kw_6, (fun _ h => absurd h List.not_mem_nil)⟩)⟩)⟩)⟩) kw_1172) rfl rfl rfl ye_X12_ofMan ⟨Nat.le_of_ble_eq_true rfl, Nat.le_of_ble_eq_true rfl⟩) (hq_preC hE hI g15 rfl _) rfl rfl hl.1 rfl (lv_room (Nat.le_of_ble_eq_true rfl)) dX12_afterwards_24 ⟨Nat.le_of_ble_eq_true rfl, Nat.le_of_ble_eq_true rfl⟩) (fun H locs hI => ?_)
      refine lv_istore_n (lv' := [(3, .int v17), (0, .ref a0), (1, .int a1), (2, .int a2)]) hx hb dX12_afterwards_27 rfl hl (by decide) rfl (fun ls hl => ?_)
      refine lv_iload_n hx hb dX12_afterwards_28 rfl (lv_at hl 0 rfl) ?_
      refine lv_if_eq (tgt := 41) hx hb dX12_afterwards_29 (by decide) (fun c18 => ?_) (fun c18 => ?_)
      · have h := hq_t h c18
        refine lv_bipush (v := (-5)) hx hb dX12_afterwards_41 (by decide) ?_
        exact hq_iret hx hb hr hlocks h0 hI h dX12_afterwards_43
      · have h := hq_f h c18
        refine lv_iload_n hx hb dX12_afterwards_32 rfl (lv_at hl 0 rfl) ?_
        obtain ⟨v21, S20, g19, h⟩ := hq_bd2 h
        refine hq_calli hI (va_runS (As := [.int v17]) (rest := []) ⟨hx, hb, hml, hown, hts⟩ (c_X12_count1 l D kA ρ HB S16 v17 _ g19) (va_cwS 1 hts (gdIn (List.forall_mem_cons.mpr ⟨kw_1173, (List.forall_mem_cons.mpr ⟨kw_1174, (List.forall_mem_cons.mpr ⟨kw_6, (fun _ h => absurd h List.not_mem_nil)⟩)⟩)⟩) kw_1175) rfl rfl rfl yd_X12_count1 ⟨Nat.le_of_ble_eq_true rfl, Nat.le_of_ble_eq_true rfl⟩) (hq_preS hE hI _) rfl rfl hl.1 rfl (lv_room (Nat.le_of_ble_eq_true rfl)) dX12_afterwards_33 ⟨Nat.le_of_ble_eq_true rfl, Nat.le_of_ble_eq_true rfl⟩) (fun H locs hI => ?_)
        refine lv_bipush (v := 9) hx hb dX12_afterwards_36 (by decide) ?_
        refine lv_icmp_le (tgt := 44) hx hb dX12_afterwards_38 (by decide) (fun c22 => ?_) (fun c22 => ?_)
        · have h := hq_t h c22
          refine lv_iconst (v := (-1)) hx hb dX12_afterwards_44 (by decide) ?_
          refine lv_istore (lv' := [(4, .int (-1)), (3, .int v17), (0, .ref a0), (1, .int a1), (2, .int a2)]) hx hb dX12_afterwards_45 hl (by decide) rfl (fun ls hl => ?_)
          refine lv_lconst (v := 0) hx hb dX12_afterwards_47 (by decide) ?_
          refine lv_lstore (lv' := [(5, .long 0), (4, .int (-1)), (3, .int v17), (0, .ref a0), (1, .int a1), (2, .int a2)]) hx hb dX12_afterwards_48 hl (by decide) rfl (fun ls hl => ?_)
          refine lv_iconst (v := 0) hx hb dX12_afterwards_50 (by decide) ?_
          refine lv_istore (lv' := [(7, .int 0), (5, .long 0), (4, .int (-1)), (3, .int v17), (0, .ref a0), (1, .int a1), (2, .int a2)]) hx hb dX12_afterwards_51 hl (by decide) rfl (fun ls hl => ?_)
          have hK134 : ∀ (x23 : Int32) (S24 : HSt) (H : Heap) (locs : List Loc) (ls : Array Slot), f_X12_afterwards_K134 x23 S24 = some res → hqX D kA HB S.2 S24 H locs → lv_has ls 10 [(4, .int x23)] → W p l e rm_X12_afterwards s m ([.ref a0, .int a1, .int a2] : List Value).toArray below meth c H locs 0 0 (MQ below (hQi D kA HB S res) ([.ref a0, .int a1, .int a2] : List Value).toArray s 0 0 (hFree HB)) (F0 m 134 ls []) := by
            intro x23 S24 H locs ls h hI hl
            unfold f_X12_afterwards_K134 at h
            refine lv_iload hx hb dX12_afterwards_134 (lv_at hl 0 rfl) ?_
            exact hq_iret hx hb hr hlocks h0 hI h dX12_afterwards_136
          have hL53 : ∀ (n53 : Nat) (x25 : Int32) (x26 : Int64) (x27 : Int32) (S28 : HSt) (H : Heap) (locs : List Loc) (ls : Array Slot), (f_X12_afterwards_L53 a0 v17 f_X12_afterwards_K134 n53) x25 x26 x27 S28 = some res → hqX D kA HB S.2 S28 H locs → lv_has ls 10 [(0, .ref a0), (3, .int v17), (4, .int x25), (5, .long x26), (7, .int x27)] → W p l e rm_X12_afterwards s m ([.ref a0, .int a1, .int a2] : List Value).toArray below meth c H locs 0 0 (MQ below (hQi D kA HB S res) ([.ref a0, .int a1, .int a2] : List Value).toArray s 0 0 (hFree HB)) (F0 m 53 ls []) := by
            intro n53
            induction n53 with
            | zero =>
              intro x25 x26 x27 S28 H locs ls h
              have h : (none : Option (Int32 × HSt)) = some res := h
              cases h
            | succ n53 ih53 =>
              intro x25 x26 x27 S28 H locs ls h hI hl
              have h : f_X12_afterwards_B53 a0 v17 f_X12_afterwards_K134 (f_X12_afterwards_L53 a0 v17 f_X12_afterwards_K134 n53) x25 x26 x27 S28 = some res := h
              unfold f_X12_afterwards_B53 at h
              refine lv_iload hx hb dX12_afterwards_53 (lv_at hl 4 rfl) ?_
              refine lv_bipush (v := 10) hx hb dX12_afterwards_55 (by decide) ?_
              refine lv_icmp_ge (tgt := 134) hx hb dX12_afterwards_57 (by decide) (fun c29 => ?_) (fun c29 => ?_)
              · have h := hq_t h c29
                exact hK134 x25 S28 _ _ _ h hI (lv_sub hl [2] rfl)
              · have h := hq_f h c29
                refine lv_aload_n hx hb dX12_afterwards_60 rfl (lv_at hl 0 rfl) ?_
                refine lv_iload_n hx hb dX12_afterwards_61 rfl (lv_at hl 1 rfl) ?_
                refine lv_iload hx hb dX12_afterwards_62 (lv_at hl 4 rfl) ?_
                obtain ⟨g31, h⟩ := hq_g h
                obtain ⟨S32, g30, h⟩ := hq_bind h
                refine hq_callv hI (va_runV (As := [.int v17, .int x27]) (rest := []) ⟨hx, hb, hml, hown, hts⟩ (c_X12_counts l D kA ρ HB S28 a0 v17 x27 _ g30) (cwV 2 hts (gdIn (List.forall_mem_cons.mpr ⟨kw_1199, (List.forall_mem_cons.mpr ⟨kw_1201, (List.forall_mem_cons.mpr ⟨ks_59, (List.forall_mem_cons.mpr ⟨kw_6, (fun _ h => absurd h List.not_mem_nil)⟩)⟩)⟩)⟩) kw_1202) rfl rfl rfl ye_X12_counts ⟨Nat.le_of_ble_eq_true rfl, Nat.le_of_ble_eq_true rfl⟩) (hq_preC hE hI g31 rfl _) rfl rfl hl.1 rfl (lv_room (Nat.le_of_ble_eq_true rfl)) dX12_afterwards_64 ⟨Nat.le_of_ble_eq_true rfl, Nat.le_of_ble_eq_true rfl⟩) (fun H locs hI => ?_)
                refine lv_aload_n hx hb dX12_afterwards_67 rfl (lv_at hl 0 rfl) ?_
                refine lv_aload_n hx hb dX12_afterwards_68 rfl (lv_at hl 0 rfl) ?_
                refine lv_iload_n hx hb dX12_afterwards_69 rfl (lv_at hl 1 rfl) ?_
                refine lv_iload hx hb dX12_afterwards_70 (lv_at hl 4 rfl) ?_
                obtain ⟨g34, h⟩ := hq_g h
                obtain ⟨v36, S35, g33, h⟩ := hq_bd2 h
                refine hq_calli hI (va_runV (As := [.int v17, .int x27]) (rest := [.ref a0]) ⟨hx, hb, hml, hown, hts⟩ (c_X12_hitsOf l D kA ρ HB S32 a0 v17 x27 _ g33) (cwV 2 hts (gdIn (List.forall_mem_cons.mpr ⟨kw_1157, (List.forall_mem_cons.mpr ⟨kw_1159, (List.forall_mem_cons.mpr ⟨ks_54, (List.forall_mem_cons.mpr ⟨kw_6, (fun _ h => absurd h List.not_mem_nil)⟩)⟩)⟩)⟩) kw_1160) rfl rfl rfl ye_X12_hitsOf ⟨Nat.le_of_ble_eq_true rfl, Nat.le_of_ble_eq_true rfl⟩) (hq_preC hE hI g34 rfl _) rfl rfl hl.1 rfl (lv_room (Nat.le_of_ble_eq_true rfl)) dX12_afterwards_72 ⟨Nat.le_of_ble_eq_true rfl, Nat.le_of_ble_eq_true rfl⟩) (fun H locs hI => ?_)
                obtain ⟨v39, S38, g37, h⟩ := hq_bd2 h
                refine hq_calli hI (va_runS (As := [.int v36]) (rest := [.ref a0]) ⟨hx, hb, hml, hown, hts⟩ (c_X12_count1 l D kA ρ HB S35 v36 _ g37) (va_cwS 1 hts (gdIn (List.forall_mem_cons.mpr ⟨kw_1173, (List.forall_mem_cons.mpr ⟨kw_1174, (List.forall_mem_cons.mpr ⟨kw_6, (fun _ h => absurd h List.not_mem_nil)⟩)⟩)⟩) kw_1175) rfl rfl rfl yd_X12_count1 ⟨Nat.le_of_ble_eq_true rfl, Nat.le_of_ble_eq_true rfl⟩) (hq_preS hE hI _) rfl rfl hl.1 rfl (lv_room (Nat.le_of_ble_eq_true rfl)) dX12_afterwards_75 ⟨Nat.le_of_ble_eq_true rfl, Nat.le_of_ble_eq_true rfl⟩) (fun H locs hI => ?_)
                obtain ⟨g41, h⟩ := hq_g h
                obtain ⟨v43, S42, g40, h⟩ := hq_bd2 h
                refine hq_calll hI (va_runV (As := [.int v39]) (rest := []) ⟨hx, hb, hml, hown, hts⟩ (c_X12_orMore l D kA ρ HB S38 a0 v39 _ g40) (cwV 1 hts (gdIn (List.forall_mem_cons.mpr ⟨kw_1203, (List.forall_mem_cons.mpr ⟨kw_1205, (List.forall_mem_cons.mpr ⟨ks_60, (List.forall_mem_cons.mpr ⟨kw_6, (fun _ h => absurd h List.not_mem_nil)⟩)⟩)⟩)⟩) kw_1206) rfl rfl rfl ye_X12_orMore ⟨Nat.le_of_ble_eq_true rfl, Nat.le_of_ble_eq_true rfl⟩) (hq_preC hE hI g41 rfl _) rfl rfl hl.1 rfl (lv_room (Nat.le_of_ble_eq_true rfl)) dX12_afterwards_78 ⟨Nat.le_of_ble_eq_true rfl, Nat.le_of_ble_eq_true rfl⟩) (fun H locs hI => ?_)
                refine lv_lstore (lv' := [(8, .long v43), (0, .ref a0), (3, .int v17), (4, .int x25), (5, .long x26), (7, .int x27)]) hx hb dX12_afterwards_81 hl (by decide) rfl (fun ls hl => ?_)
                refine lv_iload hx hb dX12_afterwards_83 (lv_at hl 3 rfl) ?_
                refine lv_iconst (v := (-1)) hx hb dX12_afterwards_85 (by decide) ?_
                have hJ104 : ∀ (y44 : Int32) (S45 : HSt) (H : Heap) (locs : List Loc) (ls : Array Slot), (f_X12_afterwards_J104 (f_X12_afterwards_L53 a0 v17 f_X12_afterwards_K134 n53) v43 x26 x27) y44 S45 = some res → hqX D kA HB S.2 S45 H locs → lv_has ls 10 [(0, .ref a0), (3, .int v17), (5, .long x26), (7, .int x27), (8, .long v43)] → W p l e rm_X12_afterwards s m ([.ref a0, .int a1, .int a2] : List Value).toArray below meth c H locs 0 0 (MQ below (hQi D kA HB S res) ([.ref a0, .int a1, .int a2] : List Value).toArray s 0 0 (hFree HB)) (F0 m 104 ls [.int y44]) := by
                  intro y44 S45 H locs ls h hI hl
                  unfold f_X12_afterwards_J104 at h
                  refine lv_istore (lv' := [(4, .int y44), (0, .ref a0), (3, .int v17), (5, .long x26), (7, .int x27), (8, .long v43)]) hx hb dX12_afterwards_104 hl (by decide) rfl (fun ls hl => ?_)
                  refine lv_iload hx hb dX12_afterwards_106 (lv_at hl 4 rfl) ?_
                  refine lv_if_eq (tgt := 119) hx hb dX12_afterwards_108 (by decide) (fun c46 => ?_) (fun c46 => ?_)
                  · have h := hq_t h c46
                    refine lv_lload hx hb dX12_afterwards_119 (lv_at hl 5 rfl) ?_
                    refine lv_goto (tgt := 126) hx hb dX12_afterwards_121 (by decide) ?_
                    refine lv_lstore (lv' := [(5, .long v43), (4, .int y44), (0, .ref a0), (3, .int v17), (7, .int x27), (8, .long v43)]) hx hb dX12_afterwards_126 hl (by decide) rfl (fun ls hl => ?_)
                    refine lv_iinc (v := (x27 + 1)) (lv' := [(7, .int (x27 + 1)), (5, .long v43), (4, .int y44), (0, .ref a0), (3, .int v17), (8, .long v43)]) hx hb dX12_afterwards_128 hl (k := 4) rfl rfl (by decide) rfl (fun ls hl => ?_)
                    refine lv_goto (tgt := 53) hx hb dX12_afterwards_131 (by decide) ?_
                    exact ih53 y44 v43 (x27 + 1) S45 _ _ _ h hI (lv_sub hl [3, 4, 2, 1, 0] rfl)
                  · have h := hq_f h c46
                    refine lv_lload hx hb dX12_afterwards_111 (lv_at hl 5 rfl) ?_
                    refine lv_lload hx hb dX12_afterwards_113 (lv_at hl 3 rfl) ?_
                    refine W.lcmp hx hb dX12_afterwards_115 ?_
                    refine lv_if_ge (tgt := 124) hx hb dX12_afterwards_116 (by decide) (fun c47 => ?_) (fun c47 => ?_)
                    · have h := hq_t h c47
                      refine lv_lload hx hb dX12_afterwards_124 (lv_at hl 3 rfl) ?_
                      refine lv_lstore (lv' := [(5, .long x26), (4, .int y44), (0, .ref a0), (3, .int v17), (7, .int x27), (8, .long v43)]) hx hb dX12_afterwards_126 hl (by decide) rfl (fun ls hl => ?_)
                      refine lv_iinc (v := (x27 + 1)) (lv' := [(7, .int (x27 + 1)), (5, .long x26), (4, .int y44), (0, .ref a0), (3, .int v17), (8, .long v43)]) hx hb dX12_afterwards_128 hl (k := 4) rfl rfl (by decide) rfl (fun ls hl => ?_)
                      refine lv_goto (tgt := 53) hx hb dX12_afterwards_131 (by decide) ?_
                      exact ih53 y44 x26 (x27 + 1) S45 _ _ _ h hI (lv_sub hl [3, 4, 2, 1, 0] rfl)
                    · have h := hq_f h c47
                      refine lv_lload hx hb dX12_afterwards_119 (lv_at hl 5 rfl) ?_
                      refine lv_goto (tgt := 126) hx hb dX12_afterwards_121 (by decide) ?_
                      refine lv_lstore (lv' := [(5, .long v43), (4, .int y44), (0, .ref a0), (3, .int v17), (7, .int x27), (8, .long v43)]) hx hb dX12_afterwards_126 hl (by decide) rfl (fun ls hl => ?_)
                      refine lv_iinc (v := (x27 + 1)) (lv' := [(7, .int (x27 + 1)), (5, .long v43), (4, .int y44), (0, .ref a0), (3, .int v17), (8, .long v43)]) hx hb dX12_afterwards_128 hl (k := 4) rfl rfl (by decide) rfl (fun ls hl => ?_)
                      refine lv_goto (tgt := 53) hx hb dX12_afterwards_131 (by decide) ?_
                      exact ih53 y44 v43 (x27 + 1) S45 _ _ _ h hI (lv_sub hl [3, 4, 2, 1, 0] rfl)
                refine lv_icmp_eq (tgt := 97) hx hb dX12_afterwards_86 (by decide) (fun c48 => ?_) (fun c48 => ?_)
                · have h := hq_t h c48
                  refine lv_iload hx hb dX12_afterwards_97 (lv_at hl 5 rfl) ?_
                  refine lv_goto (tgt := 104) hx hb dX12_afterwards_99 (by decide) ?_
                  exact hJ104 x27 S42 _ _ _ h hI (lv_sub hl [1, 2, 4, 5, 0] rfl)
                · have h := hq_f h c48
                  refine lv_lload hx hb dX12_afterwards_89 (lv_at hl 0 rfl) ?_
                  refine lv_lload hx hb dX12_afterwards_91 (lv_at hl 4 rfl) ?_
                  refine W.lcmp hx hb dX12_afterwards_93 ?_
                  refine lv_if_ge (tgt := 102) hx hb dX12_afterwards_94 (by decide) (fun c49 => ?_) (fun c49 => ?_)
                  · have h := hq_t h c49
                    refine lv_iload hx hb dX12_afterwards_102 (lv_at hl 3 rfl) ?_
                    exact hJ104 x25 S42 _ _ _ h hI (lv_sub hl [1, 2, 4, 5, 0] rfl)
                  · have h := hq_f h c49
                    refine lv_iload hx hb dX12_afterwards_97 (lv_at hl 5 rfl) ?_
                    refine lv_goto (tgt := 104) hx hb dX12_afterwards_99 (by decide) ?_
                    exact hJ104 x27 S42 _ _ _ h hI (lv_sub hl [1, 2, 4, 5, 0] rfl)
          exact hL53 FU (-1) 0 0 S20 _ _ _ h hI (lv_sub hl [4, 3, 2, 1, 0] rfl)
        · have h := hq_f h c22
          refine lv_bipush (v := (-5)) hx hb dX12_afterwards_41 (by decide) ?_
          exact hq_iret hx hb hr hlocks h0 hI h dX12_afterwards_43
    · have h := hq_t h c9
      refine lv_iconst (v := (-1)) hx hb dX12_afterwards_15 (by decide) ?_
      exact hq_iret hx hb hr hlocks h0 hI h dX12_afterwards_16
-- RodDipsModel.kept(I)I
theorem dX12_kept_0 : decode cX12_kept 0 = .ok (.iload_n 1, 1) := by decide +kernel
theorem dX12_kept_1 : decode cX12_kept 1 = .ok (.ifCond .ge 7, 3) := by decide +kernel
theorem dX12_kept_4 : decode cX12_kept 4 = .ok (.iconst 0, 1) := by decide +kernel
theorem dX12_kept_5 : decode cX12_kept 5 = .ok (.goto 25, 3) := by decide +kernel
theorem dX12_kept_8 : decode cX12_kept 8 = .ok (.iload_n 1, 1) := by decide +kernel
theorem dX12_kept_9 : decode cX12_kept 9 = .ok (.aload_n 0, 1) := by decide +kernel
theorem dX12_kept_10 : decode cX12_kept 10 = .ok (.getfield 9, 3) := by decide +kernel
theorem dX12_kept_13 : decode cX12_kept 13 = .ok (.iconst 0, 1) := by decide +kernel
theorem dX12_kept_14 : decode cX12_kept 14 = .ok (.iaload, 1) := by decide +kernel
theorem dX12_kept_15 : decode cX12_kept 15 = .ok (.if_icmp .lt 14, 3) := by decide +kernel
theorem dX12_kept_18 : decode cX12_kept 18 = .ok (.aload_n 0, 1) := by decide +kernel
theorem dX12_kept_19 : decode cX12_kept 19 = .ok (.getfield 9, 3) := by decide +kernel
theorem dX12_kept_22 : decode cX12_kept 22 = .ok (.iconst 0, 1) := by decide +kernel
theorem dX12_kept_23 : decode cX12_kept 23 = .ok (.iaload, 1) := by decide +kernel
theorem dX12_kept_24 : decode cX12_kept 24 = .ok (.iconst 1, 1) := by decide +kernel
theorem dX12_kept_25 : decode cX12_kept 25 = .ok (.isub, 1) := by decide +kernel
theorem dX12_kept_26 : decode cX12_kept 26 = .ok (.goto 4, 3) := by decide +kernel
theorem dX12_kept_29 : decode cX12_kept 29 = .ok (.iload_n 1, 1) := by decide +kernel
theorem dX12_kept_30 : decode cX12_kept 30 = .ok (.ireturn, 1) := by decide +kernel
def f_X12_kept (S : HSt) (a0 : Nat) (a1 : Int32) : Option (Int32 × HSt) := if 0 ≤ a1 then ((gR S a0 12 1).bind fun b2 => (aI S b2 0 0).bind fun v5 => if a1 < v5 then (some (a1, S)) else ((gR S a0 12 1).bind fun b7 => (aI S b7 0 0).bind fun v10 => some (v10 - 1, S))) else (some (0, S))
abbrev rm_X12_kept : Room := { frames := 0, cells := 0, slots := 0, locals := 0 }
abbrev w_X12_kept : List Cond := Cond.code yX12_kept cX12_kept 2 (Option.some FieldType.int) :: lwG
theorem yd_X12_kept : yX12_kept.cls ≠ "java/lang/invoke/MethodHandle" ∧ yX12_kept.cls ≠ "java/lang/invoke/VarHandle" ∧ (parseMethodDescriptor yX12_kept.desc).map (fun d => d.parameters.length) = some 1 := by decide +kernel
theorem ye_X12_kept : yX12_kept.cls = RX12 ∧ yX12_kept.cls ≠ "java/lang/invoke/MethodHandle" ∧ yX12_kept.cls ≠ "java/lang/invoke/VarHandle" ∧ (parseMethodDescriptor yX12_kept.desc).map (fun d => d.parameters.length) = some 1 := by decide +kernel
set_option maxHeartbeats 4000000 in
set_option maxRecDepth 100000 in
theorem c_X12_kept (l : Launch) (D : va_G) (kA ρ : Nat → Nat) (HB : Heap) (S : HSt) (a0 : Nat) (a1 : Int32) (res : Int32 × HSt) (h : f_X12_kept S a0 a1 = some res) : Met l yX12_kept w_X12_kept rm_X12_kept (hPc D kA ρ HB S [.ref a0, .int a1]) (hQi D kA HB S res) 0 0 (hFree HB) := by
  refine Met.ofW (cc := cX12_kept) (maxL := 2) (ret := (Option.some FieldType.int)) (by decide) rfl ?_
  intro p e s m args below meth c s₁ B hml hv
  obtain ⟨rfl, hE, h0⟩ := hv
  have hx := B.exec
  have hb := B.bytes
  have hr := B.returns
  have hts0 := atoms_spec (ws := w_X12_kept) B.pre
  have hts : ∀ w ∈ lwG, w.before _ s = true := fun w hw => hts0 w (List.mem_cons_of_mem _ hw)
  have hown : s.vm.findClass RX12 = some m.cls := findClass_of_methodNamed B.named
  have hlocks := B.notSynchronized
  have hI : hqX D kA HB S.2 S s.heap [] := ⟨h0, Nat.le_refl _, fun _ q => absurd q List.not_mem_nil⟩
  have hl := lv_entry ([.ref a0, .int a1]) (n := 2) (Nat.le_of_ble_eq_true rfl)
  rw [lg_entry_eq]
  generalize (lg_sl ([.ref a0, .int a1]) ++ List.replicate (2 - (lg_sl ([.ref a0, .int a1])).length) Slot.unset).toArray = ls at hl ⊢
  have hl : lv_has ls 2 [(0, .ref a0), (1, .int a1)] := hl
  unfold f_X12_kept at h
  refine lv_iload_n hx hb dX12_kept_0 rfl (lv_at hl 1 rfl) ?_
  refine lv_if_ge (tgt := 8) hx hb dX12_kept_1 (by decide) (fun c1 => ?_) (fun c1 => ?_)
  · have h := hq_t h c1
    refine lv_iload_n hx hb dX12_kept_8 rfl (lv_at hl 1 rfl) ?_
    refine lv_aload_n hx hb dX12_kept_9 rfl (lv_at hl 0 rfl) ?_
    obtain ⟨b2, g3, h⟩ := hq_bind h
    obtain ⟨fs_g3, hs_g3, hv_g3⟩ := gR_at g3
    refine hq_get hx hb hts hown hE hI hs_g3 inG12 rfl 1 (by decide) kw_945 hv_g3 dX12_kept_10 ?_
    refine lv_iconst (v := 0) hx hb dX12_kept_13 (by decide) ?_
    obtain ⟨v5, g4, h⟩ := hq_bind h
    refine hq_iald hx hb hE hI g4 dX12_kept_14 ?_
    refine lv_icmp_lt (tgt := 29) hx hb dX12_kept_15 (by decide) (fun c6 => ?_) (fun c6 => ?_)
    · have h := hq_t h c6
      refine lv_iload_n hx hb dX12_kept_29 rfl (lv_at hl 1 rfl) ?_
      exact hq_iret hx hb hr hlocks h0 hI h dX12_kept_30
    · have h := hq_f h c6
      refine lv_aload_n hx hb dX12_kept_18 rfl (lv_at hl 0 rfl) ?_
      obtain ⟨b7, g8, h⟩ := hq_bind h
      obtain ⟨fs_g8, hs_g8, hv_g8⟩ := gR_at g8
      refine hq_get hx hb hts hown hE hI hs_g8 inG12 rfl 1 (by decide) kw_945 hv_g8 dX12_kept_19 ?_
      refine lv_iconst (v := 0) hx hb dX12_kept_22 (by decide) ?_
      obtain ⟨v10, g9, h⟩ := hq_bind h
      refine hq_iald hx hb hE hI g9 dX12_kept_23 ?_
      refine lv_iconst (v := 1) hx hb dX12_kept_24 (by decide) ?_
      refine lv_isub hx hb dX12_kept_25 ?_
      refine lv_goto (tgt := 30) hx hb dX12_kept_26 (by decide) ?_
      exact hq_iret hx hb hr hlocks h0 hI h dX12_kept_30
  · have h := hq_f h c1
    refine lv_iconst (v := 0) hx hb dX12_kept_4 (by decide) ?_
    refine lv_goto (tgt := 30) hx hb dX12_kept_5 (by decide) ?_
    exact hq_iret hx hb hr hlocks h0 hI h dX12_kept_30
-- RodDipsModel.saysBy(II)I
theorem dX12_saysBy_0 : decode cX12_saysBy 0 = .ok (.aload_n 0, 1) := by decide +kernel
theorem dX12_saysBy_1 : decode cX12_saysBy 1 = .ok (.iconst 5, 1) := by decide +kernel
theorem dX12_saysBy_2 : decode cX12_saysBy 2 = .ok (.iload_n 1, 1) := by decide +kernel
theorem dX12_saysBy_3 : decode cX12_saysBy 3 = .ok (.iadd, 1) := by decide +kernel
theorem dX12_saysBy_4 : decode cX12_saysBy 4 = .ok (.iload_n 2, 1) := by decide +kernel
theorem dX12_saysBy_5 : decode cX12_saysBy 5 = .ok (.invokevirtual 169, 3) := by decide +kernel
theorem dX12_saysBy_8 : decode cX12_saysBy 8 = .ok (.aload_n 0, 1) := by decide +kernel
theorem dX12_saysBy_9 : decode cX12_saysBy 9 = .ok (.getfield 162, 3) := by decide +kernel
theorem dX12_saysBy_12 : decode cX12_saysBy 12 = .ok (.iconst (-1), 1) := by decide +kernel
theorem dX12_saysBy_13 : decode cX12_saysBy 13 = .ok (.if_icmp .ne 6, 3) := by decide +kernel
theorem dX12_saysBy_16 : decode cX12_saysBy 16 = .ok (.bipush (-5), 2) := by decide +kernel
theorem dX12_saysBy_18 : decode cX12_saysBy 18 = .ok (.ireturn, 1) := by decide +kernel
theorem dX12_saysBy_19 : decode cX12_saysBy 19 = .ok (.aload_n 0, 1) := by decide +kernel
theorem dX12_saysBy_20 : decode cX12_saysBy 20 = .ok (.getfield 162, 3) := by decide +kernel
theorem dX12_saysBy_23 : decode cX12_saysBy 23 = .ok (.bipush 100, 2) := by decide +kernel
theorem dX12_saysBy_25 : decode cX12_saysBy 25 = .ok (.irem, 1) := by decide +kernel
theorem dX12_saysBy_26 : decode cX12_saysBy 26 = .ok (.istore_n 3, 1) := by decide +kernel
theorem dX12_saysBy_27 : decode cX12_saysBy 27 = .ok (.aload_n 0, 1) := by decide +kernel
theorem dX12_saysBy_28 : decode cX12_saysBy 28 = .ok (.getfield 162, 3) := by decide +kernel
theorem dX12_saysBy_31 : decode cX12_saysBy 31 = .ok (.bipush 100, 2) := by decide +kernel
theorem dX12_saysBy_33 : decode cX12_saysBy 33 = .ok (.idiv, 1) := by decide +kernel
theorem dX12_saysBy_34 : decode cX12_saysBy 34 = .ok (.istore 4, 2) := by decide +kernel
theorem dX12_saysBy_36 : decode cX12_saysBy 36 = .ok (.aload_n 0, 1) := by decide +kernel
theorem dX12_saysBy_37 : decode cX12_saysBy 37 = .ok (.iload 4, 2) := by decide +kernel
theorem dX12_saysBy_39 : decode cX12_saysBy 39 = .ok (.iconst 2, 1) := by decide +kernel
theorem dX12_saysBy_40 : decode cX12_saysBy 40 = .ok (.if_icmp .ne 7, 3) := by decide +kernel
theorem dX12_saysBy_43 : decode cX12_saysBy 43 = .ok (.iload_n 3, 1) := by decide +kernel
theorem dX12_saysBy_44 : decode cX12_saysBy 44 = .ok (.goto 36, 3) := by decide +kernel
theorem dX12_saysBy_47 : decode cX12_saysBy 47 = .ok (.iload 4, 2) := by decide +kernel
theorem dX12_saysBy_49 : decode cX12_saysBy 49 = .ok (.iconst 3, 1) := by decide +kernel
theorem dX12_saysBy_50 : decode cX12_saysBy 50 = .ok (.if_icmp .ne 18, 3) := by decide +kernel
theorem dX12_saysBy_53 : decode cX12_saysBy 53 = .ok (.aload_n 0, 1) := by decide +kernel
theorem dX12_saysBy_54 : decode cX12_saysBy 54 = .ok (.getfield 9, 3) := by decide +kernel
theorem dX12_saysBy_57 : decode cX12_saysBy 57 = .ok (.sipush 220, 3) := by decide +kernel
theorem dX12_saysBy_60 : decode cX12_saysBy 60 = .ok (.iload_n 2, 1) := by decide +kernel
theorem dX12_saysBy_61 : decode cX12_saysBy 61 = .ok (.iadd, 1) := by decide +kernel
theorem dX12_saysBy_62 : decode cX12_saysBy 62 = .ok (.iaload, 1) := by decide +kernel
theorem dX12_saysBy_63 : decode cX12_saysBy 63 = .ok (.iload_n 3, 1) := by decide +kernel
theorem dX12_saysBy_64 : decode cX12_saysBy 64 = .ok (.iadd, 1) := by decide +kernel
theorem dX12_saysBy_65 : decode cX12_saysBy 65 = .ok (.goto 15, 3) := by decide +kernel
theorem dX12_saysBy_68 : decode cX12_saysBy 68 = .ok (.aload_n 0, 1) := by decide +kernel
theorem dX12_saysBy_69 : decode cX12_saysBy 69 = .ok (.getfield 9, 3) := by decide +kernel
theorem dX12_saysBy_72 : decode cX12_saysBy 72 = .ok (.sipush 220, 3) := by decide +kernel
theorem dX12_saysBy_75 : decode cX12_saysBy 75 = .ok (.iload_n 2, 1) := by decide +kernel
theorem dX12_saysBy_76 : decode cX12_saysBy 76 = .ok (.iadd, 1) := by decide +kernel
theorem dX12_saysBy_77 : decode cX12_saysBy 77 = .ok (.iaload, 1) := by decide +kernel
theorem dX12_saysBy_78 : decode cX12_saysBy 78 = .ok (.iload_n 3, 1) := by decide +kernel
theorem dX12_saysBy_79 : decode cX12_saysBy 79 = .ok (.isub, 1) := by decide +kernel
theorem dX12_saysBy_80 : decode cX12_saysBy 80 = .ok (.invokevirtual 233, 3) := by decide +kernel
theorem dX12_saysBy_83 : decode cX12_saysBy 83 = .ok (.ireturn, 1) := by decide +kernel
def f_X12_saysBy (S : HSt) (a0 : Nat) (a1 : Int32) (a2 : Int32) : Option (Int32 × HSt) := if gC S a0 = some 12 then ((f_X12_looks S a0 (5 + a1) a2).bind fun S3 => (gI S3 a0 12 12).bind fun v4 => if v4 = (-1) then (some ((-5), S3)) else ((gI S3 a0 12 12).bind fun v7 => (gI S3 a0 12 12).bind fun v9 => if (v9 / 100) = 2 then (if gC S3 a0 = some 12 then (bd2 (f_X12_kept S3 a0 (v7 - v7 / 100 * 100)) fun v32 S31 => some (v32, S31)) else none) else (if (v9 / 100) = 3 then ((gR S3 a0 12 1).bind fun b21 => (aI S3 b21 0 (220 + a2)).bind fun v24 => if gC S3 a0 = some 12 then (bd2 (f_X12_kept S3 a0 (v24 + (v7 - v7 / 100 * 100))) fun v28 S27 => some (v28, S27)) else none) else ((gR S3 a0 12 1).bind fun b13 => (aI S3 b13 0 (220 + a2)).bind fun v16 => if gC S3 a0 = some 12 then (bd2 (f_X12_kept S3 a0 (v16 - (v7 - v7 / 100 * 100))) fun v20 S19 => some (v20, S19)) else none)))) else none
abbrev rm_X12_saysBy : Room := { frames := 4, cells := 0, slots := 0, locals := 92 }
abbrev w_X12_saysBy : List Cond := Cond.code yX12_saysBy cX12_saysBy 5 (Option.some FieldType.int) :: lwG
theorem yd_X12_saysBy : yX12_saysBy.cls ≠ "java/lang/invoke/MethodHandle" ∧ yX12_saysBy.cls ≠ "java/lang/invoke/VarHandle" ∧ (parseMethodDescriptor yX12_saysBy.desc).map (fun d => d.parameters.length) = some 2 := by decide +kernel
theorem ye_X12_saysBy : yX12_saysBy.cls = RX12 ∧ yX12_saysBy.cls ≠ "java/lang/invoke/MethodHandle" ∧ yX12_saysBy.cls ≠ "java/lang/invoke/VarHandle" ∧ (parseMethodDescriptor yX12_saysBy.desc).map (fun d => d.parameters.length) = some 2 := by decide +kernel
set_option maxHeartbeats 4000000 in
set_option maxRecDepth 100000 in
theorem c_X12_saysBy (l : Launch) (D : va_G) (kA ρ : Nat → Nat) (HB : Heap) (S : HSt) (a0 : Nat) (a1 : Int32) (a2 : Int32) (res : Int32 × HSt) (h : f_X12_saysBy S a0 a1 a2 = some res) : Met l yX12_saysBy w_X12_saysBy rm_X12_saysBy (hPc D kA ρ HB S [.ref a0, .int a1, .int a2]) (hQi D kA HB S res) 0 0 (hFree HB) := by
  refine Met.ofW (cc := cX12_saysBy) (maxL := 5) (ret := (Option.some FieldType.int)) (by decide) rfl ?_
  intro p e s m args below meth c s₁ B hml hv
  obtain ⟨rfl, hE, h0⟩ := hv
  have hx := B.exec
  have hb := B.bytes
  have hr := B.returns
  have hts0 := atoms_spec (ws := w_X12_saysBy) B.pre
  have hts : ∀ w ∈ lwG, w.before _ s = true := fun w hw => hts0 w (List.mem_cons_of_mem _ hw)
  have hown : s.vm.findClass RX12 = some m.cls := findClass_of_methodNamed B.named
  have hlocks := B.notSynchronized
  have hI : hqX D kA HB S.2 S s.heap [] := ⟨h0, Nat.le_refl _, fun _ q => absurd q List.not_mem_nil⟩
  have hl := lv_entry ([.ref a0, .int a1, .int a2]) (n := 5) (Nat.le_of_ble_eq_true rfl)
  rw [lg_entry_eq]
  generalize (lg_sl ([.ref a0, .int a1, .int a2]) ++ List.replicate (5 - (lg_sl ([.ref a0, .int a1, .int a2])).length) Slot.unset).toArray = ls at hl ⊢
  have hl : lv_has ls 5 [(0, .ref a0), (1, .int a1), (2, .int a2)] := hl
  unfold f_X12_saysBy at h
  refine lv_aload_n hx hb dX12_saysBy_0 rfl (lv_at hl 0 rfl) ?_
  refine lv_iconst (v := 5) hx hb dX12_saysBy_1 (by decide) ?_
  refine lv_iload_n hx hb dX12_saysBy_2 rfl (lv_at hl 1 rfl) ?_
  refine lv_iadd hx hb dX12_saysBy_3 ?_
  refine lv_iload_n hx hb dX12_saysBy_4 rfl (lv_at hl 2 rfl) ?_
  obtain ⟨g2, h⟩ := hq_g h
  obtain ⟨S3, g1, h⟩ := hq_bind h
  refine hq_callv hI (va_runV (As := [.int (5 + a1), .int a2]) (rest := []) ⟨hx, hb, hml, hown, hts⟩ (c_X12_looks l D kA ρ HB S a0 (5 + a1) a2 _ g1) (cwV 2 hts (gdIn (List.forall_mem_cons.mpr ⟨kw_1145, (List.forall_mem_cons.mpr ⟨kw_1147, (List.forall_mem_cons.mpr ⟨ks_51, (List.forall_mem_cons.mpr ⟨kw_6, (fun _ h => absurd h List.not_mem_nil)⟩)⟩)⟩)⟩) kw_1148) rfl rfl rfl ye_X12_looks ⟨Nat.le_of_ble_eq_true rfl, Nat.le_of_ble_eq_true rfl⟩) (hq_preC hE hI g2 rfl _) rfl rfl hl.1 rfl (lv_room (Nat.le_of_ble_eq_true rfl)) dX12_saysBy_5 ⟨Nat.le_of_ble_eq_true rfl, Nat.le_of_ble_eq_true rfl⟩) (fun H locs hI => ?_)
  refine lv_aload_n hx hb dX12_saysBy_8 rfl (lv_at hl 0 rfl) ?_
  obtain ⟨v4, g5, h⟩ := hq_bind h
  obtain ⟨fs_g5, hs_g5, hv_g5⟩ := gI_at g5
  refine hq_get hx hb hts hown hE hI hs_g5 inG12 rfl 12 (by decide) kw_956 hv_g5 dX12_saysBy_9 ?_
  refine lv_iconst (v := (-1)) hx hb dX12_saysBy_12 (by decide) ?_
  refine lv_icmp_ne (tgt := 19) hx hb dX12_saysBy_13 (by decide) (fun c6 => ?_) (fun c6 => ?_)
  · have h := hq_f h c6
    refine lv_aload_n hx hb dX12_saysBy_19 rfl (lv_at hl 0 rfl) ?_
    obtain ⟨v7, g8, h⟩ := hq_bind h
    obtain ⟨fs_g8, hs_g8, hv_g8⟩ := gI_at g8
    refine hq_get hx hb hts hown hE hI hs_g8 inG12 rfl 12 (by decide) kw_956 hv_g8 dX12_saysBy_20 ?_
    refine lv_bipush (v := 100) hx hb dX12_saysBy_23 (by decide) ?_
    refine lv_irem hx hb dX12_saysBy_25 (by decide) ?_
    refine lv_istore_n (lv' := [(3, .int (v7 - v7 / 100 * 100)), (0, .ref a0), (1, .int a1), (2, .int a2)]) hx hb dX12_saysBy_26 rfl hl (by decide) rfl (fun ls hl => ?_)
    refine lv_aload_n hx hb dX12_saysBy_27 rfl (lv_at hl 1 rfl) ?_
    obtain ⟨v9, g10, h⟩ := hq_bind h
    obtain ⟨fs_g10, hs_g10, hv_g10⟩ := gI_at g10
    refine hq_get hx hb hts hown hE hI hs_g10 inG12 rfl 12 (by decide) kw_956 hv_g10 dX12_saysBy_28 ?_
    refine lv_bipush (v := 100) hx hb dX12_saysBy_31 (by decide) ?_
    refine lv_idiv hx hb dX12_saysBy_33 (by decide) ?_
    refine lv_istore (lv' := [(4, .int (v9 / 100)), (3, .int (v7 - v7 / 100 * 100)), (0, .ref a0), (1, .int a1), (2, .int a2)]) hx hb dX12_saysBy_34 hl (by decide) rfl (fun ls hl => ?_)
    refine lv_aload_n hx hb dX12_saysBy_36 rfl (lv_at hl 2 rfl) ?_
    refine lv_iload hx hb dX12_saysBy_37 (lv_at hl 0 rfl) ?_
    refine lv_iconst (v := 2) hx hb dX12_saysBy_39 (by decide) ?_
    refine lv_icmp_ne (tgt := 47) hx hb dX12_saysBy_40 (by decide) (fun c11 => ?_) (fun c11 => ?_)
    · have h := hq_f h c11
      refine lv_iload hx hb dX12_saysBy_47 (lv_at hl 0 rfl) ?_
      refine lv_iconst (v := 3) hx hb dX12_saysBy_49 (by decide) ?_
      refine lv_icmp_ne (tgt := 68) hx hb dX12_saysBy_50 (by decide) (fun c12 => ?_) (fun c12 => ?_)
      · have h := hq_f h c12
        refine lv_aload_n hx hb dX12_saysBy_68 rfl (lv_at hl 2 rfl) ?_
        obtain ⟨b13, g14, h⟩ := hq_bind h
        obtain ⟨fs_g14, hs_g14, hv_g14⟩ := gR_at g14
        refine hq_get hx hb hts hown hE hI hs_g14 inG12 rfl 1 (by decide) kw_945 hv_g14 dX12_saysBy_69 ?_
        refine lv_sipush (v := 220) hx hb dX12_saysBy_72 (by decide) ?_
        refine lv_iload_n hx hb dX12_saysBy_75 rfl (lv_at hl 4 rfl) ?_
        refine lv_iadd hx hb dX12_saysBy_76 ?_
        obtain ⟨v16, g15, h⟩ := hq_bind h
        refine hq_iald hx hb hE hI g15 dX12_saysBy_77 ?_
        refine lv_iload_n hx hb dX12_saysBy_78 rfl (lv_at hl 1 rfl) ?_
        refine lv_isub hx hb dX12_saysBy_79 ?_
        obtain ⟨g18, h⟩ := hq_g h
        obtain ⟨v20, S19, g17, h⟩ := hq_bd2 h
        refine hq_calli hI (va_runV (As := [.int (v16 - (v7 - v7 / 100 * 100))]) (rest := []) ⟨hx, hb, hml, hown, hts⟩ (c_X12_kept l D kA ρ HB S3 a0 (v16 - (v7 - v7 / 100 * 100)) _ g17) (cwV 1 hts (gdIn (List.forall_mem_cons.mpr ⟨kw_1251, (List.forall_mem_cons.mpr ⟨kw_1253, (List.forall_mem_cons.mpr ⟨ks_66, (List.forall_mem_cons.mpr ⟨kw_6, (fun _ h => absurd h List.not_mem_nil)⟩)⟩)⟩)⟩) kw_1254) rfl rfl rfl ye_X12_kept ⟨Nat.le_of_ble_eq_true rfl, Nat.le_of_ble_eq_true rfl⟩) (hq_preC hE hI g18 rfl _) rfl rfl hl.1 rfl (lv_room (Nat.le_of_ble_eq_true rfl)) dX12_saysBy_80 ⟨Nat.le_of_ble_eq_true rfl, Nat.le_of_ble_eq_true rfl⟩) (fun H locs hI => ?_)
        exact hq_iret hx hb hr hlocks h0 hI h dX12_saysBy_83
      · have h := hq_t h c12
        refine lv_aload_n hx hb dX12_saysBy_53 rfl (lv_at hl 2 rfl) ?_
        obtain ⟨b21, g22, h⟩ := hq_bind h
        obtain ⟨fs_g22, hs_g22, hv_g22⟩ := gR_at g22
        refine hq_get hx hb hts hown hE hI hs_g22 inG12 rfl 1 (by decide) kw_945 hv_g22 dX12_saysBy_54 ?_
        refine lv_sipush (v := 220) hx hb dX12_saysBy_57 (by decide) ?_
        refine lv_iload_n hx hb dX12_saysBy_60 rfl (lv_at hl 4 rfl) ?_
        refine lv_iadd hx hb dX12_saysBy_61 ?_
        obtain ⟨v24, g23, h⟩ := hq_bind h
        refine hq_iald hx hb hE hI g23 dX12_saysBy_62 ?_
        refine lv_iload_n hx hb dX12_saysBy_63 rfl (lv_at hl 1 rfl) ?_
        refine lv_iadd hx hb dX12_saysBy_64 ?_
        refine lv_goto (tgt := 80) hx hb dX12_saysBy_65 (by decide) ?_
        obtain ⟨g26, h⟩ := hq_g h
        obtain ⟨v28, S27, g25, h⟩ := hq_bd2 h
        refine hq_calli hI (va_runV (As := [.int (v24 + (v7 - v7 / 100 * 100))]) (rest := []) ⟨hx, hb, hml, hown, hts⟩ (c_X12_kept l D kA ρ HB S3 a0 (v24 + (v7 - v7 / 100 * 100)) _ g25) (cwV 1 hts (gdIn (List.forall_mem_cons.mpr ⟨kw_1251, (List.forall_mem_cons.mpr ⟨kw_1253, (List.forall_mem_cons.mpr ⟨ks_66, (List.forall_mem_cons.mpr ⟨kw_6, (fun _ h => absurd h List.not_mem_nil)⟩)⟩)⟩)⟩) kw_1254) rfl rfl rfl ye_X12_kept ⟨Nat.le_of_ble_eq_true rfl, Nat.le_of_ble_eq_true rfl⟩) (hq_preC hE hI g26 rfl _) rfl rfl hl.1 rfl (lv_room (Nat.le_of_ble_eq_true rfl)) dX12_saysBy_80 ⟨Nat.le_of_ble_eq_true rfl, Nat.le_of_ble_eq_true rfl⟩) (fun H locs hI => ?_)
        exact hq_iret hx hb hr hlocks h0 hI h dX12_saysBy_83
    · have h := hq_t h c11
      refine lv_iload_n hx hb dX12_saysBy_43 rfl (lv_at hl 1 rfl) ?_
      refine lv_goto (tgt := 80) hx hb dX12_saysBy_44 (by decide) ?_
      obtain ⟨g30, h⟩ := hq_g h
      obtain ⟨v32, S31, g29, h⟩ := hq_bd2 h
      refine hq_calli hI (va_runV (As := [.int (v7 - v7 / 100 * 100)]) (rest := []) ⟨hx, hb, hml, hown, hts⟩ (c_X12_kept l D kA ρ HB S3 a0 (v7 - v7 / 100 * 100) _ g29) (cwV 1 hts (gdIn (List.forall_mem_cons.mpr ⟨kw_1251, (List.forall_mem_cons.mpr ⟨kw_1253, (List.forall_mem_cons.mpr ⟨ks_66, (List.forall_mem_cons.mpr ⟨kw_6, (fun _ h => absurd h List.not_mem_nil)⟩)⟩)⟩)⟩) kw_1254) rfl rfl rfl ye_X12_kept ⟨Nat.le_of_ble_eq_true rfl, Nat.le_of_ble_eq_true rfl⟩) (hq_preC hE hI g30 rfl _) rfl rfl hl.1 rfl (lv_room (Nat.le_of_ble_eq_true rfl)) dX12_saysBy_80 ⟨Nat.le_of_ble_eq_true rfl, Nat.le_of_ble_eq_true rfl⟩) (fun H locs hI => ?_)
      exact hq_iret hx hb hr hlocks h0 hI h dX12_saysBy_83
  · have h := hq_t h c6
    refine lv_bipush (v := (-5)) hx hb dX12_saysBy_16 (by decide) ?_
    exact hq_iret hx hb hr hlocks h0 hI h dX12_saysBy_18
-- RodDipsModel.says(II)I
theorem dX12_says_0 : decode cX12_says 0 = .ok (.aload_n 0, 1) := by decide +kernel
theorem dX12_says_1 : decode cX12_says 1 = .ok (.iload_n 1, 1) := by decide +kernel
theorem dX12_says_2 : decode cX12_says 2 = .ok (.invokevirtual 236, 3) := by decide +kernel
theorem dX12_says_5 : decode cX12_says 5 = .ok (.ifCond .eq 20, 3) := by decide +kernel
theorem dX12_says_8 : decode cX12_says 8 = .ok (.aload_n 0, 1) := by decide +kernel
theorem dX12_says_9 : decode cX12_says 9 = .ok (.iload_n 2, 1) := by decide +kernel
theorem dX12_says_10 : decode cX12_says 10 = .ok (.invokevirtual 50, 3) := by decide +kernel
theorem dX12_says_13 : decode cX12_says 13 = .ok (.ifCond .eq 12, 3) := by decide +kernel
theorem dX12_says_16 : decode cX12_says 16 = .ok (.aload_n 0, 1) := by decide +kernel
theorem dX12_says_17 : decode cX12_says 17 = .ok (.iload_n 1, 1) := by decide +kernel
theorem dX12_says_18 : decode cX12_says 18 = .ok (.iload_n 2, 1) := by decide +kernel
theorem dX12_says_19 : decode cX12_says 19 = .ok (.invokevirtual 239, 3) := by decide +kernel
theorem dX12_says_22 : decode cX12_says 22 = .ok (.goto 4, 3) := by decide +kernel
theorem dX12_says_25 : decode cX12_says 25 = .ok (.iconst (-1), 1) := by decide +kernel
theorem dX12_says_26 : decode cX12_says 26 = .ok (.ireturn, 1) := by decide +kernel
def f_X12_says (S : HSt) (a0 : Nat) (a1 : Int32) (a2 : Int32) : Option (Int32 × HSt) := if gC S a0 = some 12 then (bd2 (f_X12_isLaw S a0 a1) fun v4 S3 => if v4 = 0 then (some ((-1), S3)) else (if gC S3 a0 = some 12 then (bd2 (f_X12_isTry S3 a0 a2) fun v9 S8 => if v9 = 0 then (some ((-1), S8)) else (if gC S8 a0 = some 12 then (bd2 (f_X12_saysBy S8 a0 a1 a2) fun v14 S13 => some (v14, S13)) else none)) else none)) else none
abbrev rm_X12_says : Room := { frames := 5, cells := 0, slots := 0, locals := 116 }
abbrev w_X12_says : List Cond := Cond.code yX12_says cX12_says 3 (Option.some FieldType.int) :: lwG
theorem yd_X12_says : yX12_says.cls ≠ "java/lang/invoke/MethodHandle" ∧ yX12_says.cls ≠ "java/lang/invoke/VarHandle" ∧ (parseMethodDescriptor yX12_says.desc).map (fun d => d.parameters.length) = some 2 := by decide +kernel
theorem ye_X12_says : yX12_says.cls = RX12 ∧ yX12_says.cls ≠ "java/lang/invoke/MethodHandle" ∧ yX12_says.cls ≠ "java/lang/invoke/VarHandle" ∧ (parseMethodDescriptor yX12_says.desc).map (fun d => d.parameters.length) = some 2 := by decide +kernel
set_option maxHeartbeats 4000000 in
set_option maxRecDepth 100000 in
theorem c_X12_says (l : Launch) (D : va_G) (kA ρ : Nat → Nat) (HB : Heap) (S : HSt) (a0 : Nat) (a1 : Int32) (a2 : Int32) (res : Int32 × HSt) (h : f_X12_says S a0 a1 a2 = some res) : Met l yX12_says w_X12_says rm_X12_says (hPc D kA ρ HB S [.ref a0, .int a1, .int a2]) (hQi D kA HB S res) 0 0 (hFree HB) := by
  refine Met.ofW (cc := cX12_says) (maxL := 3) (ret := (Option.some FieldType.int)) (by decide) rfl ?_
  intro p e s m args below meth c s₁ B hml hv
  obtain ⟨rfl, hE, h0⟩ := hv
  have hx := B.exec
  have hb := B.bytes
  have hr := B.returns
  have hts0 := atoms_spec (ws := w_X12_says) B.pre
  have hts : ∀ w ∈ lwG, w.before _ s = true := fun w hw => hts0 w (List.mem_cons_of_mem _ hw)
  have hown : s.vm.findClass RX12 = some m.cls := findClass_of_methodNamed B.named
  have hlocks := B.notSynchronized
  have hI : hqX D kA HB S.2 S s.heap [] := ⟨h0, Nat.le_refl _, fun _ q => absurd q List.not_mem_nil⟩
  have hl := lv_entry ([.ref a0, .int a1, .int a2]) (n := 3) (Nat.le_of_ble_eq_true rfl)
  rw [lg_entry_eq]
  generalize (lg_sl ([.ref a0, .int a1, .int a2]) ++ List.replicate (3 - (lg_sl ([.ref a0, .int a1, .int a2])).length) Slot.unset).toArray = ls at hl ⊢
  have hl : lv_has ls 3 [(0, .ref a0), (1, .int a1), (2, .int a2)] := hl
  unfold f_X12_says at h
  refine lv_aload_n hx hb dX12_says_0 rfl (lv_at hl 0 rfl) ?_
  refine lv_iload_n hx hb dX12_says_1 rfl (lv_at hl 1 rfl) ?_
  obtain ⟨g2, h⟩ := hq_g h
  obtain ⟨v4, S3, g1, h⟩ := hq_bd2 h
  refine hq_calli hI (va_runV (As := [.int a1]) (rest := []) ⟨hx, hb, hml, hown, hts⟩ (c_X12_isLaw l D kA ρ HB S a0 a1 _ g1) (cwV 1 hts (gdIn (List.forall_mem_cons.mpr ⟨kw_1243, (List.forall_mem_cons.mpr ⟨kw_1245, (List.forall_mem_cons.mpr ⟨ks_64, (List.forall_mem_cons.mpr ⟨kw_6, (fun _ h => absurd h List.not_mem_nil)⟩)⟩)⟩)⟩) kw_1246) rfl rfl rfl ye_X12_isLaw ⟨Nat.le_of_ble_eq_true rfl, Nat.le_of_ble_eq_true rfl⟩) (hq_preC hE hI g2 rfl _) rfl rfl hl.1 rfl (lv_room (Nat.le_of_ble_eq_true rfl)) dX12_says_2 ⟨Nat.le_of_ble_eq_true rfl, Nat.le_of_ble_eq_true rfl⟩) (fun H locs hI => ?_)
  refine lv_if_eq (tgt := 25) hx hb dX12_says_5 (by decide) (fun c5 => ?_) (fun c5 => ?_)
  · have h := hq_t h c5
    refine lv_iconst (v := (-1)) hx hb dX12_says_25 (by decide) ?_
    exact hq_iret hx hb hr hlocks h0 hI h dX12_says_26
  · have h := hq_f h c5
    refine lv_aload_n hx hb dX12_says_8 rfl (lv_at hl 0 rfl) ?_
    refine lv_iload_n hx hb dX12_says_9 rfl (lv_at hl 2 rfl) ?_
    obtain ⟨g7, h⟩ := hq_g h
    obtain ⟨v9, S8, g6, h⟩ := hq_bd2 h
    refine hq_calli hI (va_runV (As := [.int a2]) (rest := []) ⟨hx, hb, hml, hown, hts⟩ (c_X12_isTry l D kA ρ HB S3 a0 a2 _ g6) (cwV 1 hts (gdIn (List.forall_mem_cons.mpr ⟨kw_1028, (List.forall_mem_cons.mpr ⟨kw_1030, (List.forall_mem_cons.mpr ⟨ks_31, (List.forall_mem_cons.mpr ⟨kw_6, (fun _ h => absurd h List.not_mem_nil)⟩)⟩)⟩)⟩) kw_1031) rfl rfl rfl ye_X12_isTry ⟨Nat.le_of_ble_eq_true rfl, Nat.le_of_ble_eq_true rfl⟩) (hq_preC hE hI g7 rfl _) rfl rfl hl.1 rfl (lv_room (Nat.le_of_ble_eq_true rfl)) dX12_says_10 ⟨Nat.le_of_ble_eq_true rfl, Nat.le_of_ble_eq_true rfl⟩) (fun H locs hI => ?_)
    refine lv_if_eq (tgt := 25) hx hb dX12_says_13 (by decide) (fun c10 => ?_) (fun c10 => ?_)
    · have h := hq_t h c10
      refine lv_iconst (v := (-1)) hx hb dX12_says_25 (by decide) ?_
      exact hq_iret hx hb hr hlocks h0 hI h dX12_says_26
    · have h := hq_f h c10
      refine lv_aload_n hx hb dX12_says_16 rfl (lv_at hl 0 rfl) ?_
      refine lv_iload_n hx hb dX12_says_17 rfl (lv_at hl 1 rfl) ?_
      refine lv_iload_n hx hb dX12_says_18 rfl (lv_at hl 2 rfl) ?_
      obtain ⟨g12, h⟩ := hq_g h
      obtain ⟨v14, S13, g11, h⟩ := hq_bd2 h
      refine hq_calli hI (va_runV (As := [.int a1, .int a2]) (rest := []) ⟨hx, hb, hml, hown, hts⟩ (c_X12_saysBy l D kA ρ HB S8 a0 a1 a2 _ g11) (cwV 2 hts (gdIn (List.forall_mem_cons.mpr ⟨kw_1247, (List.forall_mem_cons.mpr ⟨kw_1249, (List.forall_mem_cons.mpr ⟨ks_65, (List.forall_mem_cons.mpr ⟨kw_6, (fun _ h => absurd h List.not_mem_nil)⟩)⟩)⟩)⟩) kw_1250) rfl rfl rfl ye_X12_saysBy ⟨Nat.le_of_ble_eq_true rfl, Nat.le_of_ble_eq_true rfl⟩) (hq_preC hE hI g12 rfl _) rfl rfl hl.1 rfl (lv_room (Nat.le_of_ble_eq_true rfl)) dX12_says_19 ⟨Nat.le_of_ble_eq_true rfl, Nat.le_of_ble_eq_true rfl⟩) (fun H locs hI => ?_)
      refine lv_goto (tgt := 26) hx hb dX12_says_22 (by decide) ?_
      exact hq_iret hx hb hr hlocks h0 hI h dX12_says_26
-- RodDipsModel.has(II)Z
theorem dX12_has_0 : decode cX12_has 0 = .ok (.aload_n 0, 1) := by decide +kernel
theorem dX12_has_1 : decode cX12_has 1 = .ok (.iload_n 1, 1) := by decide +kernel
theorem dX12_has_2 : decode cX12_has 2 = .ok (.iload_n 2, 1) := by decide +kernel
theorem dX12_has_3 : decode cX12_has 3 = .ok (.invokevirtual 239, 3) := by decide +kernel
theorem dX12_has_6 : decode cX12_has 6 = .ok (.istore_n 3, 1) := by decide +kernel
theorem dX12_has_7 : decode cX12_has 7 = .ok (.iload_n 3, 1) := by decide +kernel
theorem dX12_has_8 : decode cX12_has 8 = .ok (.bipush (-5), 2) := by decide +kernel
theorem dX12_has_10 : decode cX12_has 10 = .ok (.if_icmp .eq 31, 3) := by decide +kernel
theorem dX12_has_13 : decode cX12_has 13 = .ok (.iload_n 3, 1) := by decide +kernel
theorem dX12_has_14 : decode cX12_has 14 = .ok (.aload_n 0, 1) := by decide +kernel
theorem dX12_has_15 : decode cX12_has 15 = .ok (.getfield 9, 3) := by decide +kernel
theorem dX12_has_18 : decode cX12_has 18 = .ok (.sipush 250, 3) := by decide +kernel
theorem dX12_has_21 : decode cX12_has 21 = .ok (.iload_n 2, 1) := by decide +kernel
theorem dX12_has_22 : decode cX12_has 22 = .ok (.iadd, 1) := by decide +kernel
theorem dX12_has_23 : decode cX12_has 23 = .ok (.iaload, 1) := by decide +kernel
theorem dX12_has_24 : decode cX12_has 24 = .ok (.isub, 1) := by decide +kernel
theorem dX12_has_25 : decode cX12_has 25 = .ok (.invokestatic 53, 3) := by decide +kernel
theorem dX12_has_28 : decode cX12_has 28 = .ok (.aload_n 0, 1) := by decide +kernel
theorem dX12_has_29 : decode cX12_has 29 = .ok (.getfield 9, 3) := by decide +kernel
theorem dX12_has_32 : decode cX12_has 32 = .ok (.sipush 320, 3) := by decide +kernel
theorem dX12_has_35 : decode cX12_has 35 = .ok (.iload_n 1, 1) := by decide +kernel
theorem dX12_has_36 : decode cX12_has 36 = .ok (.iadd, 1) := by decide +kernel
theorem dX12_has_37 : decode cX12_has 37 = .ok (.iaload, 1) := by decide +kernel
theorem dX12_has_38 : decode cX12_has 38 = .ok (.if_icmp .gt 7, 3) := by decide +kernel
theorem dX12_has_41 : decode cX12_has 41 = .ok (.iconst 1, 1) := by decide +kernel
theorem dX12_has_42 : decode cX12_has 42 = .ok (.goto 4, 3) := by decide +kernel
theorem dX12_has_45 : decode cX12_has 45 = .ok (.iconst 0, 1) := by decide +kernel
theorem dX12_has_46 : decode cX12_has 46 = .ok (.ireturn, 1) := by decide +kernel
def f_X12_has (S : HSt) (a0 : Nat) (a1 : Int32) (a2 : Int32) : Option (Int32 × HSt) := if gC S a0 = some 12 then (bd2 (f_X12_saysBy S a0 a1 a2) fun v4 S3 => if v4 = (-5) then (some (1, S3)) else ((gR S3 a0 12 1).bind fun b6 => (aI S3 b6 0 (250 + a2)).bind fun v9 => bd2 (f_X12_size S3 (v4 - v9)) fun v12 S11 => (gR S11 a0 12 1).bind fun b13 => (aI S11 b13 0 (320 + a1)).bind fun v16 => if v16 < v12 then (some (0, S11)) else (some (1, S11)))) else none
abbrev rm_X12_has : Room := { frames := 5, cells := 0, slots := 0, locals := 116 }
abbrev w_X12_has : List Cond := Cond.code yX12_has cX12_has 4 (Option.some FieldType.boolean) :: lwG
theorem yd_X12_has : yX12_has.cls ≠ "java/lang/invoke/MethodHandle" ∧ yX12_has.cls ≠ "java/lang/invoke/VarHandle" ∧ (parseMethodDescriptor yX12_has.desc).map (fun d => d.parameters.length) = some 2 := by decide +kernel
theorem ye_X12_has : yX12_has.cls = RX12 ∧ yX12_has.cls ≠ "java/lang/invoke/MethodHandle" ∧ yX12_has.cls ≠ "java/lang/invoke/VarHandle" ∧ (parseMethodDescriptor yX12_has.desc).map (fun d => d.parameters.length) = some 2 := by decide +kernel
set_option maxHeartbeats 4000000 in
set_option maxRecDepth 100000 in
theorem c_X12_has (l : Launch) (D : va_G) (kA ρ : Nat → Nat) (HB : Heap) (S : HSt) (a0 : Nat) (a1 : Int32) (a2 : Int32) (res : Int32 × HSt) (h : f_X12_has S a0 a1 a2 = some res) : Met l yX12_has w_X12_has rm_X12_has (hPc D kA ρ HB S [.ref a0, .int a1, .int a2]) (hQi D kA HB S res) 0 0 (hFree HB) := by
  refine Met.ofW (cc := cX12_has) (maxL := 4) (ret := (Option.some FieldType.boolean)) (by decide) rfl ?_
  intro p e s m args below meth c s₁ B hml hv
  obtain ⟨rfl, hE, h0⟩ := hv
  have hx := B.exec
  have hb := B.bytes
  have hr := B.returns
  have hts0 := atoms_spec (ws := w_X12_has) B.pre
  have hts : ∀ w ∈ lwG, w.before _ s = true := fun w hw => hts0 w (List.mem_cons_of_mem _ hw)
  have hown : s.vm.findClass RX12 = some m.cls := findClass_of_methodNamed B.named
  have hlocks := B.notSynchronized
  have hI : hqX D kA HB S.2 S s.heap [] := ⟨h0, Nat.le_refl _, fun _ q => absurd q List.not_mem_nil⟩
  have hl := lv_entry ([.ref a0, .int a1, .int a2]) (n := 4) (Nat.le_of_ble_eq_true rfl)
  rw [lg_entry_eq]
  generalize (lg_sl ([.ref a0, .int a1, .int a2]) ++ List.replicate (4 - (lg_sl ([.ref a0, .int a1, .int a2])).length) Slot.unset).toArray = ls at hl ⊢
  have hl : lv_has ls 4 [(0, .ref a0), (1, .int a1), (2, .int a2)] := hl
  unfold f_X12_has at h
  refine lv_aload_n hx hb dX12_has_0 rfl (lv_at hl 0 rfl) ?_
  refine lv_iload_n hx hb dX12_has_1 rfl (lv_at hl 1 rfl) ?_
  refine lv_iload_n hx hb dX12_has_2 rfl (lv_at hl 2 rfl) ?_
  obtain ⟨g2, h⟩ := hq_g h
  obtain ⟨v4, S3, g1, h⟩ := hq_bd2 h
  refine hq_calli hI (va_runV (As := [.int a1, .int a2]) (rest := []) ⟨hx, hb, hml, hown, hts⟩ (c_X12_saysBy l D kA ρ HB S a0 a1 a2 _ g1) (cwV 2 hts (gdIn (List.forall_mem_cons.mpr ⟨kw_1247, (List.forall_mem_cons.mpr ⟨kw_1249, (List.forall_mem_cons.mpr ⟨ks_65, (List.forall_mem_cons.mpr ⟨kw_6, (fun _ h => absurd h List.not_mem_nil)⟩)⟩)⟩)⟩) kw_1250) rfl rfl rfl ye_X12_saysBy ⟨Nat.le_of_ble_eq_true rfl, Nat.le_of_ble_eq_true rfl⟩) (hq_preC hE hI g2 rfl _) rfl rfl hl.1 rfl (lv_room (Nat.le_of_ble_eq_true rfl)) dX12_has_3 ⟨Nat.le_of_ble_eq_true rfl, Nat.le_of_ble_eq_true rfl⟩) (fun H locs hI => ?_)
  refine lv_istore_n (lv' := [(3, .int v4), (0, .ref a0), (1, .int a1), (2, .int a2)]) hx hb dX12_has_6 rfl hl (by decide) rfl (fun ls hl => ?_)
  refine lv_iload_n hx hb dX12_has_7 rfl (lv_at hl 0 rfl) ?_
  refine lv_bipush (v := (-5)) hx hb dX12_has_8 (by decide) ?_
  refine lv_icmp_eq (tgt := 41) hx hb dX12_has_10 (by decide) (fun c5 => ?_) (fun c5 => ?_)
  · have h := hq_t h c5
    refine lv_iconst (v := 1) hx hb dX12_has_41 (by decide) ?_
    refine lv_goto (tgt := 46) hx hb dX12_has_42 (by decide) ?_
    exact hq_zret hx hb hr hlocks h0 hI (by decide) h dX12_has_46
  · have h := hq_f h c5
    refine lv_iload_n hx hb dX12_has_13 rfl (lv_at hl 0 rfl) ?_
    refine lv_aload_n hx hb dX12_has_14 rfl (lv_at hl 1 rfl) ?_
    obtain ⟨b6, g7, h⟩ := hq_bind h
    obtain ⟨fs_g7, hs_g7, hv_g7⟩ := gR_at g7
    refine hq_get hx hb hts hown hE hI hs_g7 inG12 rfl 1 (by decide) kw_945 hv_g7 dX12_has_15 ?_
    refine lv_sipush (v := 250) hx hb dX12_has_18 (by decide) ?_
    refine lv_iload_n hx hb dX12_has_21 rfl (lv_at hl 3 rfl) ?_
    refine lv_iadd hx hb dX12_has_22 ?_
    obtain ⟨v9, g8, h⟩ := hq_bind h
    refine hq_iald hx hb hE hI g8 dX12_has_23 ?_
    refine lv_isub hx hb dX12_has_24 ?_
    obtain ⟨v12, S11, g10, h⟩ := hq_bd2 h
    refine hq_calli hI (va_runS (As := [.int (v4 - v9)]) (rest := []) ⟨hx, hb, hml, hown, hts⟩ (c_X12_size l D kA ρ HB S3 (v4 - v9) _ g10) (va_cwS 1 hts (gdIn (List.forall_mem_cons.mpr ⟨kw_1040, (List.forall_mem_cons.mpr ⟨kw_1041, (List.forall_mem_cons.mpr ⟨kw_6, (fun _ h => absurd h List.not_mem_nil)⟩)⟩)⟩) kw_1042) rfl rfl rfl yd_X12_size ⟨Nat.le_of_ble_eq_true rfl, Nat.le_of_ble_eq_true rfl⟩) (hq_preS hE hI _) rfl rfl hl.1 rfl (lv_room (Nat.le_of_ble_eq_true rfl)) dX12_has_25 ⟨Nat.le_of_ble_eq_true rfl, Nat.le_of_ble_eq_true rfl⟩) (fun H locs hI => ?_)
    refine lv_aload_n hx hb dX12_has_28 rfl (lv_at hl 1 rfl) ?_
    obtain ⟨b13, g14, h⟩ := hq_bind h
    obtain ⟨fs_g14, hs_g14, hv_g14⟩ := gR_at g14
    refine hq_get hx hb hts hown hE hI hs_g14 inG12 rfl 1 (by decide) kw_945 hv_g14 dX12_has_29 ?_
    refine lv_sipush (v := 320) hx hb dX12_has_32 (by decide) ?_
    refine lv_iload_n hx hb dX12_has_35 rfl (lv_at hl 2 rfl) ?_
    refine lv_iadd hx hb dX12_has_36 ?_
    obtain ⟨v16, g15, h⟩ := hq_bind h
    refine hq_iald hx hb hE hI g15 dX12_has_37 ?_
    refine lv_icmp_gt (tgt := 45) hx hb dX12_has_38 (by decide) (fun c17 => ?_) (fun c17 => ?_)
    · have h := hq_t h c17
      refine lv_iconst (v := 0) hx hb dX12_has_45 (by decide) ?_
      exact hq_zret hx hb hr hlocks h0 hI (by decide) h dX12_has_46
    · have h := hq_f h c17
      refine lv_iconst (v := 1) hx hb dX12_has_41 (by decide) ?_
      refine lv_goto (tgt := 46) hx hb dX12_has_42 (by decide) ?_
      exact hq_zret hx hb hr hlocks h0 hI (by decide) h dX12_has_46
-- RodDipsModel.cannot(I)I
theorem dX12_cannot_0 : decode cX12_cannot 0 = .ok (.aload_n 0, 1) := by decide +kernel
theorem dX12_cannot_1 : decode cX12_cannot 1 = .ok (.iload_n 1, 1) := by decide +kernel
theorem dX12_cannot_2 : decode cX12_cannot 2 = .ok (.invokevirtual 236, 3) := by decide +kernel
theorem dX12_cannot_5 : decode cX12_cannot 5 = .ok (.ifCond .ne 5, 3) := by decide +kernel
theorem dX12_cannot_8 : decode cX12_cannot 8 = .ok (.iconst (-1), 1) := by decide +kernel
theorem dX12_cannot_9 : decode cX12_cannot 9 = .ok (.ireturn, 1) := by decide +kernel
theorem dX12_cannot_10 : decode cX12_cannot 10 = .ok (.iconst 0, 1) := by decide +kernel
theorem dX12_cannot_11 : decode cX12_cannot 11 = .ok (.istore_n 2, 1) := by decide +kernel
theorem dX12_cannot_12 : decode cX12_cannot 12 = .ok (.iload_n 2, 1) := by decide +kernel
theorem dX12_cannot_13 : decode cX12_cannot 13 = .ok (.aload_n 0, 1) := by decide +kernel
theorem dX12_cannot_14 : decode cX12_cannot 14 = .ok (.getfield 9, 3) := by decide +kernel
theorem dX12_cannot_17 : decode cX12_cannot 17 = .ok (.iconst 1, 1) := by decide +kernel
theorem dX12_cannot_18 : decode cX12_cannot 18 = .ok (.iaload, 1) := by decide +kernel
theorem dX12_cannot_19 : decode cX12_cannot 19 = .ok (.if_icmp .ge 20, 3) := by decide +kernel
theorem dX12_cannot_22 : decode cX12_cannot 22 = .ok (.aload_n 0, 1) := by decide +kernel
theorem dX12_cannot_23 : decode cX12_cannot 23 = .ok (.iload_n 1, 1) := by decide +kernel
theorem dX12_cannot_24 : decode cX12_cannot 24 = .ok (.iload_n 2, 1) := by decide +kernel
theorem dX12_cannot_25 : decode cX12_cannot 25 = .ok (.invokevirtual 242, 3) := by decide +kernel
theorem dX12_cannot_28 : decode cX12_cannot 28 = .ok (.ifCond .ne 5, 3) := by decide +kernel
theorem dX12_cannot_31 : decode cX12_cannot 31 = .ok (.iload_n 2, 1) := by decide +kernel
theorem dX12_cannot_32 : decode cX12_cannot 32 = .ok (.ireturn, 1) := by decide +kernel
theorem dX12_cannot_33 : decode cX12_cannot 33 = .ok (.iinc 2 1, 3) := by decide +kernel
theorem dX12_cannot_36 : decode cX12_cannot 36 = .ok (.goto (-24), 3) := by decide +kernel
theorem dX12_cannot_39 : decode cX12_cannot 39 = .ok (.bipush (-5), 2) := by decide +kernel
theorem dX12_cannot_41 : decode cX12_cannot 41 = .ok (.ireturn, 1) := by decide +kernel
def f_X12_cannot_K39 (S6 : HSt) : Option (Int32 × HSt) := some ((-5), S6)
def f_X12_cannot_B12 (a0 : Nat) (a1 : Int32) (kx39 : (HSt → Option (Int32 × HSt))) (kb12 : (Int32 → HSt → Option (Int32 × HSt))) (x7 : Int32) (S8 : HSt) : Option (Int32 × HSt) := (gR S8 a0 12 1).bind fun b9 => (aI S8 b9 0 1).bind fun v12 => if v12 ≤ x7 then (kx39 S8) else (if gC S8 a0 = some 12 then (bd2 (f_X12_has S8 a0 a1 x7) fun v17 S16 => if v17 = 0 then (some (x7, S16)) else (kb12 (x7 + 1) S16)) else none)
def f_X12_cannot_L12 (a0 : Nat) (a1 : Int32) (kx39 : (HSt → Option (Int32 × HSt))) : Nat → Int32 → HSt → Option (Int32 × HSt)
  | 0, _, _ => none
  | n + 1, x7, S => f_X12_cannot_B12 a0 a1 kx39 (f_X12_cannot_L12 a0 a1 kx39 n) x7 S
def f_X12_cannot (S : HSt) (a0 : Nat) (a1 : Int32) : Option (Int32 × HSt) := if gC S a0 = some 12 then (bd2 (f_X12_isLaw S a0 a1) fun v4 S3 => if v4 = 0 then (some ((-1), S3)) else ((f_X12_cannot_L12 a0 a1 f_X12_cannot_K39 FU) 0 S3)) else none
abbrev rm_X12_cannot : Room := { frames := 6, cells := 0, slots := 0, locals := 139 }
abbrev w_X12_cannot : List Cond := Cond.code yX12_cannot cX12_cannot 3 (Option.some FieldType.int) :: lwG
theorem yd_X12_cannot : yX12_cannot.cls ≠ "java/lang/invoke/MethodHandle" ∧ yX12_cannot.cls ≠ "java/lang/invoke/VarHandle" ∧ (parseMethodDescriptor yX12_cannot.desc).map (fun d => d.parameters.length) = some 1 := by decide +kernel
theorem ye_X12_cannot : yX12_cannot.cls = RX12 ∧ yX12_cannot.cls ≠ "java/lang/invoke/MethodHandle" ∧ yX12_cannot.cls ≠ "java/lang/invoke/VarHandle" ∧ (parseMethodDescriptor yX12_cannot.desc).map (fun d => d.parameters.length) = some 1 := by decide +kernel
set_option maxHeartbeats 4000000 in
set_option maxRecDepth 100000 in
theorem c_X12_cannot (l : Launch) (D : va_G) (kA ρ : Nat → Nat) (HB : Heap) (S : HSt) (a0 : Nat) (a1 : Int32) (res : Int32 × HSt) (h : f_X12_cannot S a0 a1 = some res) : Met l yX12_cannot w_X12_cannot rm_X12_cannot (hPc D kA ρ HB S [.ref a0, .int a1]) (hQi D kA HB S res) 0 0 (hFree HB) := by
  refine Met.ofW (cc := cX12_cannot) (maxL := 3) (ret := (Option.some FieldType.int)) (by decide) rfl ?_
  intro p e s m args below meth c s₁ B hml hv
  obtain ⟨rfl, hE, h0⟩ := hv
  have hx := B.exec
  have hb := B.bytes
  have hr := B.returns
  have hts0 := atoms_spec (ws := w_X12_cannot) B.pre
  have hts : ∀ w ∈ lwG, w.before _ s = true := fun w hw => hts0 w (List.mem_cons_of_mem _ hw)
  have hown : s.vm.findClass RX12 = some m.cls := findClass_of_methodNamed B.named
  have hlocks := B.notSynchronized
  have hI : hqX D kA HB S.2 S s.heap [] := ⟨h0, Nat.le_refl _, fun _ q => absurd q List.not_mem_nil⟩
  have hl := lv_entry ([.ref a0, .int a1]) (n := 3) (Nat.le_of_ble_eq_true rfl)
  rw [lg_entry_eq]
  generalize (lg_sl ([.ref a0, .int a1]) ++ List.replicate (3 - (lg_sl ([.ref a0, .int a1])).length) Slot.unset).toArray = ls at hl ⊢
  have hl : lv_has ls 3 [(0, .ref a0), (1, .int a1)] := hl
  unfold f_X12_cannot at h
  refine lv_aload_n hx hb dX12_cannot_0 rfl (lv_at hl 0 rfl) ?_
  refine lv_iload_n hx hb dX12_cannot_1 rfl (lv_at hl 1 rfl) ?_
  obtain ⟨g2, h⟩ := hq_g h
  obtain ⟨v4, S3, g1, h⟩ := hq_bd2 h
  refine hq_calli hI (va_runV (As := [.int a1]) (rest := []) ⟨hx, hb, hml, hown, hts⟩ (c_X12_isLaw l D kA ρ HB S a0 a1 _ g1) (cwV 1 hts (gdIn (List.forall_mem_cons.mpr ⟨kw_1243, (List.forall_mem_cons.mpr ⟨kw_1245, (List.forall_mem_cons.mpr ⟨ks_64, (List.forall_mem_cons.mpr ⟨kw_6, (fun _ h => absurd h List.not_mem_nil)⟩)⟩)⟩)⟩) kw_1246) rfl rfl rfl ye_X12_isLaw ⟨Nat.le_of_ble_eq_true rfl, Nat.le_of_ble_eq_true rfl⟩) (hq_preC hE hI g2 rfl _) rfl rfl hl.1 rfl (lv_room (Nat.le_of_ble_eq_true rfl)) dX12_cannot_2 ⟨Nat.le_of_ble_eq_true rfl, Nat.le_of_ble_eq_true rfl⟩) (fun H locs hI => ?_)
  refine lv_if_ne (tgt := 10) hx hb dX12_cannot_5 (by decide) (fun c5 => ?_) (fun c5 => ?_)
  · have h := hq_f h c5
    refine lv_iconst (v := 0) hx hb dX12_cannot_10 (by decide) ?_
    refine lv_istore_n (lv' := [(2, .int 0), (0, .ref a0), (1, .int a1)]) hx hb dX12_cannot_11 rfl hl (by decide) rfl (fun ls hl => ?_)
    have hK39 : ∀ (S6 : HSt) (H : Heap) (locs : List Loc) (ls : Array Slot), f_X12_cannot_K39 S6 = some res → hqX D kA HB S.2 S6 H locs → lv_has ls 3 [] → W p l e rm_X12_cannot s m ([.ref a0, .int a1] : List Value).toArray below meth c H locs 0 0 (MQ below (hQi D kA HB S res) ([.ref a0, .int a1] : List Value).toArray s 0 0 (hFree HB)) (F0 m 39 ls []) := by
      intro S6 H locs ls h hI hl
      unfold f_X12_cannot_K39 at h
      refine lv_bipush (v := (-5)) hx hb dX12_cannot_39 (by decide) ?_
      exact hq_iret hx hb hr hlocks h0 hI h dX12_cannot_41
    have hL12 : ∀ (n12 : Nat) (x7 : Int32) (S8 : HSt) (H : Heap) (locs : List Loc) (ls : Array Slot), (f_X12_cannot_L12 a0 a1 f_X12_cannot_K39 n12) x7 S8 = some res → hqX D kA HB S.2 S8 H locs → lv_has ls 3 [(0, .ref a0), (1, .int a1), (2, .int x7)] → W p l e rm_X12_cannot s m ([.ref a0, .int a1] : List Value).toArray below meth c H locs 0 0 (MQ below (hQi D kA HB S res) ([.ref a0, .int a1] : List Value).toArray s 0 0 (hFree HB)) (F0 m 12 ls []) := by
      intro n12
      induction n12 with
      | zero =>
        intro x7 S8 H locs ls h
        have h : (none : Option (Int32 × HSt)) = some res := h
        cases h
      | succ n12 ih12 =>
        intro x7 S8 H locs ls h hI hl
        have h : f_X12_cannot_B12 a0 a1 f_X12_cannot_K39 (f_X12_cannot_L12 a0 a1 f_X12_cannot_K39 n12) x7 S8 = some res := h
        unfold f_X12_cannot_B12 at h
        refine lv_iload_n hx hb dX12_cannot_12 rfl (lv_at hl 2 rfl) ?_
        refine lv_aload_n hx hb dX12_cannot_13 rfl (lv_at hl 0 rfl) ?_
        obtain ⟨b9, g10, h⟩ := hq_bind h
        obtain ⟨fs_g10, hs_g10, hv_g10⟩ := gR_at g10
        refine hq_get hx hb hts hown hE hI hs_g10 inG12 rfl 1 (by decide) kw_945 hv_g10 dX12_cannot_14 ?_
        refine lv_iconst (v := 1) hx hb dX12_cannot_17 (by decide) ?_
        obtain ⟨v12, g11, h⟩ := hq_bind h
        refine hq_iald hx hb hE hI g11 dX12_cannot_18 ?_
        refine lv_icmp_ge (tgt := 39) hx hb dX12_cannot_19 (by decide) (fun c13 => ?_) (fun c13 => ?_)
        · have h := hq_t h c13
          exact hK39 S8 _ _ _ h hI (lv_sub hl [] rfl)
        · have h := hq_f h c13
          refine lv_aload_n hx hb dX12_cannot_22 rfl (lv_at hl 0 rfl) ?_
          refine lv_iload_n hx hb dX12_cannot_23 rfl (lv_at hl 1 rfl) ?_
          refine lv_iload_n hx hb dX12_cannot_24 rfl (lv_at hl 2 rfl) ?_
          obtain ⟨g15, h⟩ := hq_g h
          obtain ⟨v17, S16, g14, h⟩ := hq_bd2 h
          refine hq_calli hI (va_runV (As := [.int a1, .int x7]) (rest := []) ⟨hx, hb, hml, hown, hts⟩ (c_X12_has l D kA ρ HB S8 a0 a1 x7 _ g14) (cwV 2 hts (gdIn (List.forall_mem_cons.mpr ⟨kw_1259, (List.forall_mem_cons.mpr ⟨kw_1261, (List.forall_mem_cons.mpr ⟨ks_67, (List.forall_mem_cons.mpr ⟨kw_6, (fun _ h => absurd h List.not_mem_nil)⟩)⟩)⟩)⟩) kw_1262) rfl rfl rfl ye_X12_has ⟨Nat.le_of_ble_eq_true rfl, Nat.le_of_ble_eq_true rfl⟩) (hq_preC hE hI g15 rfl _) rfl rfl hl.1 rfl (lv_room (Nat.le_of_ble_eq_true rfl)) dX12_cannot_25 ⟨Nat.le_of_ble_eq_true rfl, Nat.le_of_ble_eq_true rfl⟩) (fun H locs hI => ?_)
          refine lv_if_ne (tgt := 33) hx hb dX12_cannot_28 (by decide) (fun c18 => ?_) (fun c18 => ?_)
          · have h := hq_f h c18
            refine lv_iinc (v := (x7 + 1)) (lv' := [(2, .int (x7 + 1)), (0, .ref a0), (1, .int a1)]) hx hb dX12_cannot_33 hl (k := 2) rfl rfl (by decide) rfl (fun ls hl => ?_)
            refine lv_goto (tgt := 12) hx hb dX12_cannot_36 (by decide) ?_
            exact ih12 (x7 + 1) S16 _ _ _ h hI (lv_sub hl [1, 2, 0] rfl)
          · have h := hq_t h c18
            refine lv_iload_n hx hb dX12_cannot_31 rfl (lv_at hl 2 rfl) ?_
            exact hq_iret hx hb hr hlocks h0 hI h dX12_cannot_32
    exact hL12 FU 0 S3 _ _ _ h hI (lv_sub hl [1, 2, 0] rfl)
  · have h := hq_t h c5
    refine lv_iconst (v := (-1)) hx hb dX12_cannot_8 (by decide) ?_
    exact hq_iret hx hb hr hlocks h0 hI h dX12_cannot_9
-- RodDipsModel.fitting(II)I
theorem dX12_fitting_0 : decode cX12_fitting 0 = .ok (.iconst 0, 1) := by decide +kernel
theorem dX12_fitting_1 : decode cX12_fitting 1 = .ok (.istore_n 3, 1) := by decide +kernel
theorem dX12_fitting_2 : decode cX12_fitting 2 = .ok (.iconst 0, 1) := by decide +kernel
theorem dX12_fitting_3 : decode cX12_fitting 3 = .ok (.istore 4, 2) := by decide +kernel
theorem dX12_fitting_5 : decode cX12_fitting 5 = .ok (.iload 4, 2) := by decide +kernel
theorem dX12_fitting_7 : decode cX12_fitting 7 = .ok (.aload_n 0, 1) := by decide +kernel
theorem dX12_fitting_8 : decode cX12_fitting 8 = .ok (.getfield 9, 3) := by decide +kernel
theorem dX12_fitting_11 : decode cX12_fitting 11 = .ok (.iconst 1, 1) := by decide +kernel
theorem dX12_fitting_12 : decode cX12_fitting 12 = .ok (.iaload, 1) := by decide +kernel
theorem dX12_fitting_13 : decode cX12_fitting 13 = .ok (.if_icmp .ge 37, 3) := by decide +kernel
theorem dX12_fitting_16 : decode cX12_fitting 16 = .ok (.iload_n 3, 1) := by decide +kernel
theorem dX12_fitting_17 : decode cX12_fitting 17 = .ok (.iload_n 2, 1) := by decide +kernel
theorem dX12_fitting_18 : decode cX12_fitting 18 = .ok (.iload 4, 2) := by decide +kernel
theorem dX12_fitting_20 : decode cX12_fitting 20 = .ok (.ishr, 1) := by decide +kernel
theorem dX12_fitting_21 : decode cX12_fitting 21 = .ok (.iconst 1, 1) := by decide +kernel
theorem dX12_fitting_22 : decode cX12_fitting 22 = .ok (.iand, 1) := by decide +kernel
theorem dX12_fitting_23 : decode cX12_fitting 23 = .ok (.iconst 1, 1) := by decide +kernel
theorem dX12_fitting_24 : decode cX12_fitting 24 = .ok (.if_icmp .ne 17, 3) := by decide +kernel
theorem dX12_fitting_27 : decode cX12_fitting 27 = .ok (.aload_n 0, 1) := by decide +kernel
theorem dX12_fitting_28 : decode cX12_fitting 28 = .ok (.iload_n 1, 1) := by decide +kernel
theorem dX12_fitting_29 : decode cX12_fitting 29 = .ok (.iload 4, 2) := by decide +kernel
theorem dX12_fitting_31 : decode cX12_fitting 31 = .ok (.invokevirtual 242, 3) := by decide +kernel
theorem dX12_fitting_34 : decode cX12_fitting 34 = .ok (.ifCond .eq 7, 3) := by decide +kernel
theorem dX12_fitting_37 : decode cX12_fitting 37 = .ok (.iconst 1, 1) := by decide +kernel
theorem dX12_fitting_38 : decode cX12_fitting 38 = .ok (.goto 4, 3) := by decide +kernel
theorem dX12_fitting_41 : decode cX12_fitting 41 = .ok (.iconst 0, 1) := by decide +kernel
theorem dX12_fitting_42 : decode cX12_fitting 42 = .ok (.iadd, 1) := by decide +kernel
theorem dX12_fitting_43 : decode cX12_fitting 43 = .ok (.istore_n 3, 1) := by decide +kernel
theorem dX12_fitting_44 : decode cX12_fitting 44 = .ok (.iinc 4 1, 3) := by decide +kernel
theorem dX12_fitting_47 : decode cX12_fitting 47 = .ok (.goto (-42), 3) := by decide +kernel
theorem dX12_fitting_50 : decode cX12_fitting 50 = .ok (.iload_n 3, 1) := by decide +kernel
theorem dX12_fitting_51 : decode cX12_fitting 51 = .ok (.ireturn, 1) := by decide +kernel
def f_X12_fitting_K50 (x1 : Int32) (S2 : HSt) : Option (Int32 × HSt) := some (x1, S2)
def f_X12_fitting_B5 (a0 : Nat) (a1 : Int32) (a2 : Int32) (kx50 : (Int32 → HSt → Option (Int32 × HSt))) (kb5 : (Int32 → Int32 → HSt → Option (Int32 × HSt))) (x3 : Int32) (x4 : Int32) (S5 : HSt) : Option (Int32 × HSt) := (gR S5 a0 12 1).bind fun b6 => (aI S5 b6 0 1).bind fun v9 => if v9 ≤ x4 then (kx50 x3 S5) else (if ((a2 >>> (x4 &&& 31)) &&& 1) = 1 then (if gC S5 a0 = some 12 then (bd2 (f_X12_has S5 a0 a1 x4) fun v15 S14 => if v15 = 0 then (kb5 (x3 + 0) (x4 + 1) S14) else (kb5 (x3 + 1) (x4 + 1) S14)) else none) else (kb5 (x3 + 0) (x4 + 1) S5))
def f_X12_fitting_L5 (a0 : Nat) (a1 : Int32) (a2 : Int32) (kx50 : (Int32 → HSt → Option (Int32 × HSt))) : Nat → Int32 → Int32 → HSt → Option (Int32 × HSt)
  | 0, _, _, _ => none
  | n + 1, x3, x4, S => f_X12_fitting_B5 a0 a1 a2 kx50 (f_X12_fitting_L5 a0 a1 a2 kx50 n) x3 x4 S
def f_X12_fitting (S : HSt) (a0 : Nat) (a1 : Int32) (a2 : Int32) : Option (Int32 × HSt) := (f_X12_fitting_L5 a0 a1 a2 f_X12_fitting_K50 FU) 0 0 S
abbrev rm_X12_fitting : Room := { frames := 6, cells := 0, slots := 0, locals := 139 }
abbrev w_X12_fitting : List Cond := Cond.code yX12_fitting cX12_fitting 5 (Option.some FieldType.int) :: lwG
theorem yd_X12_fitting : yX12_fitting.cls ≠ "java/lang/invoke/MethodHandle" ∧ yX12_fitting.cls ≠ "java/lang/invoke/VarHandle" ∧ (parseMethodDescriptor yX12_fitting.desc).map (fun d => d.parameters.length) = some 2 := by decide +kernel
theorem ye_X12_fitting : yX12_fitting.cls = RX12 ∧ yX12_fitting.cls ≠ "java/lang/invoke/MethodHandle" ∧ yX12_fitting.cls ≠ "java/lang/invoke/VarHandle" ∧ (parseMethodDescriptor yX12_fitting.desc).map (fun d => d.parameters.length) = some 2 := by decide +kernel
set_option maxHeartbeats 4000000 in
set_option maxRecDepth 100000 in
theorem c_X12_fitting (l : Launch) (D : va_G) (kA ρ : Nat → Nat) (HB : Heap) (S : HSt) (a0 : Nat) (a1 : Int32) (a2 : Int32) (res : Int32 × HSt) (h : f_X12_fitting S a0 a1 a2 = some res) : Met l yX12_fitting w_X12_fitting rm_X12_fitting (hPc D kA ρ HB S [.ref a0, .int a1, .int a2]) (hQi D kA HB S res) 0 0 (hFree HB) := by
  refine Met.ofW (cc := cX12_fitting) (maxL := 5) (ret := (Option.some FieldType.int)) (by decide) rfl ?_
  intro p e s m args below meth c s₁ B hml hv
  obtain ⟨rfl, hE, h0⟩ := hv
  have hx := B.exec
  have hb := B.bytes
  have hr := B.returns
  have hts0 := atoms_spec (ws := w_X12_fitting) B.pre
  have hts : ∀ w ∈ lwG, w.before _ s = true := fun w hw => hts0 w (List.mem_cons_of_mem _ hw)
  have hown : s.vm.findClass RX12 = some m.cls := findClass_of_methodNamed B.named
  have hlocks := B.notSynchronized
  have hI : hqX D kA HB S.2 S s.heap [] := ⟨h0, Nat.le_refl _, fun _ q => absurd q List.not_mem_nil⟩
  have hl := lv_entry ([.ref a0, .int a1, .int a2]) (n := 5) (Nat.le_of_ble_eq_true rfl)
  rw [lg_entry_eq]
  generalize (lg_sl ([.ref a0, .int a1, .int a2]) ++ List.replicate (5 - (lg_sl ([.ref a0, .int a1, .int a2])).length) Slot.unset).toArray = ls at hl ⊢
  have hl : lv_has ls 5 [(0, .ref a0), (1, .int a1), (2, .int a2)] := hl
  unfold f_X12_fitting at h
  refine lv_iconst (v := 0) hx hb dX12_fitting_0 (by decide) ?_
  refine lv_istore_n (lv' := [(3, .int 0), (0, .ref a0), (1, .int a1), (2, .int a2)]) hx hb dX12_fitting_1 rfl hl (by decide) rfl (fun ls hl => ?_)
  refine lv_iconst (v := 0) hx hb dX12_fitting_2 (by decide) ?_
  refine lv_istore (lv' := [(4, .int 0), (3, .int 0), (0, .ref a0), (1, .int a1), (2, .int a2)]) hx hb dX12_fitting_3 hl (by decide) rfl (fun ls hl => ?_)
  have hK50 : ∀ (x1 : Int32) (S2 : HSt) (H : Heap) (locs : List Loc) (ls : Array Slot), f_X12_fitting_K50 x1 S2 = some res → hqX D kA HB S.2 S2 H locs → lv_has ls 5 [(3, .int x1)] → W p l e rm_X12_fitting s m ([.ref a0, .int a1, .int a2] : List Value).toArray below meth c H locs 0 0 (MQ below (hQi D kA HB S res) ([.ref a0, .int a1, .int a2] : List Value).toArray s 0 0 (hFree HB)) (F0 m 50 ls []) := by
    intro x1 S2 H locs ls h hI hl
    unfold f_X12_fitting_K50 at h
    refine lv_iload_n hx hb dX12_fitting_50 rfl (lv_at hl 0 rfl) ?_
    exact hq_iret hx hb hr hlocks h0 hI h dX12_fitting_51
  have hL5 : ∀ (n5 : Nat) (x3 : Int32) (x4 : Int32) (S5 : HSt) (H : Heap) (locs : List Loc) (ls : Array Slot), (f_X12_fitting_L5 a0 a1 a2 f_X12_fitting_K50 n5) x3 x4 S5 = some res → hqX D kA HB S.2 S5 H locs → lv_has ls 5 [(0, .ref a0), (1, .int a1), (2, .int a2), (3, .int x3), (4, .int x4)] → W p l e rm_X12_fitting s m ([.ref a0, .int a1, .int a2] : List Value).toArray below meth c H locs 0 0 (MQ below (hQi D kA HB S res) ([.ref a0, .int a1, .int a2] : List Value).toArray s 0 0 (hFree HB)) (F0 m 5 ls []) := by
    intro n5
    induction n5 with
    | zero =>
      intro x3 x4 S5 H locs ls h
      have h : (none : Option (Int32 × HSt)) = some res := h
      cases h
    | succ n5 ih5 =>
      intro x3 x4 S5 H locs ls h hI hl
      have h : f_X12_fitting_B5 a0 a1 a2 f_X12_fitting_K50 (f_X12_fitting_L5 a0 a1 a2 f_X12_fitting_K50 n5) x3 x4 S5 = some res := h
      unfold f_X12_fitting_B5 at h
      refine lv_iload hx hb dX12_fitting_5 (lv_at hl 4 rfl) ?_
      refine lv_aload_n hx hb dX12_fitting_7 rfl (lv_at hl 0 rfl) ?_
      obtain ⟨b6, g7, h⟩ := hq_bind h
      obtain ⟨fs_g7, hs_g7, hv_g7⟩ := gR_at g7
      refine hq_get hx hb hts hown hE hI hs_g7 inG12 rfl 1 (by decide) kw_945 hv_g7 dX12_fitting_8 ?_
      refine lv_iconst (v := 1) hx hb dX12_fitting_11 (by decide) ?_
      obtain ⟨v9, g8, h⟩ := hq_bind h
      refine hq_iald hx hb hE hI g8 dX12_fitting_12 ?_
      refine lv_icmp_ge (tgt := 50) hx hb dX12_fitting_13 (by decide) (fun c10 => ?_) (fun c10 => ?_)
      · have h := hq_t h c10
        exact hK50 x3 S5 _ _ _ h hI (lv_sub hl [3] rfl)
      · have h := hq_f h c10
        refine lv_iload_n hx hb dX12_fitting_16 rfl (lv_at hl 3 rfl) ?_
        refine lv_iload_n hx hb dX12_fitting_17 rfl (lv_at hl 2 rfl) ?_
        refine lv_iload hx hb dX12_fitting_18 (lv_at hl 4 rfl) ?_
        refine lv_ishr hx hb dX12_fitting_20 ?_
        refine lv_iconst (v := 1) hx hb dX12_fitting_21 (by decide) ?_
        refine lv_iand hx hb dX12_fitting_22 ?_
        refine lv_iconst (v := 1) hx hb dX12_fitting_23 (by decide) ?_
        refine lv_icmp_ne (tgt := 41) hx hb dX12_fitting_24 (by decide) (fun c11 => ?_) (fun c11 => ?_)
        · have h := hq_f h c11
          refine lv_iconst (v := 0) hx hb dX12_fitting_41 (by decide) ?_
          refine lv_iadd hx hb dX12_fitting_42 ?_
          refine lv_istore_n (lv' := [(3, .int (x3 + 0)), (0, .ref a0), (1, .int a1), (2, .int a2), (4, .int x4)]) hx hb dX12_fitting_43 rfl hl (by decide) rfl (fun ls hl => ?_)
          refine lv_iinc (v := (x4 + 1)) (lv' := [(4, .int (x4 + 1)), (3, .int (x3 + 0)), (0, .ref a0), (1, .int a1), (2, .int a2)]) hx hb dX12_fitting_44 hl (k := 4) rfl rfl (by decide) rfl (fun ls hl => ?_)
          refine lv_goto (tgt := 5) hx hb dX12_fitting_47 (by decide) ?_
          exact ih5 (x3 + 0) (x4 + 1) S5 _ _ _ h hI (lv_sub hl [2, 3, 4, 1, 0] rfl)
        · have h := hq_t h c11
          refine lv_aload_n hx hb dX12_fitting_27 rfl (lv_at hl 0 rfl) ?_
          refine lv_iload_n hx hb dX12_fitting_28 rfl (lv_at hl 1 rfl) ?_
          refine lv_iload hx hb dX12_fitting_29 (lv_at hl 4 rfl) ?_
          obtain ⟨g13, h⟩ := hq_g h
          obtain ⟨v15, S14, g12, h⟩ := hq_bd2 h
          refine hq_calli hI (va_runV (As := [.int a1, .int x4]) (rest := [.int x3]) ⟨hx, hb, hml, hown, hts⟩ (c_X12_has l D kA ρ HB S5 a0 a1 x4 _ g12) (cwV 2 hts (gdIn (List.forall_mem_cons.mpr ⟨kw_1259, (List.forall_mem_cons.mpr ⟨kw_1261, (List.forall_mem_cons.mpr ⟨ks_67, (List.forall_mem_cons.mpr ⟨kw_6, (fun _ h => absurd h List.not_mem_nil)⟩)⟩)⟩)⟩) kw_1262) rfl rfl rfl ye_X12_has ⟨Nat.le_of_ble_eq_true rfl, Nat.le_of_ble_eq_true rfl⟩) (hq_preC hE hI g13 rfl _) rfl rfl hl.1 rfl (lv_room (Nat.le_of_ble_eq_true rfl)) dX12_fitting_31 ⟨Nat.le_of_ble_eq_true rfl, Nat.le_of_ble_eq_true rfl⟩) (fun H locs hI => ?_)
          refine lv_if_eq (tgt := 41) hx hb dX12_fitting_34 (by decide) (fun c16 => ?_) (fun c16 => ?_)
          · have h := hq_t h c16
            refine lv_iconst (v := 0) hx hb dX12_fitting_41 (by decide) ?_
            refine lv_iadd hx hb dX12_fitting_42 ?_
            refine lv_istore_n (lv' := [(3, .int (x3 + 0)), (0, .ref a0), (1, .int a1), (2, .int a2), (4, .int x4)]) hx hb dX12_fitting_43 rfl hl (by decide) rfl (fun ls hl => ?_)
            refine lv_iinc (v := (x4 + 1)) (lv' := [(4, .int (x4 + 1)), (3, .int (x3 + 0)), (0, .ref a0), (1, .int a1), (2, .int a2)]) hx hb dX12_fitting_44 hl (k := 4) rfl rfl (by decide) rfl (fun ls hl => ?_)
            refine lv_goto (tgt := 5) hx hb dX12_fitting_47 (by decide) ?_
            exact ih5 (x3 + 0) (x4 + 1) S14 _ _ _ h hI (lv_sub hl [2, 3, 4, 1, 0] rfl)
          · have h := hq_f h c16
            refine lv_iconst (v := 1) hx hb dX12_fitting_37 (by decide) ?_
            refine lv_goto (tgt := 42) hx hb dX12_fitting_38 (by decide) ?_
            refine lv_iadd hx hb dX12_fitting_42 ?_
            refine lv_istore_n (lv' := [(3, .int (x3 + 1)), (0, .ref a0), (1, .int a1), (2, .int a2), (4, .int x4)]) hx hb dX12_fitting_43 rfl hl (by decide) rfl (fun ls hl => ?_)
            refine lv_iinc (v := (x4 + 1)) (lv' := [(4, .int (x4 + 1)), (3, .int (x3 + 1)), (0, .ref a0), (1, .int a1), (2, .int a2)]) hx hb dX12_fitting_44 hl (k := 4) rfl rfl (by decide) rfl (fun ls hl => ?_)
            refine lv_goto (tgt := 5) hx hb dX12_fitting_47 (by decide) ?_
            exact ih5 (x3 + 1) (x4 + 1) S14 _ _ _ h hI (lv_sub hl [2, 3, 4, 1, 0] rfl)
  exact hL5 FU 0 0 S _ _ _ h hI (lv_sub hl [2, 3, 4, 1, 0] rfl)
-- RodDipsModel.fits(II)I
theorem dX12_fits_0 : decode cX12_fits 0 = .ok (.aload_n 0, 1) := by decide +kernel
theorem dX12_fits_1 : decode cX12_fits 1 = .ok (.iload_n 1, 1) := by decide +kernel
theorem dX12_fits_2 : decode cX12_fits 2 = .ok (.invokevirtual 236, 3) := by decide +kernel
theorem dX12_fits_5 : decode cX12_fits 5 = .ok (.ifCond .ne 5, 3) := by decide +kernel
theorem dX12_fits_8 : decode cX12_fits 8 = .ok (.iconst (-1), 1) := by decide +kernel
theorem dX12_fits_9 : decode cX12_fits 9 = .ok (.ireturn, 1) := by decide +kernel
theorem dX12_fits_10 : decode cX12_fits 10 = .ok (.aload_n 0, 1) := by decide +kernel
theorem dX12_fits_11 : decode cX12_fits 11 = .ok (.iload_n 2, 1) := by decide +kernel
theorem dX12_fits_12 : decode cX12_fits 12 = .ok (.invokevirtual 213, 3) := by decide +kernel
theorem dX12_fits_15 : decode cX12_fits 15 = .ok (.ifCond .eq 12, 3) := by decide +kernel
theorem dX12_fits_18 : decode cX12_fits 18 = .ok (.aload_n 0, 1) := by decide +kernel
theorem dX12_fits_19 : decode cX12_fits 19 = .ok (.iload_n 1, 1) := by decide +kernel
theorem dX12_fits_20 : decode cX12_fits 20 = .ok (.iload_n 2, 1) := by decide +kernel
theorem dX12_fits_21 : decode cX12_fits 21 = .ok (.invokevirtual 245, 3) := by decide +kernel
theorem dX12_fits_24 : decode cX12_fits 24 = .ok (.goto 5, 3) := by decide +kernel
theorem dX12_fits_27 : decode cX12_fits 27 = .ok (.bipush (-2), 2) := by decide +kernel
theorem dX12_fits_29 : decode cX12_fits 29 = .ok (.ireturn, 1) := by decide +kernel
def f_X12_fits (S : HSt) (a0 : Nat) (a1 : Int32) (a2 : Int32) : Option (Int32 × HSt) := if gC S a0 = some 12 then (bd2 (f_X12_isLaw S a0 a1) fun v4 S3 => if v4 = 0 then (some ((-1), S3)) else (if gC S3 a0 = some 12 then (bd2 (f_X12_areTries S3 a0 a2) fun v9 S8 => if v9 = 0 then (some ((-2), S8)) else (if gC S8 a0 = some 12 then (bd2 (f_X12_fitting S8 a0 a1 a2) fun v14 S13 => some (v14, S13)) else none)) else none)) else none
abbrev rm_X12_fits : Room := { frames := 7, cells := 0, slots := 0, locals := 163 }
abbrev w_X12_fits : List Cond := Cond.code yX12_fits cX12_fits 3 (Option.some FieldType.int) :: lwG
theorem yd_X12_fits : yX12_fits.cls ≠ "java/lang/invoke/MethodHandle" ∧ yX12_fits.cls ≠ "java/lang/invoke/VarHandle" ∧ (parseMethodDescriptor yX12_fits.desc).map (fun d => d.parameters.length) = some 2 := by decide +kernel
theorem ye_X12_fits : yX12_fits.cls = RX12 ∧ yX12_fits.cls ≠ "java/lang/invoke/MethodHandle" ∧ yX12_fits.cls ≠ "java/lang/invoke/VarHandle" ∧ (parseMethodDescriptor yX12_fits.desc).map (fun d => d.parameters.length) = some 2 := by decide +kernel
set_option maxHeartbeats 4000000 in
set_option maxRecDepth 100000 in
theorem c_X12_fits (l : Launch) (D : va_G) (kA ρ : Nat → Nat) (HB : Heap) (S : HSt) (a0 : Nat) (a1 : Int32) (a2 : Int32) (res : Int32 × HSt) (h : f_X12_fits S a0 a1 a2 = some res) : Met l yX12_fits w_X12_fits rm_X12_fits (hPc D kA ρ HB S [.ref a0, .int a1, .int a2]) (hQi D kA HB S res) 0 0 (hFree HB) := by
  refine Met.ofW (cc := cX12_fits) (maxL := 3) (ret := (Option.some FieldType.int)) (by decide) rfl ?_
  intro p e s m args below meth c s₁ B hml hv
  obtain ⟨rfl, hE, h0⟩ := hv
  have hx := B.exec
  have hb := B.bytes
  have hr := B.returns
  have hts0 := atoms_spec (ws := w_X12_fits) B.pre
  have hts : ∀ w ∈ lwG, w.before _ s = true := fun w hw => hts0 w (List.mem_cons_of_mem _ hw)
  have hown : s.vm.findClass RX12 = some m.cls := findClass_of_methodNamed B.named
  have hlocks := B.notSynchronized
  have hI : hqX D kA HB S.2 S s.heap [] := ⟨h0, Nat.le_refl _, fun _ q => absurd q List.not_mem_nil⟩
  have hl := lv_entry ([.ref a0, .int a1, .int a2]) (n := 3) (Nat.le_of_ble_eq_true rfl)
  rw [lg_entry_eq]
  generalize (lg_sl ([.ref a0, .int a1, .int a2]) ++ List.replicate (3 - (lg_sl ([.ref a0, .int a1, .int a2])).length) Slot.unset).toArray = ls at hl ⊢
  have hl : lv_has ls 3 [(0, .ref a0), (1, .int a1), (2, .int a2)] := hl
  unfold f_X12_fits at h
  refine lv_aload_n hx hb dX12_fits_0 rfl (lv_at hl 0 rfl) ?_
  refine lv_iload_n hx hb dX12_fits_1 rfl (lv_at hl 1 rfl) ?_
  obtain ⟨g2, h⟩ := hq_g h
  obtain ⟨v4, S3, g1, h⟩ := hq_bd2 h
  refine hq_calli hI (va_runV (As := [.int a1]) (rest := []) ⟨hx, hb, hml, hown, hts⟩ (c_X12_isLaw l D kA ρ HB S a0 a1 _ g1) (cwV 1 hts (gdIn (List.forall_mem_cons.mpr ⟨kw_1243, (List.forall_mem_cons.mpr ⟨kw_1245, (List.forall_mem_cons.mpr ⟨ks_64, (List.forall_mem_cons.mpr ⟨kw_6, (fun _ h => absurd h List.not_mem_nil)⟩)⟩)⟩)⟩) kw_1246) rfl rfl rfl ye_X12_isLaw ⟨Nat.le_of_ble_eq_true rfl, Nat.le_of_ble_eq_true rfl⟩) (hq_preC hE hI g2 rfl _) rfl rfl hl.1 rfl (lv_room (Nat.le_of_ble_eq_true rfl)) dX12_fits_2 ⟨Nat.le_of_ble_eq_true rfl, Nat.le_of_ble_eq_true rfl⟩) (fun H locs hI => ?_)
  refine lv_if_ne (tgt := 10) hx hb dX12_fits_5 (by decide) (fun c5 => ?_) (fun c5 => ?_)
  · have h := hq_f h c5
    refine lv_aload_n hx hb dX12_fits_10 rfl (lv_at hl 0 rfl) ?_
    refine lv_iload_n hx hb dX12_fits_11 rfl (lv_at hl 2 rfl) ?_
    obtain ⟨g7, h⟩ := hq_g h
    obtain ⟨v9, S8, g6, h⟩ := hq_bd2 h
    refine hq_calli hI (va_runV (As := [.int a2]) (rest := []) ⟨hx, hb, hml, hown, hts⟩ (c_X12_areTries l D kA ρ HB S3 a0 a2 _ g6) (cwV 1 hts (gdIn (List.forall_mem_cons.mpr ⟨kw_1195, (List.forall_mem_cons.mpr ⟨kw_1197, (List.forall_mem_cons.mpr ⟨ks_58, (List.forall_mem_cons.mpr ⟨kw_6, (fun _ h => absurd h List.not_mem_nil)⟩)⟩)⟩)⟩) kw_1198) rfl rfl rfl ye_X12_areTries ⟨Nat.le_of_ble_eq_true rfl, Nat.le_of_ble_eq_true rfl⟩) (hq_preC hE hI g7 rfl _) rfl rfl hl.1 rfl (lv_room (Nat.le_of_ble_eq_true rfl)) dX12_fits_12 ⟨Nat.le_of_ble_eq_true rfl, Nat.le_of_ble_eq_true rfl⟩) (fun H locs hI => ?_)
    refine lv_if_eq (tgt := 27) hx hb dX12_fits_15 (by decide) (fun c10 => ?_) (fun c10 => ?_)
    · have h := hq_t h c10
      refine lv_bipush (v := (-2)) hx hb dX12_fits_27 (by decide) ?_
      exact hq_iret hx hb hr hlocks h0 hI h dX12_fits_29
    · have h := hq_f h c10
      refine lv_aload_n hx hb dX12_fits_18 rfl (lv_at hl 0 rfl) ?_
      refine lv_iload_n hx hb dX12_fits_19 rfl (lv_at hl 1 rfl) ?_
      refine lv_iload_n hx hb dX12_fits_20 rfl (lv_at hl 2 rfl) ?_
      obtain ⟨g12, h⟩ := hq_g h
      obtain ⟨v14, S13, g11, h⟩ := hq_bd2 h
      refine hq_calli hI (va_runV (As := [.int a1, .int a2]) (rest := []) ⟨hx, hb, hml, hown, hts⟩ (c_X12_fitting l D kA ρ HB S8 a0 a1 a2 _ g11) (cwV 2 hts (gdIn (List.forall_mem_cons.mpr ⟨kw_1267, (List.forall_mem_cons.mpr ⟨kw_1269, (List.forall_mem_cons.mpr ⟨ks_68, (List.forall_mem_cons.mpr ⟨kw_6, (fun _ h => absurd h List.not_mem_nil)⟩)⟩)⟩)⟩) kw_1270) rfl rfl rfl ye_X12_fitting ⟨Nat.le_of_ble_eq_true rfl, Nat.le_of_ble_eq_true rfl⟩) (hq_preC hE hI g12 rfl _) rfl rfl hl.1 rfl (lv_room (Nat.le_of_ble_eq_true rfl)) dX12_fits_21 ⟨Nat.le_of_ble_eq_true rfl, Nat.le_of_ble_eq_true rfl⟩) (fun H locs hI => ?_)
      refine lv_goto (tgt := 29) hx hb dX12_fits_24 (by decide) ?_
      exact hq_iret hx hb hr hlocks h0 hI h dX12_fits_29
  · have h := hq_t h c5
    refine lv_iconst (v := (-1)) hx hb dX12_fits_8 (by decide) ?_
    exact hq_iret hx hb hr hlocks h0 hI h dX12_fits_9
-- RodDipsModel.let(I)I
theorem dX12_let_0 : decode cX12_let 0 = .ok (.aload_n 0, 1) := by decide +kernel
theorem dX12_let_1 : decode cX12_let 1 = .ok (.iload_n 1, 1) := by decide +kernel
theorem dX12_let_2 : decode cX12_let 2 = .ok (.invokevirtual 213, 3) := by decide +kernel
theorem dX12_let_5 : decode cX12_let 5 = .ok (.ifCond .ne 6, 3) := by decide +kernel
theorem dX12_let_8 : decode cX12_let 8 = .ok (.bipush (-2), 2) := by decide +kernel
theorem dX12_let_10 : decode cX12_let 10 = .ok (.ireturn, 1) := by decide +kernel
theorem dX12_let_11 : decode cX12_let 11 = .ok (.iconst 0, 1) := by decide +kernel
theorem dX12_let_12 : decode cX12_let 12 = .ok (.istore_n 2, 1) := by decide +kernel
theorem dX12_let_13 : decode cX12_let 13 = .ok (.iconst 0, 1) := by decide +kernel
theorem dX12_let_14 : decode cX12_let 14 = .ok (.istore_n 3, 1) := by decide +kernel
theorem dX12_let_15 : decode cX12_let 15 = .ok (.iload_n 3, 1) := by decide +kernel
theorem dX12_let_16 : decode cX12_let 16 = .ok (.aload_n 0, 1) := by decide +kernel
theorem dX12_let_17 : decode cX12_let 17 = .ok (.getfield 9, 3) := by decide +kernel
theorem dX12_let_20 : decode cX12_let 20 = .ok (.iconst 3, 1) := by decide +kernel
theorem dX12_let_21 : decode cX12_let 21 = .ok (.iaload, 1) := by decide +kernel
theorem dX12_let_22 : decode cX12_let 22 = .ok (.if_icmp .ge 32, 3) := by decide +kernel
theorem dX12_let_25 : decode cX12_let 25 = .ok (.iload_n 2, 1) := by decide +kernel
theorem dX12_let_26 : decode cX12_let 26 = .ok (.aload_n 0, 1) := by decide +kernel
theorem dX12_let_27 : decode cX12_let 27 = .ok (.iload_n 3, 1) := by decide +kernel
theorem dX12_let_28 : decode cX12_let 28 = .ok (.iload_n 1, 1) := by decide +kernel
theorem dX12_let_29 : decode cX12_let 29 = .ok (.invokevirtual 245, 3) := by decide +kernel
theorem dX12_let_32 : decode cX12_let 32 = .ok (.iload_n 1, 1) := by decide +kernel
theorem dX12_let_33 : decode cX12_let 33 = .ok (.invokestatic 190, 3) := by decide +kernel
theorem dX12_let_36 : decode cX12_let 36 = .ok (.if_icmp .ne 9, 3) := by decide +kernel
theorem dX12_let_39 : decode cX12_let 39 = .ok (.iconst 1, 1) := by decide +kernel
theorem dX12_let_40 : decode cX12_let 40 = .ok (.iload_n 3, 1) := by decide +kernel
theorem dX12_let_41 : decode cX12_let 41 = .ok (.ishl, 1) := by decide +kernel
theorem dX12_let_42 : decode cX12_let 42 = .ok (.goto 4, 3) := by decide +kernel
theorem dX12_let_45 : decode cX12_let 45 = .ok (.iconst 0, 1) := by decide +kernel
theorem dX12_let_46 : decode cX12_let 46 = .ok (.ior, 1) := by decide +kernel
theorem dX12_let_47 : decode cX12_let 47 = .ok (.istore_n 2, 1) := by decide +kernel
theorem dX12_let_48 : decode cX12_let 48 = .ok (.iinc 3 1, 3) := by decide +kernel
theorem dX12_let_51 : decode cX12_let 51 = .ok (.goto (-36), 3) := by decide +kernel
theorem dX12_let_54 : decode cX12_let 54 = .ok (.iload_n 2, 1) := by decide +kernel
theorem dX12_let_55 : decode cX12_let 55 = .ok (.ireturn, 1) := by decide +kernel
def f_X12_let_K54 (x6 : Int32) (S7 : HSt) : Option (Int32 × HSt) := some (x6, S7)
def f_X12_let_B15 (a0 : Nat) (a1 : Int32) (kx54 : (Int32 → HSt → Option (Int32 × HSt))) (kb15 : (Int32 → Int32 → HSt → Option (Int32 × HSt))) (x8 : Int32) (x9 : Int32) (S10 : HSt) : Option (Int32 × HSt) := (gR S10 a0 12 1).bind fun b11 => (aI S10 b11 0 3).bind fun v14 => if v14 ≤ x9 then (kx54 x8 S10) else (if gC S10 a0 = some 12 then (bd2 (f_X12_fitting S10 a0 x9 a1) fun v19 S18 => bd2 (f_X12_count1 S18 a1) fun v22 S21 => if v19 = v22 then (kb15 (x8 ||| (1 <<< (x9 &&& 31))) (x9 + 1) S21) else (kb15 (x8 ||| 0) (x9 + 1) S21)) else none)
def f_X12_let_L15 (a0 : Nat) (a1 : Int32) (kx54 : (Int32 → HSt → Option (Int32 × HSt))) : Nat → Int32 → Int32 → HSt → Option (Int32 × HSt)
  | 0, _, _, _ => none
  | n + 1, x8, x9, S => f_X12_let_B15 a0 a1 kx54 (f_X12_let_L15 a0 a1 kx54 n) x8 x9 S
def f_X12_let (S : HSt) (a0 : Nat) (a1 : Int32) : Option (Int32 × HSt) := if gC S a0 = some 12 then (bd2 (f_X12_areTries S a0 a1) fun v4 S3 => if v4 = 0 then (some ((-2), S3)) else ((f_X12_let_L15 a0 a1 f_X12_let_K54 FU) 0 0 S3)) else none
abbrev rm_X12_let : Room := { frames := 7, cells := 0, slots := 0, locals := 163 }
abbrev w_X12_let : List Cond := Cond.code yX12_let cX12_let 4 (Option.some FieldType.int) :: lwG
theorem yd_X12_let : yX12_let.cls ≠ "java/lang/invoke/MethodHandle" ∧ yX12_let.cls ≠ "java/lang/invoke/VarHandle" ∧ (parseMethodDescriptor yX12_let.desc).map (fun d => d.parameters.length) = some 1 := by decide +kernel
theorem ye_X12_let : yX12_let.cls = RX12 ∧ yX12_let.cls ≠ "java/lang/invoke/MethodHandle" ∧ yX12_let.cls ≠ "java/lang/invoke/VarHandle" ∧ (parseMethodDescriptor yX12_let.desc).map (fun d => d.parameters.length) = some 1 := by decide +kernel
set_option maxHeartbeats 4000000 in
set_option maxRecDepth 100000 in
theorem c_X12_let (l : Launch) (D : va_G) (kA ρ : Nat → Nat) (HB : Heap) (S : HSt) (a0 : Nat) (a1 : Int32) (res : Int32 × HSt) (h : f_X12_let S a0 a1 = some res) : Met l yX12_let w_X12_let rm_X12_let (hPc D kA ρ HB S [.ref a0, .int a1]) (hQi D kA HB S res) 0 0 (hFree HB) := by
  refine Met.ofW (cc := cX12_let) (maxL := 4) (ret := (Option.some FieldType.int)) (by decide) rfl ?_
  intro p e s m args below meth c s₁ B hml hv
  obtain ⟨rfl, hE, h0⟩ := hv
  have hx := B.exec
  have hb := B.bytes
  have hr := B.returns
  have hts0 := atoms_spec (ws := w_X12_let) B.pre
  have hts : ∀ w ∈ lwG, w.before _ s = true := fun w hw => hts0 w (List.mem_cons_of_mem _ hw)
  have hown : s.vm.findClass RX12 = some m.cls := findClass_of_methodNamed B.named
  have hlocks := B.notSynchronized
  have hI : hqX D kA HB S.2 S s.heap [] := ⟨h0, Nat.le_refl _, fun _ q => absurd q List.not_mem_nil⟩
  have hl := lv_entry ([.ref a0, .int a1]) (n := 4) (Nat.le_of_ble_eq_true rfl)
  rw [lg_entry_eq]
  generalize (lg_sl ([.ref a0, .int a1]) ++ List.replicate (4 - (lg_sl ([.ref a0, .int a1])).length) Slot.unset).toArray = ls at hl ⊢
  have hl : lv_has ls 4 [(0, .ref a0), (1, .int a1)] := hl
  unfold f_X12_let at h
  refine lv_aload_n hx hb dX12_let_0 rfl (lv_at hl 0 rfl) ?_
  refine lv_iload_n hx hb dX12_let_1 rfl (lv_at hl 1 rfl) ?_
  obtain ⟨g2, h⟩ := hq_g h
  obtain ⟨v4, S3, g1, h⟩ := hq_bd2 h
  refine hq_calli hI (va_runV (As := [.int a1]) (rest := []) ⟨hx, hb, hml, hown, hts⟩ (c_X12_areTries l D kA ρ HB S a0 a1 _ g1) (cwV 1 hts (gdIn (List.forall_mem_cons.mpr ⟨kw_1195, (List.forall_mem_cons.mpr ⟨kw_1197, (List.forall_mem_cons.mpr ⟨ks_58, (List.forall_mem_cons.mpr ⟨kw_6, (fun _ h => absurd h List.not_mem_nil)⟩)⟩)⟩)⟩) kw_1198) rfl rfl rfl ye_X12_areTries ⟨Nat.le_of_ble_eq_true rfl, Nat.le_of_ble_eq_true rfl⟩) (hq_preC hE hI g2 rfl _) rfl rfl hl.1 rfl (lv_room (Nat.le_of_ble_eq_true rfl)) dX12_let_2 ⟨Nat.le_of_ble_eq_true rfl, Nat.le_of_ble_eq_true rfl⟩) (fun H locs hI => ?_)
  refine lv_if_ne (tgt := 11) hx hb dX12_let_5 (by decide) (fun c5 => ?_) (fun c5 => ?_)
  · have h := hq_f h c5
    refine lv_iconst (v := 0) hx hb dX12_let_11 (by decide) ?_
    refine lv_istore_n (lv' := [(2, .int 0), (0, .ref a0), (1, .int a1)]) hx hb dX12_let_12 rfl hl (by decide) rfl (fun ls hl => ?_)
    refine lv_iconst (v := 0) hx hb dX12_let_13 (by decide) ?_
    refine lv_istore_n (lv' := [(3, .int 0), (2, .int 0), (0, .ref a0), (1, .int a1)]) hx hb dX12_let_14 rfl hl (by decide) rfl (fun ls hl => ?_)
    have hK54 : ∀ (x6 : Int32) (S7 : HSt) (H : Heap) (locs : List Loc) (ls : Array Slot), f_X12_let_K54 x6 S7 = some res → hqX D kA HB S.2 S7 H locs → lv_has ls 4 [(2, .int x6)] → W p l e rm_X12_let s m ([.ref a0, .int a1] : List Value).toArray below meth c H locs 0 0 (MQ below (hQi D kA HB S res) ([.ref a0, .int a1] : List Value).toArray s 0 0 (hFree HB)) (F0 m 54 ls []) := by
      intro x6 S7 H locs ls h hI hl
      unfold f_X12_let_K54 at h
      refine lv_iload_n hx hb dX12_let_54 rfl (lv_at hl 0 rfl) ?_
      exact hq_iret hx hb hr hlocks h0 hI h dX12_let_55
    have hL15 : ∀ (n15 : Nat) (x8 : Int32) (x9 : Int32) (S10 : HSt) (H : Heap) (locs : List Loc) (ls : Array Slot), (f_X12_let_L15 a0 a1 f_X12_let_K54 n15) x8 x9 S10 = some res → hqX D kA HB S.2 S10 H locs → lv_has ls 4 [(0, .ref a0), (1, .int a1), (2, .int x8), (3, .int x9)] → W p l e rm_X12_let s m ([.ref a0, .int a1] : List Value).toArray below meth c H locs 0 0 (MQ below (hQi D kA HB S res) ([.ref a0, .int a1] : List Value).toArray s 0 0 (hFree HB)) (F0 m 15 ls []) := by
      intro n15
      induction n15 with
      | zero =>
        intro x8 x9 S10 H locs ls h
        have h : (none : Option (Int32 × HSt)) = some res := h
        cases h
      | succ n15 ih15 =>
        intro x8 x9 S10 H locs ls h hI hl
        have h : f_X12_let_B15 a0 a1 f_X12_let_K54 (f_X12_let_L15 a0 a1 f_X12_let_K54 n15) x8 x9 S10 = some res := h
        unfold f_X12_let_B15 at h
        refine lv_iload_n hx hb dX12_let_15 rfl (lv_at hl 3 rfl) ?_
        refine lv_aload_n hx hb dX12_let_16 rfl (lv_at hl 0 rfl) ?_
        obtain ⟨b11, g12, h⟩ := hq_bind h
        obtain ⟨fs_g12, hs_g12, hv_g12⟩ := gR_at g12
        refine hq_get hx hb hts hown hE hI hs_g12 inG12 rfl 1 (by decide) kw_945 hv_g12 dX12_let_17 ?_
        refine lv_iconst (v := 3) hx hb dX12_let_20 (by decide) ?_
        obtain ⟨v14, g13, h⟩ := hq_bind h
        refine hq_iald hx hb hE hI g13 dX12_let_21 ?_
        refine lv_icmp_ge (tgt := 54) hx hb dX12_let_22 (by decide) (fun c15 => ?_) (fun c15 => ?_)
        · have h := hq_t h c15
          exact hK54 x8 S10 _ _ _ h hI (lv_sub hl [2] rfl)
        · have h := hq_f h c15
          refine lv_iload_n hx hb dX12_let_25 rfl (lv_at hl 2 rfl) ?_
          refine lv_aload_n hx hb dX12_let_26 rfl (lv_at hl 0 rfl) ?_
          refine lv_iload_n hx hb dX12_let_27 rfl (lv_at hl 3 rfl) ?_
          refine lv_iload_n hx hb dX12_let_28 rfl (lv_at hl 1 rfl) ?_
          obtain ⟨g17, h⟩ := hq_g h
          obtain ⟨v19, S18, g16, h⟩ := hq_bd2 h
          refine hq_calli hI (va_runV (As := [.int x9, .int a1]) (rest := [.int x8]) ⟨hx, hb, hml, hown, hts⟩ (c_X12_fitting l D kA ρ HB S10 a0 x9 a1 _ g16) (cwV 2 hts (gdIn (List.forall_mem_cons.mpr ⟨kw_1267, (List.forall_mem_cons.mpr ⟨kw_1269, (List.forall_mem_cons.mpr ⟨ks_68, (List.forall_mem_cons.mpr ⟨kw_6, (fun _ h => absurd h List.not_mem_nil)⟩)⟩)⟩)⟩) kw_1270) rfl rfl rfl ye_X12_fitting ⟨Nat.le_of_ble_eq_true rfl, Nat.le_of_ble_eq_true rfl⟩) (hq_preC hE hI g17 rfl _) rfl rfl hl.1 rfl (lv_room (Nat.le_of_ble_eq_true rfl)) dX12_let_29 ⟨Nat.le_of_ble_eq_true rfl, Nat.le_of_ble_eq_true rfl⟩) (fun H locs hI => ?_)
          refine lv_iload_n hx hb dX12_let_32 rfl (lv_at hl 1 rfl) ?_
          obtain ⟨v22, S21, g20, h⟩ := hq_bd2 h
          refine hq_calli hI (va_runS (As := [.int a1]) (rest := [.int v19, .int x8]) ⟨hx, hb, hml, hown, hts⟩ (c_X12_count1 l D kA ρ HB S18 a1 _ g20) (va_cwS 1 hts (gdIn (List.forall_mem_cons.mpr ⟨kw_1173, (List.forall_mem_cons.mpr ⟨kw_1174, (List.forall_mem_cons.mpr ⟨kw_6, (fun _ h => absurd h List.not_mem_nil)⟩)⟩)⟩) kw_1175) rfl rfl rfl yd_X12_count1 ⟨Nat.le_of_ble_eq_true rfl, Nat.le_of_ble_eq_true rfl⟩) (hq_preS hE hI _) rfl rfl hl.1 rfl (lv_room (Nat.le_of_ble_eq_true rfl)) dX12_let_33 ⟨Nat.le_of_ble_eq_true rfl, Nat.le_of_ble_eq_true rfl⟩) (fun H locs hI => ?_)
          refine lv_icmp_ne (tgt := 45) hx hb dX12_let_36 (by decide) (fun c23 => ?_) (fun c23 => ?_)
          · have h := hq_f h c23
            refine lv_iconst (v := 0) hx hb dX12_let_45 (by decide) ?_
            refine lv_ior hx hb dX12_let_46 ?_
            refine lv_istore_n (lv' := [(2, .int (x8 ||| 0)), (0, .ref a0), (1, .int a1), (3, .int x9)]) hx hb dX12_let_47 rfl hl (by decide) rfl (fun ls hl => ?_)
            refine lv_iinc (v := (x9 + 1)) (lv' := [(3, .int (x9 + 1)), (2, .int (x8 ||| 0)), (0, .ref a0), (1, .int a1)]) hx hb dX12_let_48 hl (k := 3) rfl rfl (by decide) rfl (fun ls hl => ?_)
            refine lv_goto (tgt := 15) hx hb dX12_let_51 (by decide) ?_
            exact ih15 (x8 ||| 0) (x9 + 1) S21 _ _ _ h hI (lv_sub hl [2, 3, 1, 0] rfl)
          · have h := hq_t h c23
            refine lv_iconst (v := 1) hx hb dX12_let_39 (by decide) ?_
            refine lv_iload_n hx hb dX12_let_40 rfl (lv_at hl 3 rfl) ?_
            refine lv_ishl hx hb dX12_let_41 ?_
            refine lv_goto (tgt := 46) hx hb dX12_let_42 (by decide) ?_
            refine lv_ior hx hb dX12_let_46 ?_
            refine lv_istore_n (lv' := [(2, .int (x8 ||| (1 <<< (x9 &&& 31)))), (0, .ref a0), (1, .int a1), (3, .int x9)]) hx hb dX12_let_47 rfl hl (by decide) rfl (fun ls hl => ?_)
            refine lv_iinc (v := (x9 + 1)) (lv' := [(3, .int (x9 + 1)), (2, .int (x8 ||| (1 <<< (x9 &&& 31)))), (0, .ref a0), (1, .int a1)]) hx hb dX12_let_48 hl (k := 3) rfl rfl (by decide) rfl (fun ls hl => ?_)
            refine lv_goto (tgt := 15) hx hb dX12_let_51 (by decide) ?_
            exact ih15 (x8 ||| (1 <<< (x9 &&& 31))) (x9 + 1) S21 _ _ _ h hI (lv_sub hl [2, 3, 1, 0] rfl)
    exact hL15 FU 0 0 S3 _ _ _ h hI (lv_sub hl [2, 3, 1, 0] rfl)
  · have h := hq_t h c5
    refine lv_bipush (v := (-2)) hx hb dX12_let_8 (by decide) ?_
    exact hq_iret hx hb hr hlocks h0 hI h dX12_let_10
-- RodDipsModel.choose(II)J
theorem dX12_choose_0 : decode cX12_choose 0 = .ok (.lconst 1, 1) := by decide +kernel
theorem dX12_choose_1 : decode cX12_choose 1 = .ok (.lstore_n 2, 1) := by decide +kernel
theorem dX12_choose_2 : decode cX12_choose 2 = .ok (.iconst 0, 1) := by decide +kernel
theorem dX12_choose_3 : decode cX12_choose 3 = .ok (.istore 4, 2) := by decide +kernel
theorem dX12_choose_5 : decode cX12_choose 5 = .ok (.iload 4, 2) := by decide +kernel
theorem dX12_choose_7 : decode cX12_choose 7 = .ok (.iload_n 1, 1) := by decide +kernel
theorem dX12_choose_8 : decode cX12_choose 8 = .ok (.if_icmp .ge 23, 3) := by decide +kernel
theorem dX12_choose_11 : decode cX12_choose 11 = .ok (.lload_n 2, 1) := by decide +kernel
theorem dX12_choose_12 : decode cX12_choose 12 = .ok (.iload_n 0, 1) := by decide +kernel
theorem dX12_choose_13 : decode cX12_choose 13 = .ok (.iload 4, 2) := by decide +kernel
theorem dX12_choose_15 : decode cX12_choose 15 = .ok (.isub, 1) := by decide +kernel
theorem dX12_choose_16 : decode cX12_choose 16 = .ok (.i2l, 1) := by decide +kernel
theorem dX12_choose_17 : decode cX12_choose 17 = .ok (.lmul, 1) := by decide +kernel
theorem dX12_choose_18 : decode cX12_choose 18 = .ok (.iload 4, 2) := by decide +kernel
theorem dX12_choose_20 : decode cX12_choose 20 = .ok (.iconst 1, 1) := by decide +kernel
theorem dX12_choose_21 : decode cX12_choose 21 = .ok (.iadd, 1) := by decide +kernel
theorem dX12_choose_22 : decode cX12_choose 22 = .ok (.i2l, 1) := by decide +kernel
theorem dX12_choose_23 : decode cX12_choose 23 = .ok (.ldiv, 1) := by decide +kernel
theorem dX12_choose_24 : decode cX12_choose 24 = .ok (.lstore_n 2, 1) := by decide +kernel
theorem dX12_choose_25 : decode cX12_choose 25 = .ok (.iinc 4 1, 3) := by decide +kernel
theorem dX12_choose_28 : decode cX12_choose 28 = .ok (.goto (-23), 3) := by decide +kernel
theorem dX12_choose_31 : decode cX12_choose 31 = .ok (.lload_n 2, 1) := by decide +kernel
theorem dX12_choose_32 : decode cX12_choose 32 = .ok (.lreturn, 1) := by decide +kernel
def f_X12_choose_K31 (x1 : Int64) (S2 : HSt) : Option (Int64 × HSt) := some (x1, S2)
def f_X12_choose_B5 (a0 : Int32) (a1 : Int32) (kx31 : (Int64 → HSt → Option (Int64 × HSt))) (kb5 : (Int64 → Int32 → HSt → Option (Int64 × HSt))) (x3 : Int64) (x4 : Int32) (S5 : HSt) : Option (Int64 × HSt) := if a1 ≤ x4 then (kx31 x3 S5) else (if ¬ (Int32.toInt64 (x4 + 1)) = 0 then (hqn ((x3 * (Int32.toInt64 (a0 - x4))) / (Int32.toInt64 (x4 + 1))) fun (v7 : Int64) => kb5 v7 (x4 + 1) S5) else none)
def f_X12_choose_L5 (a0 : Int32) (a1 : Int32) (kx31 : (Int64 → HSt → Option (Int64 × HSt))) : Nat → Int64 → Int32 → HSt → Option (Int64 × HSt)
  | 0, _, _, _ => none
  | n + 1, x3, x4, S => f_X12_choose_B5 a0 a1 kx31 (f_X12_choose_L5 a0 a1 kx31 n) x3 x4 S
def f_X12_choose (S : HSt) (a0 : Int32) (a1 : Int32) : Option (Int64 × HSt) := (f_X12_choose_L5 a0 a1 f_X12_choose_K31 FU) 1 0 S
abbrev rm_X12_choose : Room := { frames := 0, cells := 0, slots := 0, locals := 0 }
abbrev w_X12_choose : List Cond := Cond.code yX12_choose cX12_choose 5 (Option.some FieldType.long) :: lwG
theorem yd_X12_choose : yX12_choose.cls ≠ "java/lang/invoke/MethodHandle" ∧ yX12_choose.cls ≠ "java/lang/invoke/VarHandle" ∧ (parseMethodDescriptor yX12_choose.desc).map (fun d => d.parameters.length) = some 2 := by decide +kernel
set_option maxHeartbeats 4000000 in
set_option maxRecDepth 100000 in
theorem c_X12_choose (l : Launch) (D : va_G) (kA ρ : Nat → Nat) (HB : Heap) (S : HSt) (a0 : Int32) (a1 : Int32) (res : Int64 × HSt) (h : f_X12_choose S a0 a1 = some res) : Met l yX12_choose w_X12_choose rm_X12_choose (hPc D kA ρ HB S [.int a0, .int a1]) (hQl D kA HB S res) 0 0 (hFree HB) := by
  refine Met.ofW (cc := cX12_choose) (maxL := 5) (ret := (Option.some FieldType.long)) (by decide) rfl ?_
  intro p e s m args below meth c s₁ B hml hv
  obtain ⟨rfl, hE, h0⟩ := hv
  have hx := B.exec
  have hb := B.bytes
  have hr := B.returns
  have hts0 := atoms_spec (ws := w_X12_choose) B.pre
  have hts : ∀ w ∈ lwG, w.before _ s = true := fun w hw => hts0 w (List.mem_cons_of_mem _ hw)
  have hown : s.vm.findClass RX12 = some m.cls := findClass_of_methodNamed B.named
  have hlocks := B.notSynchronized
  have hI : hqX D kA HB S.2 S s.heap [] := ⟨h0, Nat.le_refl _, fun _ q => absurd q List.not_mem_nil⟩
  have hl := lv_entry ([.int a0, .int a1]) (n := 5) (Nat.le_of_ble_eq_true rfl)
  rw [lg_entry_eq]
  generalize (lg_sl ([.int a0, .int a1]) ++ List.replicate (5 - (lg_sl ([.int a0, .int a1])).length) Slot.unset).toArray = ls at hl ⊢
  have hl : lv_has ls 5 [(0, .int a0), (1, .int a1)] := hl
  unfold f_X12_choose at h
  refine lv_lconst (v := 1) hx hb dX12_choose_0 (by decide) ?_
  refine lv_lstore_n (lv' := [(2, .long 1), (0, .int a0), (1, .int a1)]) hx hb dX12_choose_1 rfl hl (by decide) rfl (fun ls hl => ?_)
  refine lv_iconst (v := 0) hx hb dX12_choose_2 (by decide) ?_
  refine lv_istore (lv' := [(4, .int 0), (2, .long 1), (0, .int a0), (1, .int a1)]) hx hb dX12_choose_3 hl (by decide) rfl (fun ls hl => ?_)
  have hK31 : ∀ (x1 : Int64) (S2 : HSt) (H : Heap) (locs : List Loc) (ls : Array Slot), f_X12_choose_K31 x1 S2 = some res → hqX D kA HB S.2 S2 H locs → lv_has ls 5 [(2, .long x1)] → W p l e rm_X12_choose s m ([.int a0, .int a1] : List Value).toArray below meth c H locs 0 0 (MQ below (hQl D kA HB S res) ([.int a0, .int a1] : List Value).toArray s 0 0 (hFree HB)) (F0 m 31 ls []) := by
    intro x1 S2 H locs ls h hI hl
    unfold f_X12_choose_K31 at h
    refine lv_lload_n hx hb dX12_choose_31 rfl (lv_at hl 0 rfl) ?_
    exact hq_lret hx hb hr hlocks h0 hI h dX12_choose_32
  have hL5 : ∀ (n5 : Nat) (x3 : Int64) (x4 : Int32) (S5 : HSt) (H : Heap) (locs : List Loc) (ls : Array Slot), (f_X12_choose_L5 a0 a1 f_X12_choose_K31 n5) x3 x4 S5 = some res → hqX D kA HB S.2 S5 H locs → lv_has ls 5 [(0, .int a0), (1, .int a1), (2, .long x3), (4, .int x4)] → W p l e rm_X12_choose s m ([.int a0, .int a1] : List Value).toArray below meth c H locs 0 0 (MQ below (hQl D kA HB S res) ([.int a0, .int a1] : List Value).toArray s 0 0 (hFree HB)) (F0 m 5 ls []) := by
    intro n5
    induction n5 with
    | zero =>
      intro x3 x4 S5 H locs ls h
      have h : (none : Option (Int64 × HSt)) = some res := h
      cases h
    | succ n5 ih5 =>
      intro x3 x4 S5 H locs ls h hI hl
      have h : f_X12_choose_B5 a0 a1 f_X12_choose_K31 (f_X12_choose_L5 a0 a1 f_X12_choose_K31 n5) x3 x4 S5 = some res := h
      unfold f_X12_choose_B5 at h
      refine lv_iload hx hb dX12_choose_5 (lv_at hl 3 rfl) ?_
      refine lv_iload_n hx hb dX12_choose_7 rfl (lv_at hl 1 rfl) ?_
      refine lv_icmp_ge (tgt := 31) hx hb dX12_choose_8 (by decide) (fun c6 => ?_) (fun c6 => ?_)
      · have h := hq_t h c6
        exact hK31 x3 S5 _ _ _ h hI (lv_sub hl [2] rfl)
      · have h := hq_f h c6
        refine lv_lload_n hx hb dX12_choose_11 rfl (lv_at hl 2 rfl) ?_
        refine lv_iload_n hx hb dX12_choose_12 rfl (lv_at hl 0 rfl) ?_
        refine lv_iload hx hb dX12_choose_13 (lv_at hl 3 rfl) ?_
        refine lv_isub hx hb dX12_choose_15 ?_
        refine lv_i2l (v := Int32.toInt64 (a0 - x4)) hx hb dX12_choose_16 rfl ?_
        refine lv_lmul hx hb dX12_choose_17 ?_
        refine lv_iload hx hb dX12_choose_18 (lv_at hl 3 rfl) ?_
        refine lv_iconst (v := 1) hx hb dX12_choose_20 (by decide) ?_
        refine lv_iadd hx hb dX12_choose_21 ?_
        refine lv_i2l (v := Int32.toInt64 (x4 + 1)) hx hb dX12_choose_22 rfl ?_
        obtain ⟨c8, h⟩ := hq_g h
        refine lv_ldiv hx hb dX12_choose_23 c8 ?_
        refine lv_topl (fun v7 e_v7 => ?_)
        have h := hq_nm h e_v7
        refine lv_lstore_n (lv' := [(2, .long v7), (0, .int a0), (1, .int a1), (4, .int x4)]) hx hb dX12_choose_24 rfl hl (by decide) rfl (fun ls hl => ?_)
        refine lv_iinc (v := (x4 + 1)) (lv' := [(4, .int (x4 + 1)), (2, .long v7), (0, .int a0), (1, .int a1)]) hx hb dX12_choose_25 hl (k := 3) rfl rfl (by decide) rfl (fun ls hl => ?_)
        refine lv_goto (tgt := 5) hx hb dX12_choose_28 (by decide) ?_
        exact ih5 v7 (x4 + 1) S5 _ _ _ h hI (lv_sub hl [2, 3, 1, 0] rfl)
  exact hL5 FU 1 0 S _ _ _ h hI (lv_sub hl [2, 3, 1, 0] rfl)
-- RodDipsModel.power(JI)J
theorem dX12_power_0 : decode cX12_power 0 = .ok (.lconst 1, 1) := by decide +kernel
theorem dX12_power_1 : decode cX12_power 1 = .ok (.lstore_n 3, 1) := by decide +kernel
theorem dX12_power_2 : decode cX12_power 2 = .ok (.iconst 0, 1) := by decide +kernel
theorem dX12_power_3 : decode cX12_power 3 = .ok (.istore 5, 2) := by decide +kernel
theorem dX12_power_5 : decode cX12_power 5 = .ok (.iload 5, 2) := by decide +kernel
theorem dX12_power_7 : decode cX12_power 7 = .ok (.iload_n 2, 1) := by decide +kernel
theorem dX12_power_8 : decode cX12_power 8 = .ok (.if_icmp .ge 13, 3) := by decide +kernel
theorem dX12_power_11 : decode cX12_power 11 = .ok (.lload_n 3, 1) := by decide +kernel
theorem dX12_power_12 : decode cX12_power 12 = .ok (.lload_n 0, 1) := by decide +kernel
theorem dX12_power_13 : decode cX12_power 13 = .ok (.lmul, 1) := by decide +kernel
theorem dX12_power_14 : decode cX12_power 14 = .ok (.lstore_n 3, 1) := by decide +kernel
theorem dX12_power_15 : decode cX12_power 15 = .ok (.iinc 5 1, 3) := by decide +kernel
theorem dX12_power_18 : decode cX12_power 18 = .ok (.goto (-13), 3) := by decide +kernel
theorem dX12_power_21 : decode cX12_power 21 = .ok (.lload_n 3, 1) := by decide +kernel
theorem dX12_power_22 : decode cX12_power 22 = .ok (.lreturn, 1) := by decide +kernel
def f_X12_power_K21 (x1 : Int64) (S2 : HSt) : Option (Int64 × HSt) := some (x1, S2)
def f_X12_power_B5 (a0 : Int64) (a1 : Int32) (kx21 : (Int64 → HSt → Option (Int64 × HSt))) (kb5 : (Int64 → Int32 → HSt → Option (Int64 × HSt))) (x3 : Int64) (x4 : Int32) (S5 : HSt) : Option (Int64 × HSt) := if a1 ≤ x4 then (kx21 x3 S5) else (kb5 (x3 * a0) (x4 + 1) S5)
def f_X12_power_L5 (a0 : Int64) (a1 : Int32) (kx21 : (Int64 → HSt → Option (Int64 × HSt))) : Nat → Int64 → Int32 → HSt → Option (Int64 × HSt)
  | 0, _, _, _ => none
  | n + 1, x3, x4, S => f_X12_power_B5 a0 a1 kx21 (f_X12_power_L5 a0 a1 kx21 n) x3 x4 S
def f_X12_power (S : HSt) (a0 : Int64) (a1 : Int32) : Option (Int64 × HSt) := (f_X12_power_L5 a0 a1 f_X12_power_K21 FU) 1 0 S
abbrev rm_X12_power : Room := { frames := 0, cells := 0, slots := 0, locals := 0 }
abbrev w_X12_power : List Cond := Cond.code yX12_power cX12_power 6 (Option.some FieldType.long) :: lwG
theorem yd_X12_power : yX12_power.cls ≠ "java/lang/invoke/MethodHandle" ∧ yX12_power.cls ≠ "java/lang/invoke/VarHandle" ∧ (parseMethodDescriptor yX12_power.desc).map (fun d => d.parameters.length) = some 2 := by decide +kernel
set_option maxHeartbeats 4000000 in
set_option maxRecDepth 100000 in
theorem c_X12_power (l : Launch) (D : va_G) (kA ρ : Nat → Nat) (HB : Heap) (S : HSt) (a0 : Int64) (a1 : Int32) (res : Int64 × HSt) (h : f_X12_power S a0 a1 = some res) : Met l yX12_power w_X12_power rm_X12_power (hPc D kA ρ HB S [.long a0, .int a1]) (hQl D kA HB S res) 0 0 (hFree HB) := by
  refine Met.ofW (cc := cX12_power) (maxL := 6) (ret := (Option.some FieldType.long)) (by decide) rfl ?_
  intro p e s m args below meth c s₁ B hml hv
  obtain ⟨rfl, hE, h0⟩ := hv
  have hx := B.exec
  have hb := B.bytes
  have hr := B.returns
  have hts0 := atoms_spec (ws := w_X12_power) B.pre
  have hts : ∀ w ∈ lwG, w.before _ s = true := fun w hw => hts0 w (List.mem_cons_of_mem _ hw)
  have hown : s.vm.findClass RX12 = some m.cls := findClass_of_methodNamed B.named
  have hlocks := B.notSynchronized
  have hI : hqX D kA HB S.2 S s.heap [] := ⟨h0, Nat.le_refl _, fun _ q => absurd q List.not_mem_nil⟩
  have hl := lv_entry ([.long a0, .int a1]) (n := 6) (Nat.le_of_ble_eq_true rfl)
  rw [lg_entry_eq]
  generalize (lg_sl ([.long a0, .int a1]) ++ List.replicate (6 - (lg_sl ([.long a0, .int a1])).length) Slot.unset).toArray = ls at hl ⊢
  have hl : lv_has ls 6 [(0, .long a0), (2, .int a1)] := hl
  unfold f_X12_power at h
  refine lv_lconst (v := 1) hx hb dX12_power_0 (by decide) ?_
  refine lv_lstore_n (lv' := [(3, .long 1), (0, .long a0), (2, .int a1)]) hx hb dX12_power_1 rfl hl (by decide) rfl (fun ls hl => ?_)
  refine lv_iconst (v := 0) hx hb dX12_power_2 (by decide) ?_
  refine lv_istore (lv' := [(5, .int 0), (3, .long 1), (0, .long a0), (2, .int a1)]) hx hb dX12_power_3 hl (by decide) rfl (fun ls hl => ?_)
  have hK21 : ∀ (x1 : Int64) (S2 : HSt) (H : Heap) (locs : List Loc) (ls : Array Slot), f_X12_power_K21 x1 S2 = some res → hqX D kA HB S.2 S2 H locs → lv_has ls 6 [(3, .long x1)] → W p l e rm_X12_power s m ([.long a0, .int a1] : List Value).toArray below meth c H locs 0 0 (MQ below (hQl D kA HB S res) ([.long a0, .int a1] : List Value).toArray s 0 0 (hFree HB)) (F0 m 21 ls []) := by
    intro x1 S2 H locs ls h hI hl
    unfold f_X12_power_K21 at h
    refine lv_lload_n hx hb dX12_power_21 rfl (lv_at hl 0 rfl) ?_
    exact hq_lret hx hb hr hlocks h0 hI h dX12_power_22
  have hL5 : ∀ (n5 : Nat) (x3 : Int64) (x4 : Int32) (S5 : HSt) (H : Heap) (locs : List Loc) (ls : Array Slot), (f_X12_power_L5 a0 a1 f_X12_power_K21 n5) x3 x4 S5 = some res → hqX D kA HB S.2 S5 H locs → lv_has ls 6 [(0, .long a0), (2, .int a1), (3, .long x3), (5, .int x4)] → W p l e rm_X12_power s m ([.long a0, .int a1] : List Value).toArray below meth c H locs 0 0 (MQ below (hQl D kA HB S res) ([.long a0, .int a1] : List Value).toArray s 0 0 (hFree HB)) (F0 m 5 ls []) := by
    intro n5
    induction n5 with
    | zero =>
      intro x3 x4 S5 H locs ls h
      have h : (none : Option (Int64 × HSt)) = some res := h
      cases h
    | succ n5 ih5 =>
      intro x3 x4 S5 H locs ls h hI hl
      have h : f_X12_power_B5 a0 a1 f_X12_power_K21 (f_X12_power_L5 a0 a1 f_X12_power_K21 n5) x3 x4 S5 = some res := h
      unfold f_X12_power_B5 at h
      refine lv_iload hx hb dX12_power_5 (lv_at hl 3 rfl) ?_
      refine lv_iload_n hx hb dX12_power_7 rfl (lv_at hl 1 rfl) ?_
      refine lv_icmp_ge (tgt := 21) hx hb dX12_power_8 (by decide) (fun c6 => ?_) (fun c6 => ?_)
      · have h := hq_t h c6
        exact hK21 x3 S5 _ _ _ h hI (lv_sub hl [2] rfl)
      · have h := hq_f h c6
        refine lv_lload_n hx hb dX12_power_11 rfl (lv_at hl 2 rfl) ?_
        refine lv_lload_n hx hb dX12_power_12 rfl (lv_at hl 0 rfl) ?_
        refine lv_lmul hx hb dX12_power_13 ?_
        refine lv_lstore_n (lv' := [(3, .long (x3 * a0)), (0, .long a0), (2, .int a1), (5, .int x4)]) hx hb dX12_power_14 rfl hl (by decide) rfl (fun ls hl => ?_)
        refine lv_iinc (v := (x4 + 1)) (lv' := [(5, .int (x4 + 1)), (3, .long (x3 * a0)), (0, .long a0), (2, .int a1)]) hx hb dX12_power_15 hl (k := 3) rfl rfl (by decide) rfl (fun ls hl => ?_)
        refine lv_goto (tgt := 5) hx hb dX12_power_18 (by decide) ?_
        exact ih5 (x3 * a0) (x4 + 1) S5 _ _ _ h hI (lv_sub hl [2, 3, 1, 0] rfl)
  exact hL5 FU 1 0 S _ _ _ h hI (lv_sub hl [2, 3, 1, 0] rfl)
-- RodDipsModel.fewer(IIII)J
theorem dX12_fewer_0 : decode cX12_fewer 0 = .ok (.lconst 0, 1) := by decide +kernel
theorem dX12_fewer_1 : decode cX12_fewer 1 = .ok (.lstore 4, 2) := by decide +kernel
theorem dX12_fewer_3 : decode cX12_fewer 3 = .ok (.iconst 0, 1) := by decide +kernel
theorem dX12_fewer_4 : decode cX12_fewer 4 = .ok (.istore 6, 2) := by decide +kernel
theorem dX12_fewer_6 : decode cX12_fewer 6 = .ok (.iload 6, 2) := by decide +kernel
theorem dX12_fewer_8 : decode cX12_fewer 8 = .ok (.iload_n 0, 1) := by decide +kernel
theorem dX12_fewer_9 : decode cX12_fewer 9 = .ok (.if_icmp .ge 40, 3) := by decide +kernel
theorem dX12_fewer_12 : decode cX12_fewer 12 = .ok (.lload 4, 2) := by decide +kernel
theorem dX12_fewer_14 : decode cX12_fewer 14 = .ok (.iload_n 1, 1) := by decide +kernel
theorem dX12_fewer_15 : decode cX12_fewer 15 = .ok (.iload 6, 2) := by decide +kernel
theorem dX12_fewer_17 : decode cX12_fewer 17 = .ok (.invokestatic 248, 3) := by decide +kernel
theorem dX12_fewer_20 : decode cX12_fewer 20 = .ok (.iload_n 2, 1) := by decide +kernel
theorem dX12_fewer_21 : decode cX12_fewer 21 = .ok (.i2l, 1) := by decide +kernel
theorem dX12_fewer_22 : decode cX12_fewer 22 = .ok (.iload 6, 2) := by decide +kernel
theorem dX12_fewer_24 : decode cX12_fewer 24 = .ok (.invokestatic 252, 3) := by decide +kernel
theorem dX12_fewer_27 : decode cX12_fewer 27 = .ok (.lmul, 1) := by decide +kernel
theorem dX12_fewer_28 : decode cX12_fewer 28 = .ok (.iload_n 3, 1) := by decide +kernel
theorem dX12_fewer_29 : decode cX12_fewer 29 = .ok (.iload_n 2, 1) := by decide +kernel
theorem dX12_fewer_30 : decode cX12_fewer 30 = .ok (.isub, 1) := by decide +kernel
theorem dX12_fewer_31 : decode cX12_fewer 31 = .ok (.i2l, 1) := by decide +kernel
theorem dX12_fewer_32 : decode cX12_fewer 32 = .ok (.iload_n 1, 1) := by decide +kernel
theorem dX12_fewer_33 : decode cX12_fewer 33 = .ok (.iload 6, 2) := by decide +kernel
theorem dX12_fewer_35 : decode cX12_fewer 35 = .ok (.isub, 1) := by decide +kernel
theorem dX12_fewer_36 : decode cX12_fewer 36 = .ok (.invokestatic 252, 3) := by decide +kernel
theorem dX12_fewer_39 : decode cX12_fewer 39 = .ok (.lmul, 1) := by decide +kernel
theorem dX12_fewer_40 : decode cX12_fewer 40 = .ok (.ladd, 1) := by decide +kernel
theorem dX12_fewer_41 : decode cX12_fewer 41 = .ok (.lstore 4, 2) := by decide +kernel
theorem dX12_fewer_43 : decode cX12_fewer 43 = .ok (.iinc 6 1, 3) := by decide +kernel
theorem dX12_fewer_46 : decode cX12_fewer 46 = .ok (.goto (-40), 3) := by decide +kernel
theorem dX12_fewer_49 : decode cX12_fewer 49 = .ok (.lload 4, 2) := by decide +kernel
theorem dX12_fewer_51 : decode cX12_fewer 51 = .ok (.lreturn, 1) := by decide +kernel
def f_X12_fewer_K49 (x1 : Int64) (S2 : HSt) : Option (Int64 × HSt) := some (x1, S2)
def f_X12_fewer_B6 (a0 : Int32) (a1 : Int32) (a2 : Int32) (a3 : Int32) (kx49 : (Int64 → HSt → Option (Int64 × HSt))) (kb6 : (Int64 → Int32 → HSt → Option (Int64 × HSt))) (x3 : Int64) (x4 : Int32) (S5 : HSt) : Option (Int64 × HSt) := if a0 ≤ x4 then (kx49 x3 S5) else (bd2 (f_X12_choose S5 a1 x4) fun v9 S8 => bd2 (f_X12_power S8 (Int32.toInt64 a2) x4) fun v12 S11 => bd2 (f_X12_power S11 (Int32.toInt64 (a3 - a2)) (a1 - x4)) fun v15 S14 => kb6 (x3 + ((v9 * v12) * v15)) (x4 + 1) S14)
def f_X12_fewer_L6 (a0 : Int32) (a1 : Int32) (a2 : Int32) (a3 : Int32) (kx49 : (Int64 → HSt → Option (Int64 × HSt))) : Nat → Int64 → Int32 → HSt → Option (Int64 × HSt)
  | 0, _, _, _ => none
  | n + 1, x3, x4, S => f_X12_fewer_B6 a0 a1 a2 a3 kx49 (f_X12_fewer_L6 a0 a1 a2 a3 kx49 n) x3 x4 S
def f_X12_fewer (S : HSt) (a0 : Int32) (a1 : Int32) (a2 : Int32) (a3 : Int32) : Option (Int64 × HSt) := (f_X12_fewer_L6 a0 a1 a2 a3 f_X12_fewer_K49 FU) 0 0 S
abbrev rm_X12_fewer : Room := { frames := 1, cells := 0, slots := 0, locals := 25 }
abbrev w_X12_fewer : List Cond := Cond.code yX12_fewer cX12_fewer 7 (Option.some FieldType.long) :: lwG
theorem yd_X12_fewer : yX12_fewer.cls ≠ "java/lang/invoke/MethodHandle" ∧ yX12_fewer.cls ≠ "java/lang/invoke/VarHandle" ∧ (parseMethodDescriptor yX12_fewer.desc).map (fun d => d.parameters.length) = some 4 := by decide +kernel
set_option maxHeartbeats 4000000 in
set_option maxRecDepth 100000 in
theorem c_X12_fewer (l : Launch) (D : va_G) (kA ρ : Nat → Nat) (HB : Heap) (S : HSt) (a0 : Int32) (a1 : Int32) (a2 : Int32) (a3 : Int32) (res : Int64 × HSt) (h : f_X12_fewer S a0 a1 a2 a3 = some res) : Met l yX12_fewer w_X12_fewer rm_X12_fewer (hPc D kA ρ HB S [.int a0, .int a1, .int a2, .int a3]) (hQl D kA HB S res) 0 0 (hFree HB) := by
  refine Met.ofW (cc := cX12_fewer) (maxL := 7) (ret := (Option.some FieldType.long)) (by decide) rfl ?_
  intro p e s m args below meth c s₁ B hml hv
  obtain ⟨rfl, hE, h0⟩ := hv
  have hx := B.exec
  have hb := B.bytes
  have hr := B.returns
  have hts0 := atoms_spec (ws := w_X12_fewer) B.pre
  have hts : ∀ w ∈ lwG, w.before _ s = true := fun w hw => hts0 w (List.mem_cons_of_mem _ hw)
  have hown : s.vm.findClass RX12 = some m.cls := findClass_of_methodNamed B.named
  have hlocks := B.notSynchronized
  have hI : hqX D kA HB S.2 S s.heap [] := ⟨h0, Nat.le_refl _, fun _ q => absurd q List.not_mem_nil⟩
  have hl := lv_entry ([.int a0, .int a1, .int a2, .int a3]) (n := 7) (Nat.le_of_ble_eq_true rfl)
  rw [lg_entry_eq]
  generalize (lg_sl ([.int a0, .int a1, .int a2, .int a3]) ++ List.replicate (7 - (lg_sl ([.int a0, .int a1, .int a2, .int a3])).length) Slot.unset).toArray = ls at hl ⊢
  have hl : lv_has ls 7 [(0, .int a0), (1, .int a1), (2, .int a2), (3, .int a3)] := hl
  unfold f_X12_fewer at h
  refine lv_lconst (v := 0) hx hb dX12_fewer_0 (by decide) ?_
  refine lv_lstore (lv' := [(4, .long 0), (0, .int a0), (1, .int a1), (2, .int a2), (3, .int a3)]) hx hb dX12_fewer_1 hl (by decide) rfl (fun ls hl => ?_)
  refine lv_iconst (v := 0) hx hb dX12_fewer_3 (by decide) ?_
  refine lv_istore (lv' := [(6, .int 0), (4, .long 0), (0, .int a0), (1, .int a1), (2, .int a2), (3, .int a3)]) hx hb dX12_fewer_4 hl (by decide) rfl (fun ls hl => ?_)
  have hK49 : ∀ (x1 : Int64) (S2 : HSt) (H : Heap) (locs : List Loc) (ls : Array Slot), f_X12_fewer_K49 x1 S2 = some res → hqX D kA HB S.2 S2 H locs → lv_has ls 7 [(4, .long x1)] → W p l e rm_X12_fewer s m ([.int a0, .int a1, .int a2, .int a3] : List Value).toArray below meth c H locs 0 0 (MQ below (hQl D kA HB S res) ([.int a0, .int a1, .int a2, .int a3] : List Value).toArray s 0 0 (hFree HB)) (F0 m 49 ls []) := by
    intro x1 S2 H locs ls h hI hl
    unfold f_X12_fewer_K49 at h
    refine lv_lload hx hb dX12_fewer_49 (lv_at hl 0 rfl) ?_
    exact hq_lret hx hb hr hlocks h0 hI h dX12_fewer_51
  have hL6 : ∀ (n6 : Nat) (x3 : Int64) (x4 : Int32) (S5 : HSt) (H : Heap) (locs : List Loc) (ls : Array Slot), (f_X12_fewer_L6 a0 a1 a2 a3 f_X12_fewer_K49 n6) x3 x4 S5 = some res → hqX D kA HB S.2 S5 H locs → lv_has ls 7 [(0, .int a0), (1, .int a1), (2, .int a2), (3, .int a3), (4, .long x3), (6, .int x4)] → W p l e rm_X12_fewer s m ([.int a0, .int a1, .int a2, .int a3] : List Value).toArray below meth c H locs 0 0 (MQ below (hQl D kA HB S res) ([.int a0, .int a1, .int a2, .int a3] : List Value).toArray s 0 0 (hFree HB)) (F0 m 6 ls []) := by
    intro n6
    induction n6 with
    | zero =>
      intro x3 x4 S5 H locs ls h
      have h : (none : Option (Int64 × HSt)) = some res := h
      cases h
    | succ n6 ih6 =>
      intro x3 x4 S5 H locs ls h hI hl
      have h : f_X12_fewer_B6 a0 a1 a2 a3 f_X12_fewer_K49 (f_X12_fewer_L6 a0 a1 a2 a3 f_X12_fewer_K49 n6) x3 x4 S5 = some res := h
      unfold f_X12_fewer_B6 at h
      refine lv_iload hx hb dX12_fewer_6 (lv_at hl 5 rfl) ?_
      refine lv_iload_n hx hb dX12_fewer_8 rfl (lv_at hl 0 rfl) ?_
      refine lv_icmp_ge (tgt := 49) hx hb dX12_fewer_9 (by decide) (fun c6 => ?_) (fun c6 => ?_)
      · have h := hq_t h c6
        exact hK49 x3 S5 _ _ _ h hI (lv_sub hl [4] rfl)
      · have h := hq_f h c6
        refine lv_lload hx hb dX12_fewer_12 (lv_at hl 4 rfl) ?_
        refine lv_iload_n hx hb dX12_fewer_14 rfl (lv_at hl 1 rfl) ?_
        refine lv_iload hx hb dX12_fewer_15 (lv_at hl 5 rfl) ?_
        obtain ⟨v9, S8, g7, h⟩ := hq_bd2 h
        refine hq_calll hI (va_runS (As := [.int a1, .int x4]) (rest := [.long x3]) ⟨hx, hb, hml, hown, hts⟩ (c_X12_choose l D kA ρ HB S5 a1 x4 _ g7) (va_cwS 2 hts (gdIn (List.forall_mem_cons.mpr ⟨kw_1282, (List.forall_mem_cons.mpr ⟨kw_1283, (List.forall_mem_cons.mpr ⟨kw_6, (fun _ h => absurd h List.not_mem_nil)⟩)⟩)⟩) kw_1284) rfl rfl rfl yd_X12_choose ⟨Nat.le_of_ble_eq_true rfl, Nat.le_of_ble_eq_true rfl⟩) (hq_preS hE hI _) rfl rfl hl.1 rfl (lv_room (Nat.le_of_ble_eq_true rfl)) dX12_fewer_17 ⟨Nat.le_of_ble_eq_true rfl, Nat.le_of_ble_eq_true rfl⟩) (fun H locs hI => ?_)
        refine lv_iload_n hx hb dX12_fewer_20 rfl (lv_at hl 2 rfl) ?_
        refine lv_i2l (v := Int32.toInt64 a2) hx hb dX12_fewer_21 rfl ?_
        refine lv_iload hx hb dX12_fewer_22 (lv_at hl 5 rfl) ?_
        obtain ⟨v12, S11, g10, h⟩ := hq_bd2 h
        refine hq_calll hI (va_runS (As := [.long (Int32.toInt64 a2), .int x4]) (rest := [.long v9, .long x3]) ⟨hx, hb, hml, hown, hts⟩ (c_X12_power l D kA ρ HB S8 (Int32.toInt64 a2) x4 _ g10) (va_cwS 2 hts (gdIn (List.forall_mem_cons.mpr ⟨kw_1285, (List.forall_mem_cons.mpr ⟨kw_1286, (List.forall_mem_cons.mpr ⟨kw_6, (fun _ h => absurd h List.not_mem_nil)⟩)⟩)⟩) kw_1287) rfl rfl rfl yd_X12_power ⟨Nat.le_of_ble_eq_true rfl, Nat.le_of_ble_eq_true rfl⟩) (hq_preS hE hI _) rfl rfl hl.1 rfl (lv_room (Nat.le_of_ble_eq_true rfl)) dX12_fewer_24 ⟨Nat.le_of_ble_eq_true rfl, Nat.le_of_ble_eq_true rfl⟩) (fun H locs hI => ?_)
        refine lv_lmul hx hb dX12_fewer_27 ?_
        refine lv_iload_n hx hb dX12_fewer_28 rfl (lv_at hl 3 rfl) ?_
        refine lv_iload_n hx hb dX12_fewer_29 rfl (lv_at hl 2 rfl) ?_
        refine lv_isub hx hb dX12_fewer_30 ?_
        refine lv_i2l (v := Int32.toInt64 (a3 - a2)) hx hb dX12_fewer_31 rfl ?_
        refine lv_iload_n hx hb dX12_fewer_32 rfl (lv_at hl 1 rfl) ?_
        refine lv_iload hx hb dX12_fewer_33 (lv_at hl 5 rfl) ?_
        refine lv_isub hx hb dX12_fewer_35 ?_
        obtain ⟨v15, S14, g13, h⟩ := hq_bd2 h
        refine hq_calll hI (va_runS (As := [.long (Int32.toInt64 (a3 - a2)), .int (a1 - x4)]) (rest := [.long (v9 * v12), .long x3]) ⟨hx, hb, hml, hown, hts⟩ (c_X12_power l D kA ρ HB S11 (Int32.toInt64 (a3 - a2)) (a1 - x4) _ g13) (va_cwS 2 hts (gdIn (List.forall_mem_cons.mpr ⟨kw_1285, (List.forall_mem_cons.mpr ⟨kw_1286, (List.forall_mem_cons.mpr ⟨kw_6, (fun _ h => absurd h List.not_mem_nil)⟩)⟩)⟩) kw_1287) rfl rfl rfl yd_X12_power ⟨Nat.le_of_ble_eq_true rfl, Nat.le_of_ble_eq_true rfl⟩) (hq_preS hE hI _) rfl rfl hl.1 rfl (lv_room (Nat.le_of_ble_eq_true rfl)) dX12_fewer_36 ⟨Nat.le_of_ble_eq_true rfl, Nat.le_of_ble_eq_true rfl⟩) (fun H locs hI => ?_)
        refine lv_lmul hx hb dX12_fewer_39 ?_
        refine lv_ladd hx hb dX12_fewer_40 ?_
        refine lv_lstore (lv' := [(4, .long (x3 + ((v9 * v12) * v15))), (0, .int a0), (1, .int a1), (2, .int a2), (3, .int a3), (6, .int x4)]) hx hb dX12_fewer_41 hl (by decide) rfl (fun ls hl => ?_)
        refine lv_iinc (v := (x4 + 1)) (lv' := [(6, .int (x4 + 1)), (4, .long (x3 + ((v9 * v12) * v15))), (0, .int a0), (1, .int a1), (2, .int a2), (3, .int a3)]) hx hb dX12_fewer_43 hl (k := 5) rfl rfl (by decide) rfl (fun ls hl => ?_)
        refine lv_goto (tgt := 6) hx hb dX12_fewer_46 (by decide) ?_
        exact ih6 (x3 + ((v9 * v12) * v15)) (x4 + 1) S14 _ _ _ h hI (lv_sub hl [2, 3, 4, 5, 1, 0] rfl)
  exact hL6 FU 0 0 S _ _ _ h hI (lv_sub hl [2, 3, 4, 5, 1, 0] rfl)
-- RodDipsModel.fair(IIIII)I
theorem dX12_fair_0 : decode cX12_fair 0 = .ok (.aload_n 0, 1) := by decide +kernel
theorem dX12_fair_1 : decode cX12_fair 1 = .ok (.iload_n 2, 1) := by decide +kernel
theorem dX12_fair_2 : decode cX12_fair 2 = .ok (.invokevirtual 47, 3) := by decide +kernel
theorem dX12_fair_5 : decode cX12_fair 5 = .ok (.ifCond .ne 5, 3) := by decide +kernel
theorem dX12_fair_8 : decode cX12_fair 8 = .ok (.iconst (-1), 1) := by decide +kernel
theorem dX12_fair_9 : decode cX12_fair 9 = .ok (.ireturn, 1) := by decide +kernel
theorem dX12_fair_10 : decode cX12_fair 10 = .ok (.iload_n 1, 1) := by decide +kernel
theorem dX12_fair_11 : decode cX12_fair 11 = .ok (.iconst 0, 1) := by decide +kernel
theorem dX12_fair_12 : decode cX12_fair 12 = .ok (.bipush 99, 2) := by decide +kernel
theorem dX12_fair_14 : decode cX12_fair 14 = .ok (.invokestatic 39, 3) := by decide +kernel
theorem dX12_fair_17 : decode cX12_fair 17 = .ok (.ifCond .eq 35, 3) := by decide +kernel
theorem dX12_fair_20 : decode cX12_fair 20 = .ok (.iload_n 3, 1) := by decide +kernel
theorem dX12_fair_21 : decode cX12_fair 21 = .ok (.iconst 0, 1) := by decide +kernel
theorem dX12_fair_22 : decode cX12_fair 22 = .ok (.bipush 100, 2) := by decide +kernel
theorem dX12_fair_24 : decode cX12_fair 24 = .ok (.invokestatic 39, 3) := by decide +kernel
theorem dX12_fair_27 : decode cX12_fair 27 = .ok (.ifCond .eq 25, 3) := by decide +kernel
theorem dX12_fair_30 : decode cX12_fair 30 = .ok (.iload 4, 2) := by decide +kernel
theorem dX12_fair_32 : decode cX12_fair 32 = .ok (.iconst 0, 1) := by decide +kernel
theorem dX12_fair_33 : decode cX12_fair 33 = .ok (.bipush 100, 2) := by decide +kernel
theorem dX12_fair_35 : decode cX12_fair 35 = .ok (.invokestatic 39, 3) := by decide +kernel
theorem dX12_fair_38 : decode cX12_fair 38 = .ok (.ifCond .eq 14, 3) := by decide +kernel
theorem dX12_fair_41 : decode cX12_fair 41 = .ok (.iload 5, 2) := by decide +kernel
theorem dX12_fair_43 : decode cX12_fair 43 = .ok (.iconst 0, 1) := by decide +kernel
theorem dX12_fair_44 : decode cX12_fair 44 = .ok (.bipush 100, 2) := by decide +kernel
theorem dX12_fair_46 : decode cX12_fair 46 = .ok (.invokestatic 39, 3) := by decide +kernel
theorem dX12_fair_49 : decode cX12_fair 49 = .ok (.ifCond .ne 6, 3) := by decide +kernel
theorem dX12_fair_52 : decode cX12_fair 52 = .ok (.bipush (-2), 2) := by decide +kernel
theorem dX12_fair_54 : decode cX12_fair 54 = .ok (.ireturn, 1) := by decide +kernel
theorem dX12_fair_55 : decode cX12_fair 55 = .ok (.aload_n 0, 1) := by decide +kernel
theorem dX12_fair_56 : decode cX12_fair 56 = .ok (.iload_n 2, 1) := by decide +kernel
theorem dX12_fair_57 : decode cX12_fair 57 = .ok (.iload_n 1, 1) := by decide +kernel
theorem dX12_fair_58 : decode cX12_fair 58 = .ok (.invokevirtual 202, 3) := by decide +kernel
theorem dX12_fair_61 : decode cX12_fair 61 = .ok (.istore 6, 2) := by decide +kernel
theorem dX12_fair_63 : decode cX12_fair 63 = .ok (.aload_n 0, 1) := by decide +kernel
theorem dX12_fair_64 : decode cX12_fair 64 = .ok (.getfield 9, 3) := by decide +kernel
theorem dX12_fair_67 : decode cX12_fair 67 = .ok (.iconst 0, 1) := by decide +kernel
theorem dX12_fair_68 : decode cX12_fair 68 = .ok (.iaload, 1) := by decide +kernel
theorem dX12_fair_69 : decode cX12_fair 69 = .ok (.istore 7, 2) := by decide +kernel
theorem dX12_fair_71 : decode cX12_fair 71 = .ok (.iconst 1, 1) := by decide +kernel
theorem dX12_fair_72 : decode cX12_fair 72 = .ok (.istore 8, 2) := by decide +kernel
theorem dX12_fair_74 : decode cX12_fair 74 = .ok (.iload 8, 2) := by decide +kernel
theorem dX12_fair_76 : decode cX12_fair 76 = .ok (.bipush 6, 2) := by decide +kernel
theorem dX12_fair_78 : decode cX12_fair 78 = .ok (.if_icmp .gt 112, 3) := by decide +kernel
theorem dX12_fair_81 : decode cX12_fair 81 = .ok (.iconst 0, 1) := by decide +kernel
theorem dX12_fair_82 : decode cX12_fair 82 = .ok (.istore 9, 2) := by decide +kernel
theorem dX12_fair_84 : decode cX12_fair 84 = .ok (.iload 9, 2) := by decide +kernel
theorem dX12_fair_86 : decode cX12_fair 86 = .ok (.iload 8, 2) := by decide +kernel
theorem dX12_fair_88 : decode cX12_fair 88 = .ok (.if_icmp .gt 96, 3) := by decide +kernel
theorem dX12_fair_91 : decode cX12_fair 91 = .ok (.iload 9, 2) := by decide +kernel
theorem dX12_fair_93 : decode cX12_fair 93 = .ok (.iload 8, 2) := by decide +kernel
theorem dX12_fair_95 : decode cX12_fair 95 = .ok (.iload_n 3, 1) := by decide +kernel
theorem dX12_fair_96 : decode cX12_fair 96 = .ok (.bipush 100, 2) := by decide +kernel
theorem dX12_fair_98 : decode cX12_fair 98 = .ok (.invokestatic 256, 3) := by decide +kernel
theorem dX12_fair_101 : decode cX12_fair 101 = .ok (.lstore 10, 2) := by decide +kernel
theorem dX12_fair_103 : decode cX12_fair 103 = .ok (.iload 7, 2) := by decide +kernel
theorem dX12_fair_105 : decode cX12_fair 105 = .ok (.i2l, 1) := by decide +kernel
theorem dX12_fair_106 : decode cX12_fair 106 = .ok (.iload 8, 2) := by decide +kernel
theorem dX12_fair_108 : decode cX12_fair 108 = .ok (.invokestatic 252, 3) := by decide +kernel
theorem dX12_fair_111 : decode cX12_fair 111 = .ok (.iload 9, 2) := by decide +kernel
theorem dX12_fair_113 : decode cX12_fair 113 = .ok (.iload 8, 2) := by decide +kernel
theorem dX12_fair_115 : decode cX12_fair 115 = .ok (.iload 6, 2) := by decide +kernel
theorem dX12_fair_117 : decode cX12_fair 117 = .ok (.iload 7, 2) := by decide +kernel
theorem dX12_fair_119 : decode cX12_fair 119 = .ok (.invokestatic 256, 3) := by decide +kernel
theorem dX12_fair_122 : decode cX12_fair 122 = .ok (.lsub, 1) := by decide +kernel
theorem dX12_fair_123 : decode cX12_fair 123 = .ok (.lstore 12, 2) := by decide +kernel
theorem dX12_fair_125 : decode cX12_fair 125 = .ok (.lload 10, 2) := by decide +kernel
theorem dX12_fair_127 : decode cX12_fair 127 = .ok (.ldc2_w 260, 3) := by decide +kernel
theorem dX12_fair_130 : decode cX12_fair 130 = .ok (.lmul, 1) := by decide +kernel
theorem dX12_fair_131 : decode cX12_fair 131 = .ok (.iload 4, 2) := by decide +kernel
theorem dX12_fair_133 : decode cX12_fair 133 = .ok (.i2l, 1) := by decide +kernel
theorem dX12_fair_134 : decode cX12_fair 134 = .ok (.ldc2_w 260, 3) := by decide +kernel
theorem dX12_fair_137 : decode cX12_fair 137 = .ok (.iload 8, 2) := by decide +kernel
theorem dX12_fair_139 : decode cX12_fair 139 = .ok (.invokestatic 252, 3) := by decide +kernel
theorem dX12_fair_142 : decode cX12_fair 142 = .ok (.lmul, 1) := by decide +kernel
theorem dX12_fair_143 : decode cX12_fair 143 = .ok (.lcmp, 1) := by decide +kernel
theorem dX12_fair_144 : decode cX12_fair 144 = .ok (.ifCond .gt 34, 3) := by decide +kernel
theorem dX12_fair_147 : decode cX12_fair 147 = .ok (.lload 12, 2) := by decide +kernel
theorem dX12_fair_149 : decode cX12_fair 149 = .ok (.ldc2_w 260, 3) := by decide +kernel
theorem dX12_fair_152 : decode cX12_fair 152 = .ok (.lmul, 1) := by decide +kernel
theorem dX12_fair_153 : decode cX12_fair 153 = .ok (.iload 5, 2) := by decide +kernel
theorem dX12_fair_155 : decode cX12_fair 155 = .ok (.i2l, 1) := by decide +kernel
theorem dX12_fair_156 : decode cX12_fair 156 = .ok (.iload 7, 2) := by decide +kernel
theorem dX12_fair_158 : decode cX12_fair 158 = .ok (.i2l, 1) := by decide +kernel
theorem dX12_fair_159 : decode cX12_fair 159 = .ok (.iload 8, 2) := by decide +kernel
theorem dX12_fair_161 : decode cX12_fair 161 = .ok (.invokestatic 252, 3) := by decide +kernel
theorem dX12_fair_164 : decode cX12_fair 164 = .ok (.lmul, 1) := by decide +kernel
theorem dX12_fair_165 : decode cX12_fair 165 = .ok (.lcmp, 1) := by decide +kernel
theorem dX12_fair_166 : decode cX12_fair 166 = .ok (.ifCond .gt 12, 3) := by decide +kernel
theorem dX12_fair_169 : decode cX12_fair 169 = .ok (.bipush 10, 2) := by decide +kernel
theorem dX12_fair_171 : decode cX12_fair 171 = .ok (.iload 8, 2) := by decide +kernel
theorem dX12_fair_173 : decode cX12_fair 173 = .ok (.imul, 1) := by decide +kernel
theorem dX12_fair_174 : decode cX12_fair 174 = .ok (.iload 9, 2) := by decide +kernel
theorem dX12_fair_176 : decode cX12_fair 176 = .ok (.iadd, 1) := by decide +kernel
theorem dX12_fair_177 : decode cX12_fair 177 = .ok (.ireturn, 1) := by decide +kernel
theorem dX12_fair_178 : decode cX12_fair 178 = .ok (.iinc 9 1, 3) := by decide +kernel
theorem dX12_fair_181 : decode cX12_fair 181 = .ok (.goto (-97), 3) := by decide +kernel
theorem dX12_fair_184 : decode cX12_fair 184 = .ok (.iinc 8 1, 3) := by decide +kernel
theorem dX12_fair_187 : decode cX12_fair 187 = .ok (.goto (-113), 3) := by decide +kernel
theorem dX12_fair_190 : decode cX12_fair 190 = .ok (.bipush (-5), 2) := by decide +kernel
theorem dX12_fair_192 : decode cX12_fair 192 = .ok (.ireturn, 1) := by decide +kernel
def f_X12_fair_K190 (S30 : HSt) : Option (Int32 × HSt) := some ((-5), S30)
def f_X12_fair_K184 (kb74 : (Int32 → HSt → Option (Int32 × HSt))) (x31 : Int32) (S34 : HSt) : Option (Int32 × HSt) := kb74 (x31 + 1) S34
def f_X12_fair_B84 (a3 : Int32) (a4 : Int32) (a5 : Int32) (v25 : Int32) (v29 : Int32) (x31 : Int32) (kx184 : (HSt → Option (Int32 × HSt))) (kb84 : (Int32 → HSt → Option (Int32 × HSt))) (x35 : Int32) (S36 : HSt) : Option (Int32 × HSt) := if x31 < x35 then (kx184 S36) else (bd2 (f_X12_fewer S36 x35 x31 a3 100) fun v40 S39 => bd2 (f_X12_power S39 (Int32.toInt64 v29) x31) fun v43 S42 => bd2 (f_X12_fewer S42 x35 x31 v25 v29) fun v46 S45 => bd2 (f_X12_power S45 100 x31) fun v49 S48 => if 0 < (lg_cmp (v40 * 100) ((Int32.toInt64 a4) * v49)) then (kb84 (x35 + 1) S48) else (bd2 (f_X12_power S48 (Int32.toInt64 v29) x31) fun v53 S52 => if 0 < (lg_cmp ((v43 - v46) * 100) ((Int32.toInt64 a5) * v53)) then (kb84 (x35 + 1) S52) else (some ((10 * x31) + x35, S52))))
def f_X12_fair_L84 (a3 : Int32) (a4 : Int32) (a5 : Int32) (v25 : Int32) (v29 : Int32) (x31 : Int32) (kx184 : (HSt → Option (Int32 × HSt))) : Nat → Int32 → HSt → Option (Int32 × HSt)
  | 0, _, _ => none
  | n + 1, x35, S => f_X12_fair_B84 a3 a4 a5 v25 v29 x31 kx184 (f_X12_fair_L84 a3 a4 a5 v25 v29 x31 kx184 n) x35 S
def f_X12_fair_B74 (a3 : Int32) (a4 : Int32) (a5 : Int32) (v25 : Int32) (v29 : Int32) (kx190 : (HSt → Option (Int32 × HSt))) (kb74 : (Int32 → HSt → Option (Int32 × HSt))) (x31 : Int32) (S32 : HSt) : Option (Int32 × HSt) := if 6 < x31 then (kx190 S32) else ((f_X12_fair_L84 a3 a4 a5 v25 v29 x31 (f_X12_fair_K184 kb74 x31) FU) 0 S32)
def f_X12_fair_L74 (a3 : Int32) (a4 : Int32) (a5 : Int32) (v25 : Int32) (v29 : Int32) (kx190 : (HSt → Option (Int32 × HSt))) : Nat → Int32 → HSt → Option (Int32 × HSt)
  | 0, _, _ => none
  | n + 1, x31, S => f_X12_fair_B74 a3 a4 a5 v25 v29 kx190 (f_X12_fair_L74 a3 a4 a5 v25 v29 kx190 n) x31 S
def f_X12_fair (S : HSt) (a0 : Nat) (a1 : Int32) (a2 : Int32) (a3 : Int32) (a4 : Int32) (a5 : Int32) : Option (Int32 × HSt) := if gC S a0 = some 12 then (bd2 (f_X12_isPlace S a0 a2) fun v4 S3 => if v4 = 0 then (some ((-1), S3)) else (bd2 (f_X12_in S3 a1 0 99) fun v8 S7 => if v8 = 0 then (some ((-2), S7)) else (bd2 (f_X12_in S7 a3 0 100) fun v12 S11 => if v12 = 0 then (some ((-2), S11)) else (bd2 (f_X12_in S11 a4 0 100) fun v16 S15 => if v16 = 0 then (some ((-2), S15)) else (bd2 (f_X12_in S15 a5 0 100) fun v20 S19 => if v20 = 0 then (some ((-2), S19)) else (if gC S19 a0 = some 12 then (bd2 (f_X12_placesBy S19 a0 a2 a1) fun v25 S24 => (gR S24 a0 12 1).bind fun b26 => (aI S24 b26 0 0).bind fun v29 => (f_X12_fair_L74 a3 a4 a5 v25 v29 f_X12_fair_K190 FU) 1 S24) else none)))))) else none
abbrev rm_X12_fair : Room := { frames := 2, cells := 0, slots := 0, locals := 51 }
abbrev w_X12_fair : List Cond := Cond.code yX12_fair cX12_fair 14 (Option.some FieldType.int) :: lwG
theorem yd_X12_fair : yX12_fair.cls ≠ "java/lang/invoke/MethodHandle" ∧ yX12_fair.cls ≠ "java/lang/invoke/VarHandle" ∧ (parseMethodDescriptor yX12_fair.desc).map (fun d => d.parameters.length) = some 5 := by decide +kernel
theorem ye_X12_fair : yX12_fair.cls = RX12 ∧ yX12_fair.cls ≠ "java/lang/invoke/MethodHandle" ∧ yX12_fair.cls ≠ "java/lang/invoke/VarHandle" ∧ (parseMethodDescriptor yX12_fair.desc).map (fun d => d.parameters.length) = some 5 := by decide +kernel
set_option maxHeartbeats 4000000 in
set_option maxRecDepth 100000 in
theorem c_X12_fair (l : Launch) (D : va_G) (kA ρ : Nat → Nat) (HB : Heap) (S : HSt) (a0 : Nat) (a1 : Int32) (a2 : Int32) (a3 : Int32) (a4 : Int32) (a5 : Int32) (res : Int32 × HSt) (h : f_X12_fair S a0 a1 a2 a3 a4 a5 = some res) : Met l yX12_fair w_X12_fair rm_X12_fair (hPc D kA ρ HB S [.ref a0, .int a1, .int a2, .int a3, .int a4, .int a5]) (hQi D kA HB S res) 0 0 (hFree HB) := by
  refine Met.ofW (cc := cX12_fair) (maxL := 14) (ret := (Option.some FieldType.int)) (by decide) rfl ?_
  intro p e s m args below meth c s₁ B hml hv
  obtain ⟨rfl, hE, h0⟩ := hv
  have hx := B.exec
  have hb := B.bytes
  have hr := B.returns
  have hts0 := atoms_spec (ws := w_X12_fair) B.pre
  have hts : ∀ w ∈ lwG, w.before _ s = true := fun w hw => hts0 w (List.mem_cons_of_mem _ hw)
  have hown : s.vm.findClass RX12 = some m.cls := findClass_of_methodNamed B.named
  have hlocks := B.notSynchronized
  have hI : hqX D kA HB S.2 S s.heap [] := ⟨h0, Nat.le_refl _, fun _ q => absurd q List.not_mem_nil⟩
  have hl := lv_entry ([.ref a0, .int a1, .int a2, .int a3, .int a4, .int a5]) (n := 14) (Nat.le_of_ble_eq_true rfl)
  rw [lg_entry_eq]
  generalize (lg_sl ([.ref a0, .int a1, .int a2, .int a3, .int a4, .int a5]) ++ List.replicate (14 - (lg_sl ([.ref a0, .int a1, .int a2, .int a3, .int a4, .int a5])).length) Slot.unset).toArray = ls at hl ⊢
  have hl : lv_has ls 14 [(0, .ref a0), (1, .int a1), (2, .int a2), (3, .int a3), (4, .int a4), (5, .int a5)] := hl
  unfold f_X12_fair at h
  refine lv_aload_n hx hb dX12_fair_0 rfl (lv_at hl 0 rfl) ?_
  refine lv_iload_n hx hb dX12_fair_1 rfl (lv_at hl 2 rfl) ?_
  obtain ⟨g2, h⟩ := hq_g h
  obtain ⟨v4, S3, g1, h⟩ := hq_bd2 h
  refine hq_calli hI (va_runV (As := [.int a2]) (rest := []) ⟨hx, hb, hml, hown, hts⟩ (c_X12_isPlace l D kA ρ HB S a0 a2 _ g1) (cwV 1 hts (gdIn (List.forall_mem_cons.mpr ⟨kw_1020, (List.forall_mem_cons.mpr ⟨kw_1022, (List.forall_mem_cons.mpr ⟨ks_30, (List.forall_mem_cons.mpr ⟨kw_6, (fun _ h => absurd h List.not_mem_nil)⟩)⟩)⟩)⟩) kw_1023) rfl rfl rfl ye_X12_isPlace ⟨Nat.le_of_ble_eq_true rfl, Nat.le_of_ble_eq_true rfl⟩) (hq_preC hE hI g2 rfl _) rfl rfl hl.1 rfl (lv_room (Nat.le_of_ble_eq_true rfl)) dX12_fair_2 ⟨Nat.le_of_ble_eq_true rfl, Nat.le_of_ble_eq_true rfl⟩) (fun H locs hI => ?_)
  refine lv_if_ne (tgt := 10) hx hb dX12_fair_5 (by decide) (fun c5 => ?_) (fun c5 => ?_)
  · have h := hq_f h c5
    refine lv_iload_n hx hb dX12_fair_10 rfl (lv_at hl 1 rfl) ?_
    refine lv_iconst (v := 0) hx hb dX12_fair_11 (by decide) ?_
    refine lv_bipush (v := 99) hx hb dX12_fair_12 (by decide) ?_
    obtain ⟨v8, S7, g6, h⟩ := hq_bd2 h
    refine hq_calli hI (va_runS (As := [.int a1, .int 0, .int 99]) (rest := []) ⟨hx, hb, hml, hown, hts⟩ (c_X12_in l D kA ρ HB S3 a1 0 99 _ g6) (va_cwS 3 hts (gdIn (List.forall_mem_cons.mpr ⟨kw_1010, (List.forall_mem_cons.mpr ⟨kw_1011, (List.forall_mem_cons.mpr ⟨kw_6, (fun _ h => absurd h List.not_mem_nil)⟩)⟩)⟩) kw_1012) rfl rfl rfl yd_X12_in ⟨Nat.le_of_ble_eq_true rfl, Nat.le_of_ble_eq_true rfl⟩) (hq_preS hE hI _) rfl rfl hl.1 rfl (lv_room (Nat.le_of_ble_eq_true rfl)) dX12_fair_14 ⟨Nat.le_of_ble_eq_true rfl, Nat.le_of_ble_eq_true rfl⟩) (fun H locs hI => ?_)
    refine lv_if_eq (tgt := 52) hx hb dX12_fair_17 (by decide) (fun c9 => ?_) (fun c9 => ?_)
    · have h := hq_t h c9
      refine lv_bipush (v := (-2)) hx hb dX12_fair_52 (by decide) ?_
      exact hq_iret hx hb hr hlocks h0 hI h dX12_fair_54
    · have h := hq_f h c9
      refine lv_iload_n hx hb dX12_fair_20 rfl (lv_at hl 3 rfl) ?_
      refine lv_iconst (v := 0) hx hb dX12_fair_21 (by decide) ?_
      refine lv_bipush (v := 100) hx hb dX12_fair_22 (by decide) ?_
      obtain ⟨v12, S11, g10, h⟩ := hq_bd2 h
      refine hq_calli hI (va_runS (As := [.int a3, .int 0, .int 100]) (rest := []) ⟨hx, hb, hml, hown, hts⟩ (c_X12_in l D kA ρ HB S7 a3 0 100 _ g10) (va_cwS 3 hts (gdIn (List.forall_mem_cons.mpr ⟨kw_1010, (List.forall_mem_cons.mpr ⟨kw_1011, (List.forall_mem_cons.mpr ⟨kw_6, (fun _ h => absurd h List.not_mem_nil)⟩)⟩)⟩) kw_1012) rfl rfl rfl yd_X12_in ⟨Nat.le_of_ble_eq_true rfl, Nat.le_of_ble_eq_true rfl⟩) (hq_preS hE hI _) rfl rfl hl.1 rfl (lv_room (Nat.le_of_ble_eq_true rfl)) dX12_fair_24 ⟨Nat.le_of_ble_eq_true rfl, Nat.le_of_ble_eq_true rfl⟩) (fun H locs hI => ?_)
      refine lv_if_eq (tgt := 52) hx hb dX12_fair_27 (by decide) (fun c13 => ?_) (fun c13 => ?_)
      · have h := hq_t h c13
        refine lv_bipush (v := (-2)) hx hb dX12_fair_52 (by decide) ?_
        exact hq_iret hx hb hr hlocks h0 hI h dX12_fair_54
      · have h := hq_f h c13
        refine lv_iload hx hb dX12_fair_30 (lv_at hl 4 rfl) ?_
        refine lv_iconst (v := 0) hx hb dX12_fair_32 (by decide) ?_
        refine lv_bipush (v := 100) hx hb dX12_fair_33 (by decide) ?_
        obtain ⟨v16, S15, g14, h⟩ := hq_bd2 h
        refine hq_calli hI (va_runS (As := [.int a4, .int 0, .int 100]) (rest := []) ⟨hx, hb, hml, hown, hts⟩ (c_X12_in l D kA ρ HB S11 a4 0 100 _ g14) (va_cwS 3 hts (gdIn (List.forall_mem_cons.mpr ⟨kw_1010, (List.forall_mem_cons.mpr ⟨kw_1011, (List.forall_mem_cons.mpr ⟨kw_6, (fun _ h => absurd h List.not_mem_nil)⟩)⟩)⟩) kw_1012) rfl rfl rfl yd_X12_in ⟨Nat.le_of_ble_eq_true rfl, Nat.le_of_ble_eq_true rfl⟩) (hq_preS hE hI _) rfl rfl hl.1 rfl (lv_room (Nat.le_of_ble_eq_true rfl)) dX12_fair_35 ⟨Nat.le_of_ble_eq_true rfl, Nat.le_of_ble_eq_true rfl⟩) (fun H locs hI => ?_)
        refine lv_if_eq (tgt := 52) hx hb dX12_fair_38 (by decide) (fun c17 => ?_) (fun c17 => ?_)
        · have h := hq_t h c17
          refine lv_bipush (v := (-2)) hx hb dX12_fair_52 (by decide) ?_
          exact hq_iret hx hb hr hlocks h0 hI h dX12_fair_54
        · have h := hq_f h c17
          refine lv_iload hx hb dX12_fair_41 (lv_at hl 5 rfl) ?_
          refine lv_iconst (v := 0) hx hb dX12_fair_43 (by decide) ?_
          refine lv_bipush (v := 100) hx hb dX12_fair_44 (by decide) ?_
          obtain ⟨v20, S19, g18, h⟩ := hq_bd2 h
          refine hq_calli hI (va_runS (As := [.int a5, .int 0, .int 100]) (rest := []) ⟨hx, hb, hml, hown, hts⟩ (c_X12_in l D kA ρ HB S15 a5 0 100 _ g18) (va_cwS 3 hts (gdIn (List.forall_mem_cons.mpr ⟨kw_1010, (List.forall_mem_cons.mpr ⟨kw_1011, (List.forall_mem_cons.mpr ⟨kw_6, (fun _ h => absurd h List.not_mem_nil)⟩)⟩)⟩) kw_1012) rfl rfl rfl yd_X12_in ⟨Nat.le_of_ble_eq_true rfl, Nat.le_of_ble_eq_true rfl⟩) (hq_preS hE hI _) rfl rfl hl.1 rfl (lv_room (Nat.le_of_ble_eq_true rfl)) dX12_fair_46 ⟨Nat.le_of_ble_eq_true rfl, Nat.le_of_ble_eq_true rfl⟩) (fun H locs hI => ?_)
          refine lv_if_ne (tgt := 55) hx hb dX12_fair_49 (by decide) (fun c21 => ?_) (fun c21 => ?_)
          · have h := hq_f h c21
            refine lv_aload_n hx hb dX12_fair_55 rfl (lv_at hl 0 rfl) ?_
            refine lv_iload_n hx hb dX12_fair_56 rfl (lv_at hl 2 rfl) ?_
            refine lv_iload_n hx hb dX12_fair_57 rfl (lv_at hl 1 rfl) ?_
            obtain ⟨g23, h⟩ := hq_g h
            obtain ⟨v25, S24, g22, h⟩ := hq_bd2 h
            refine hq_calli hI (va_runV (As := [.int a2, .int a1]) (rest := []) ⟨hx, hb, hml, hown, hts⟩ (c_X12_placesBy l D kA ρ HB S19 a0 a2 a1 _ g22) (cwV 2 hts (gdIn (List.forall_mem_cons.mpr ⟨kw_1181, (List.forall_mem_cons.mpr ⟨kw_1183, (List.forall_mem_cons.mpr ⟨ks_57, (List.forall_mem_cons.mpr ⟨kw_6, (fun _ h => absurd h List.not_mem_nil)⟩)⟩)⟩)⟩) kw_1184) rfl rfl rfl ye_X12_placesBy ⟨Nat.le_of_ble_eq_true rfl, Nat.le_of_ble_eq_true rfl⟩) (hq_preC hE hI g23 rfl _) rfl rfl hl.1 rfl (lv_room (Nat.le_of_ble_eq_true rfl)) dX12_fair_58 ⟨Nat.le_of_ble_eq_true rfl, Nat.le_of_ble_eq_true rfl⟩) (fun H locs hI => ?_)
            refine lv_istore (lv' := [(6, .int v25), (0, .ref a0), (1, .int a1), (2, .int a2), (3, .int a3), (4, .int a4), (5, .int a5)]) hx hb dX12_fair_61 hl (by decide) rfl (fun ls hl => ?_)
            refine lv_aload_n hx hb dX12_fair_63 rfl (lv_at hl 1 rfl) ?_
            obtain ⟨b26, g27, h⟩ := hq_bind h
            obtain ⟨fs_g27, hs_g27, hv_g27⟩ := gR_at g27
            refine hq_get hx hb hts hown hE hI hs_g27 inG12 rfl 1 (by decide) kw_945 hv_g27 dX12_fair_64 ?_
            refine lv_iconst (v := 0) hx hb dX12_fair_67 (by decide) ?_
            obtain ⟨v29, g28, h⟩ := hq_bind h
            refine hq_iald hx hb hE hI g28 dX12_fair_68 ?_
            refine lv_istore (lv' := [(7, .int v29), (6, .int v25), (0, .ref a0), (1, .int a1), (2, .int a2), (3, .int a3), (4, .int a4), (5, .int a5)]) hx hb dX12_fair_69 hl (by decide) rfl (fun ls hl => ?_)
            refine lv_iconst (v := 1) hx hb dX12_fair_71 (by decide) ?_
            refine lv_istore (lv' := [(8, .int 1), (7, .int v29), (6, .int v25), (0, .ref a0), (1, .int a1), (2, .int a2), (3, .int a3), (4, .int a4), (5, .int a5)]) hx hb dX12_fair_72 hl (by decide) rfl (fun ls hl => ?_)
            have hK190 : ∀ (S30 : HSt) (H : Heap) (locs : List Loc) (ls : Array Slot), f_X12_fair_K190 S30 = some res → hqX D kA HB S.2 S30 H locs → lv_has ls 14 [] → W p l e rm_X12_fair s m ([.ref a0, .int a1, .int a2, .int a3, .int a4, .int a5] : List Value).toArray below meth c H locs 0 0 (MQ below (hQi D kA HB S res) ([.ref a0, .int a1, .int a2, .int a3, .int a4, .int a5] : List Value).toArray s 0 0 (hFree HB)) (F0 m 190 ls []) := by
              intro S30 H locs ls h hI hl
              unfold f_X12_fair_K190 at h
              refine lv_bipush (v := (-5)) hx hb dX12_fair_190 (by decide) ?_
              exact hq_iret hx hb hr hlocks h0 hI h dX12_fair_192
            have hL74 : ∀ (n74 : Nat) (x31 : Int32) (S32 : HSt) (H : Heap) (locs : List Loc) (ls : Array Slot), (f_X12_fair_L74 a3 a4 a5 v25 v29 f_X12_fair_K190 n74) x31 S32 = some res → hqX D kA HB S.2 S32 H locs → lv_has ls 14 [(3, .int a3), (4, .int a4), (5, .int a5), (6, .int v25), (7, .int v29), (8, .int x31)] → W p l e rm_X12_fair s m ([.ref a0, .int a1, .int a2, .int a3, .int a4, .int a5] : List Value).toArray below meth c H locs 0 0 (MQ below (hQi D kA HB S res) ([.ref a0, .int a1, .int a2, .int a3, .int a4, .int a5] : List Value).toArray s 0 0 (hFree HB)) (F0 m 74 ls []) := by
              intro n74
              induction n74 with
              | zero =>
                intro x31 S32 H locs ls h
                have h : (none : Option (Int32 × HSt)) = some res := h
                cases h
              | succ n74 ih74 =>
                intro x31 S32 H locs ls h hI hl
                have h : f_X12_fair_B74 a3 a4 a5 v25 v29 f_X12_fair_K190 (f_X12_fair_L74 a3 a4 a5 v25 v29 f_X12_fair_K190 n74) x31 S32 = some res := h
                unfold f_X12_fair_B74 at h
                refine lv_iload hx hb dX12_fair_74 (lv_at hl 5 rfl) ?_
                refine lv_bipush (v := 6) hx hb dX12_fair_76 (by decide) ?_
                refine lv_icmp_gt (tgt := 190) hx hb dX12_fair_78 (by decide) (fun c33 => ?_) (fun c33 => ?_)
                · have h := hq_t h c33
                  exact hK190 S32 _ _ _ h hI (lv_sub hl [] rfl)
                · have h := hq_f h c33
                  refine lv_iconst (v := 0) hx hb dX12_fair_81 (by decide) ?_
                  refine lv_istore (lv' := [(9, .int 0), (3, .int a3), (4, .int a4), (5, .int a5), (6, .int v25), (7, .int v29), (8, .int x31)]) hx hb dX12_fair_82 hl (by decide) rfl (fun ls hl => ?_)
                  have hK184 : ∀ (S34 : HSt) (H : Heap) (locs : List Loc) (ls : Array Slot), (f_X12_fair_K184 (f_X12_fair_L74 a3 a4 a5 v25 v29 f_X12_fair_K190 n74) x31) S34 = some res → hqX D kA HB S.2 S34 H locs → lv_has ls 14 [(3, .int a3), (4, .int a4), (5, .int a5), (6, .int v25), (7, .int v29), (8, .int x31)] → W p l e rm_X12_fair s m ([.ref a0, .int a1, .int a2, .int a3, .int a4, .int a5] : List Value).toArray below meth c H locs 0 0 (MQ below (hQi D kA HB S res) ([.ref a0, .int a1, .int a2, .int a3, .int a4, .int a5] : List Value).toArray s 0 0 (hFree HB)) (F0 m 184 ls []) := by
                    intro S34 H locs ls h hI hl
                    unfold f_X12_fair_K184 at h
                    refine lv_iinc (v := (x31 + 1)) (lv' := [(8, .int (x31 + 1)), (3, .int a3), (4, .int a4), (5, .int a5), (6, .int v25), (7, .int v29)]) hx hb dX12_fair_184 hl (k := 5) rfl rfl (by decide) rfl (fun ls hl => ?_)
                    refine lv_goto (tgt := 74) hx hb dX12_fair_187 (by decide) ?_
                    exact ih74 (x31 + 1) S34 _ _ _ h hI (lv_sub hl [1, 2, 3, 4, 5, 0] rfl)
                  have hL84 : ∀ (n84 : Nat) (x35 : Int32) (S36 : HSt) (H : Heap) (locs : List Loc) (ls : Array Slot), (f_X12_fair_L84 a3 a4 a5 v25 v29 x31 (f_X12_fair_K184 (f_X12_fair_L74 a3 a4 a5 v25 v29 f_X12_fair_K190 n74) x31) n84) x35 S36 = some res → hqX D kA HB S.2 S36 H locs → lv_has ls 14 [(3, .int a3), (4, .int a4), (5, .int a5), (6, .int v25), (7, .int v29), (8, .int x31), (9, .int x35)] → W p l e rm_X12_fair s m ([.ref a0, .int a1, .int a2, .int a3, .int a4, .int a5] : List Value).toArray below meth c H locs 0 0 (MQ below (hQi D kA HB S res) ([.ref a0, .int a1, .int a2, .int a3, .int a4, .int a5] : List Value).toArray s 0 0 (hFree HB)) (F0 m 84 ls []) := by
                    intro n84
                    induction n84 with
                    | zero =>
                      intro x35 S36 H locs ls h
                      have h : (none : Option (Int32 × HSt)) = some res := h
                      cases h
                    | succ n84 ih84 =>
                      intro x35 S36 H locs ls h hI hl
                      have h : f_X12_fair_B84 a3 a4 a5 v25 v29 x31 (f_X12_fair_K184 (f_X12_fair_L74 a3 a4 a5 v25 v29 f_X12_fair_K190 n74) x31) (f_X12_fair_L84 a3 a4 a5 v25 v29 x31 (f_X12_fair_K184 (f_X12_fair_L74 a3 a4 a5 v25 v29 f_X12_fair_K190 n74) x31) n84) x35 S36 = some res := h
                      unfold f_X12_fair_B84 at h
                      refine lv_iload hx hb dX12_fair_84 (lv_at hl 6 rfl) ?_
                      refine lv_iload hx hb dX12_fair_86 (lv_at hl 5 rfl) ?_
                      refine lv_icmp_gt (tgt := 184) hx hb dX12_fair_88 (by decide) (fun c37 => ?_) (fun c37 => ?_)
                      · have h := hq_t h c37
                        exact hK184 S36 _ _ _ h hI (lv_sub hl [0, 1, 2, 3, 4, 5] rfl)
                      · have h := hq_f h c37
                        refine lv_iload hx hb dX12_fair_91 (lv_at hl 6 rfl) ?_
                        refine lv_iload hx hb dX12_fair_93 (lv_at hl 5 rfl) ?_
                        refine lv_iload_n hx hb dX12_fair_95 rfl (lv_at hl 0 rfl) ?_
                        refine lv_bipush (v := 100) hx hb dX12_fair_96 (by decide) ?_
                        obtain ⟨v40, S39, g38, h⟩ := hq_bd2 h
                        refine hq_calll hI (va_runS (As := [.int x35, .int x31, .int a3, .int 100]) (rest := []) ⟨hx, hb, hml, hown, hts⟩ (c_X12_fewer l D kA ρ HB S36 x35 x31 a3 100 _ g38) (va_cwS 4 hts (gdIn (List.forall_mem_cons.mpr ⟨kw_1279, (List.forall_mem_cons.mpr ⟨kw_1280, (List.forall_mem_cons.mpr ⟨kw_6, (fun _ h => absurd h List.not_mem_nil)⟩)⟩)⟩) kw_1281) rfl rfl rfl yd_X12_fewer ⟨Nat.le_of_ble_eq_true rfl, Nat.le_of_ble_eq_true rfl⟩) (hq_preS hE hI _) rfl rfl hl.1 rfl (lv_room (Nat.le_of_ble_eq_true rfl)) dX12_fair_98 ⟨Nat.le_of_ble_eq_true rfl, Nat.le_of_ble_eq_true rfl⟩) (fun H locs hI => ?_)
                        refine lv_lstore (lv' := [(10, .long v40), (3, .int a3), (4, .int a4), (5, .int a5), (6, .int v25), (7, .int v29), (8, .int x31), (9, .int x35)]) hx hb dX12_fair_101 hl (by decide) rfl (fun ls hl => ?_)
                        refine lv_iload hx hb dX12_fair_103 (lv_at hl 5 rfl) ?_
                        refine lv_i2l (v := Int32.toInt64 v29) hx hb dX12_fair_105 rfl ?_
                        refine lv_iload hx hb dX12_fair_106 (lv_at hl 6 rfl) ?_
                        obtain ⟨v43, S42, g41, h⟩ := hq_bd2 h
                        refine hq_calll hI (va_runS (As := [.long (Int32.toInt64 v29), .int x31]) (rest := []) ⟨hx, hb, hml, hown, hts⟩ (c_X12_power l D kA ρ HB S39 (Int32.toInt64 v29) x31 _ g41) (va_cwS 2 hts (gdIn (List.forall_mem_cons.mpr ⟨kw_1285, (List.forall_mem_cons.mpr ⟨kw_1286, (List.forall_mem_cons.mpr ⟨kw_6, (fun _ h => absurd h List.not_mem_nil)⟩)⟩)⟩) kw_1287) rfl rfl rfl yd_X12_power ⟨Nat.le_of_ble_eq_true rfl, Nat.le_of_ble_eq_true rfl⟩) (hq_preS hE hI _) rfl rfl hl.1 rfl (lv_room (Nat.le_of_ble_eq_true rfl)) dX12_fair_108 ⟨Nat.le_of_ble_eq_true rfl, Nat.le_of_ble_eq_true rfl⟩) (fun H locs hI => ?_)
                        refine lv_iload hx hb dX12_fair_111 (lv_at hl 7 rfl) ?_
                        refine lv_iload hx hb dX12_fair_113 (lv_at hl 6 rfl) ?_
                        refine lv_iload hx hb dX12_fair_115 (lv_at hl 4 rfl) ?_
                        refine lv_iload hx hb dX12_fair_117 (lv_at hl 5 rfl) ?_
                        obtain ⟨v46, S45, g44, h⟩ := hq_bd2 h
                        refine hq_calll hI (va_runS (As := [.int x35, .int x31, .int v25, .int v29]) (rest := [.long v43]) ⟨hx, hb, hml, hown, hts⟩ (c_X12_fewer l D kA ρ HB S42 x35 x31 v25 v29 _ g44) (va_cwS 4 hts (gdIn (List.forall_mem_cons.mpr ⟨kw_1279, (List.forall_mem_cons.mpr ⟨kw_1280, (List.forall_mem_cons.mpr ⟨kw_6, (fun _ h => absurd h List.not_mem_nil)⟩)⟩)⟩) kw_1281) rfl rfl rfl yd_X12_fewer ⟨Nat.le_of_ble_eq_true rfl, Nat.le_of_ble_eq_true rfl⟩) (hq_preS hE hI _) rfl rfl hl.1 rfl (lv_room (Nat.le_of_ble_eq_true rfl)) dX12_fair_119 ⟨Nat.le_of_ble_eq_true rfl, Nat.le_of_ble_eq_true rfl⟩) (fun H locs hI => ?_)
                        refine lv_lsub hx hb dX12_fair_122 ?_
                        refine lv_lstore (lv' := [(12, .long (v43 - v46)), (10, .long v40), (3, .int a3), (4, .int a4), (5, .int a5), (6, .int v25), (7, .int v29), (8, .int x31), (9, .int x35)]) hx hb dX12_fair_123 hl (by decide) rfl (fun ls hl => ?_)
                        refine lv_lload hx hb dX12_fair_125 (lv_at hl 1 rfl) ?_
                        refine lv_ldc2 (v := 100) hx hb hown (hts _ kw_1288) dX12_fair_127 ?_
                        refine lv_lmul hx hb dX12_fair_130 ?_
                        refine lv_iload hx hb dX12_fair_131 (lv_at hl 3 rfl) ?_
                        refine lv_i2l (v := Int32.toInt64 a4) hx hb dX12_fair_133 rfl ?_
                        refine lv_ldc2 (v := 100) hx hb hown (hts _ kw_1288) dX12_fair_134 ?_
                        refine lv_iload hx hb dX12_fair_137 (lv_at hl 7 rfl) ?_
                        obtain ⟨v49, S48, g47, h⟩ := hq_bd2 h
                        refine hq_calll hI (va_runS (As := [.long 100, .int x31]) (rest := [.long (Int32.toInt64 a4), .long (v40 * 100)]) ⟨hx, hb, hml, hown, hts⟩ (c_X12_power l D kA ρ HB S45 100 x31 _ g47) (va_cwS 2 hts (gdIn (List.forall_mem_cons.mpr ⟨kw_1285, (List.forall_mem_cons.mpr ⟨kw_1286, (List.forall_mem_cons.mpr ⟨kw_6, (fun _ h => absurd h List.not_mem_nil)⟩)⟩)⟩) kw_1287) rfl rfl rfl yd_X12_power ⟨Nat.le_of_ble_eq_true rfl, Nat.le_of_ble_eq_true rfl⟩) (hq_preS hE hI _) rfl rfl hl.1 rfl (lv_room (Nat.le_of_ble_eq_true rfl)) dX12_fair_139 ⟨Nat.le_of_ble_eq_true rfl, Nat.le_of_ble_eq_true rfl⟩) (fun H locs hI => ?_)
                        refine lv_lmul hx hb dX12_fair_142 ?_
                        refine W.lcmp hx hb dX12_fair_143 ?_
                        refine lv_if_gt (tgt := 178) hx hb dX12_fair_144 (by decide) (fun c50 => ?_) (fun c50 => ?_)
                        · have h := hq_t h c50
                          refine lv_iinc (v := (x35 + 1)) (lv' := [(9, .int (x35 + 1)), (12, .long (v43 - v46)), (10, .long v40), (3, .int a3), (4, .int a4), (5, .int a5), (6, .int v25), (7, .int v29), (8, .int x31)]) hx hb dX12_fair_178 hl (k := 8) rfl rfl (by decide) rfl (fun ls hl => ?_)
                          refine lv_goto (tgt := 84) hx hb dX12_fair_181 (by decide) ?_
                          exact ih84 (x35 + 1) S48 _ _ _ h hI (lv_sub hl [3, 4, 5, 6, 7, 8, 0] rfl)
                        · have h := hq_f h c50
                          refine lv_lload hx hb dX12_fair_147 (lv_at hl 0 rfl) ?_
                          refine lv_ldc2 (v := 100) hx hb hown (hts _ kw_1288) dX12_fair_149 ?_
                          refine lv_lmul hx hb dX12_fair_152 ?_
                          refine lv_iload hx hb dX12_fair_153 (lv_at hl 4 rfl) ?_
                          refine lv_i2l (v := Int32.toInt64 a5) hx hb dX12_fair_155 rfl ?_
                          refine lv_iload hx hb dX12_fair_156 (lv_at hl 6 rfl) ?_
                          refine lv_i2l (v := Int32.toInt64 v29) hx hb dX12_fair_158 rfl ?_
                          refine lv_iload hx hb dX12_fair_159 (lv_at hl 7 rfl) ?_
                          obtain ⟨v53, S52, g51, h⟩ := hq_bd2 h
                          refine hq_calll hI (va_runS (As := [.long (Int32.toInt64 v29), .int x31]) (rest := [.long (Int32.toInt64 a5), .long ((v43 - v46) * 100)]) ⟨hx, hb, hml, hown, hts⟩ (c_X12_power l D kA ρ HB S48 (Int32.toInt64 v29) x31 _ g51) (va_cwS 2 hts (gdIn (List.forall_mem_cons.mpr ⟨kw_1285, (List.forall_mem_cons.mpr ⟨kw_1286, (List.forall_mem_cons.mpr ⟨kw_6, (fun _ h => absurd h List.not_mem_nil)⟩)⟩)⟩) kw_1287) rfl rfl rfl yd_X12_power ⟨Nat.le_of_ble_eq_true rfl, Nat.le_of_ble_eq_true rfl⟩) (hq_preS hE hI _) rfl rfl hl.1 rfl (lv_room (Nat.le_of_ble_eq_true rfl)) dX12_fair_161 ⟨Nat.le_of_ble_eq_true rfl, Nat.le_of_ble_eq_true rfl⟩) (fun H locs hI => ?_)
                          refine lv_lmul hx hb dX12_fair_164 ?_
                          refine W.lcmp hx hb dX12_fair_165 ?_
                          refine lv_if_gt (tgt := 178) hx hb dX12_fair_166 (by decide) (fun c54 => ?_) (fun c54 => ?_)
                          · have h := hq_t h c54
                            refine lv_iinc (v := (x35 + 1)) (lv' := [(9, .int (x35 + 1)), (12, .long (v43 - v46)), (10, .long v40), (3, .int a3), (4, .int a4), (5, .int a5), (6, .int v25), (7, .int v29), (8, .int x31)]) hx hb dX12_fair_178 hl (k := 8) rfl rfl (by decide) rfl (fun ls hl => ?_)
                            refine lv_goto (tgt := 84) hx hb dX12_fair_181 (by decide) ?_
                            exact ih84 (x35 + 1) S52 _ _ _ h hI (lv_sub hl [3, 4, 5, 6, 7, 8, 0] rfl)
                          · have h := hq_f h c54
                            refine lv_bipush (v := 10) hx hb dX12_fair_169 (by decide) ?_
                            refine lv_iload hx hb dX12_fair_171 (lv_at hl 7 rfl) ?_
                            refine lv_imul hx hb dX12_fair_173 ?_
                            refine lv_iload hx hb dX12_fair_174 (lv_at hl 8 rfl) ?_
                            refine lv_iadd hx hb dX12_fair_176 ?_
                            exact hq_iret hx hb hr hlocks h0 hI h dX12_fair_177
                  exact hL84 FU 0 S32 _ _ _ h hI (lv_sub hl [1, 2, 3, 4, 5, 6, 0] rfl)
            exact hL74 FU 1 S24 _ _ _ h hI (lv_sub hl [6, 7, 8, 2, 1, 0] rfl)
          · have h := hq_t h c21
            refine lv_bipush (v := (-2)) hx hb dX12_fair_52 (by decide) ?_
            exact hq_iret hx hb hr hlocks h0 hI h dX12_fair_54
  · have h := hq_t h c5
    refine lv_iconst (v := (-1)) hx hb dX12_fair_8 (by decide) ?_
    exact hq_iret hx hb hr hlocks h0 hI h dX12_fair_9
-- RodDipsModel.excuses(IIII)I
theorem dX12_excuses_0 : decode cX12_excuses 0 = .ok (.aload_n 0, 1) := by decide +kernel
theorem dX12_excuses_1 : decode cX12_excuses 1 = .ok (.iload_n 1, 1) := by decide +kernel
theorem dX12_excuses_2 : decode cX12_excuses 2 = .ok (.invokevirtual 177, 3) := by decide +kernel
theorem dX12_excuses_5 : decode cX12_excuses 5 = .ok (.ifCond .eq 19, 3) := by decide +kernel
theorem dX12_excuses_8 : decode cX12_excuses 8 = .ok (.iload_n 2, 1) := by decide +kernel
theorem dX12_excuses_9 : decode cX12_excuses 9 = .ok (.invokestatic 43, 3) := by decide +kernel
theorem dX12_excuses_12 : decode cX12_excuses 12 = .ok (.ifCond .eq 12, 3) := by decide +kernel
theorem dX12_excuses_15 : decode cX12_excuses 15 = .ok (.iload_n 3, 1) := by decide +kernel
theorem dX12_excuses_16 : decode cX12_excuses 16 = .ok (.iconst 0, 1) := by decide +kernel
theorem dX12_excuses_17 : decode cX12_excuses 17 = .ok (.iconst 2, 1) := by decide +kernel
theorem dX12_excuses_18 : decode cX12_excuses 18 = .ok (.invokestatic 39, 3) := by decide +kernel
theorem dX12_excuses_21 : decode cX12_excuses 21 = .ok (.ifCond .ne 5, 3) := by decide +kernel
theorem dX12_excuses_24 : decode cX12_excuses 24 = .ok (.iconst (-1), 1) := by decide +kernel
theorem dX12_excuses_25 : decode cX12_excuses 25 = .ok (.ireturn, 1) := by decide +kernel
theorem dX12_excuses_26 : decode cX12_excuses 26 = .ok (.iload 4, 2) := by decide +kernel
theorem dX12_excuses_28 : decode cX12_excuses 28 = .ok (.iconst 0, 1) := by decide +kernel
theorem dX12_excuses_29 : decode cX12_excuses 29 = .ok (.bipush 100, 2) := by decide +kernel
theorem dX12_excuses_31 : decode cX12_excuses 31 = .ok (.invokestatic 39, 3) := by decide +kernel
theorem dX12_excuses_34 : decode cX12_excuses 34 = .ok (.ifCond .ne 6, 3) := by decide +kernel
theorem dX12_excuses_37 : decode cX12_excuses 37 = .ok (.bipush (-2), 2) := by decide +kernel
theorem dX12_excuses_39 : decode cX12_excuses 39 = .ok (.ireturn, 1) := by decide +kernel
theorem dX12_excuses_40 : decode cX12_excuses 40 = .ok (.aload_n 0, 1) := by decide +kernel
theorem dX12_excuses_41 : decode cX12_excuses 41 = .ok (.aload_n 0, 1) := by decide +kernel
theorem dX12_excuses_42 : decode cX12_excuses 42 = .ok (.iload_n 1, 1) := by decide +kernel
theorem dX12_excuses_43 : decode cX12_excuses 43 = .ok (.invokevirtual 180, 3) := by decide +kernel
theorem dX12_excuses_46 : decode cX12_excuses 46 = .ok (.iload_n 2, 1) := by decide +kernel
theorem dX12_excuses_47 : decode cX12_excuses 47 = .ok (.invokevirtual 187, 3) := by decide +kernel
theorem dX12_excuses_50 : decode cX12_excuses 50 = .ok (.istore 5, 2) := by decide +kernel
theorem dX12_excuses_52 : decode cX12_excuses 52 = .ok (.aload_n 0, 1) := by decide +kernel
theorem dX12_excuses_53 : decode cX12_excuses 53 = .ok (.iload 5, 2) := by decide +kernel
theorem dX12_excuses_55 : decode cX12_excuses 55 = .ok (.aload_n 0, 1) := by decide +kernel
theorem dX12_excuses_56 : decode cX12_excuses 56 = .ok (.getfield 9, 3) := by decide +kernel
theorem dX12_excuses_59 : decode cX12_excuses 59 = .ok (.sipush 310, 3) := by decide +kernel
theorem dX12_excuses_62 : decode cX12_excuses 62 = .ok (.iload_n 1, 1) := by decide +kernel
theorem dX12_excuses_63 : decode cX12_excuses 63 = .ok (.iadd, 1) := by decide +kernel
theorem dX12_excuses_64 : decode cX12_excuses 64 = .ok (.iaload, 1) := by decide +kernel
theorem dX12_excuses_65 : decode cX12_excuses 65 = .ok (.invokevirtual 183, 3) := by decide +kernel
theorem dX12_excuses_68 : decode cX12_excuses 68 = .ok (.istore 6, 2) := by decide +kernel
theorem dX12_excuses_70 : decode cX12_excuses 70 = .ok (.iconst 0, 1) := by decide +kernel
theorem dX12_excuses_71 : decode cX12_excuses 71 = .ok (.istore 7, 2) := by decide +kernel
theorem dX12_excuses_73 : decode cX12_excuses 73 = .ok (.iconst 0, 1) := by decide +kernel
theorem dX12_excuses_74 : decode cX12_excuses 74 = .ok (.istore 8, 2) := by decide +kernel
theorem dX12_excuses_76 : decode cX12_excuses 76 = .ok (.iload 8, 2) := by decide +kernel
theorem dX12_excuses_78 : decode cX12_excuses 78 = .ok (.aload_n 0, 1) := by decide +kernel
theorem dX12_excuses_79 : decode cX12_excuses 79 = .ok (.getfield 9, 3) := by decide +kernel
theorem dX12_excuses_82 : decode cX12_excuses 82 = .ok (.iconst 1, 1) := by decide +kernel
theorem dX12_excuses_83 : decode cX12_excuses 83 = .ok (.iaload, 1) := by decide +kernel
theorem dX12_excuses_84 : decode cX12_excuses 84 = .ok (.if_icmp .ge 49, 3) := by decide +kernel
theorem dX12_excuses_87 : decode cX12_excuses 87 = .ok (.iload 7, 2) := by decide +kernel
theorem dX12_excuses_89 : decode cX12_excuses 89 = .ok (.iload 6, 2) := by decide +kernel
theorem dX12_excuses_91 : decode cX12_excuses 91 = .ok (.iload 8, 2) := by decide +kernel
theorem dX12_excuses_93 : decode cX12_excuses 93 = .ok (.ishr, 1) := by decide +kernel
theorem dX12_excuses_94 : decode cX12_excuses 94 = .ok (.iconst 1, 1) := by decide +kernel
theorem dX12_excuses_95 : decode cX12_excuses 95 = .ok (.iand, 1) := by decide +kernel
theorem dX12_excuses_96 : decode cX12_excuses 96 = .ok (.iconst 1, 1) := by decide +kernel
theorem dX12_excuses_97 : decode cX12_excuses 97 = .ok (.if_icmp .ne 26, 3) := by decide +kernel
theorem dX12_excuses_100 : decode cX12_excuses 100 = .ok (.iload_n 3, 1) := by decide +kernel
theorem dX12_excuses_101 : decode cX12_excuses 101 = .ok (.ifCond .eq 18, 3) := by decide +kernel
theorem dX12_excuses_104 : decode cX12_excuses 104 = .ok (.aload_n 0, 1) := by decide +kernel
theorem dX12_excuses_105 : decode cX12_excuses 105 = .ok (.getfield 9, 3) := by decide +kernel
theorem dX12_excuses_108 : decode cX12_excuses 108 = .ok (.sipush 280, 3) := by decide +kernel
theorem dX12_excuses_111 : decode cX12_excuses 111 = .ok (.iload 8, 2) := by decide +kernel
theorem dX12_excuses_113 : decode cX12_excuses 113 = .ok (.iadd, 1) := by decide +kernel
theorem dX12_excuses_114 : decode cX12_excuses 114 = .ok (.iaload, 1) := by decide +kernel
theorem dX12_excuses_115 : decode cX12_excuses 115 = .ok (.iconst 2, 1) := by decide +kernel
theorem dX12_excuses_116 : decode cX12_excuses 116 = .ok (.if_icmp .eq 7, 3) := by decide +kernel
theorem dX12_excuses_119 : decode cX12_excuses 119 = .ok (.iconst 1, 1) := by decide +kernel
theorem dX12_excuses_120 : decode cX12_excuses 120 = .ok (.goto 4, 3) := by decide +kernel
theorem dX12_excuses_123 : decode cX12_excuses 123 = .ok (.iconst 0, 1) := by decide +kernel
theorem dX12_excuses_124 : decode cX12_excuses 124 = .ok (.iadd, 1) := by decide +kernel
theorem dX12_excuses_125 : decode cX12_excuses 125 = .ok (.istore 7, 2) := by decide +kernel
theorem dX12_excuses_127 : decode cX12_excuses 127 = .ok (.iinc 8 1, 3) := by decide +kernel
theorem dX12_excuses_130 : decode cX12_excuses 130 = .ok (.goto (-54), 3) := by decide +kernel
theorem dX12_excuses_133 : decode cX12_excuses 133 = .ok (.iload_n 3, 1) := by decide +kernel
theorem dX12_excuses_134 : decode cX12_excuses 134 = .ok (.iconst 2, 1) := by decide +kernel
theorem dX12_excuses_135 : decode cX12_excuses 135 = .ok (.if_icmp .ge 6, 3) := by decide +kernel
theorem dX12_excuses_138 : decode cX12_excuses 138 = .ok (.iload 7, 2) := by decide +kernel
theorem dX12_excuses_140 : decode cX12_excuses 140 = .ok (.ireturn, 1) := by decide +kernel
theorem dX12_excuses_141 : decode cX12_excuses 141 = .ok (.iload 5, 2) := by decide +kernel
theorem dX12_excuses_143 : decode cX12_excuses 143 = .ok (.invokestatic 190, 3) := by decide +kernel
theorem dX12_excuses_146 : decode cX12_excuses 146 = .ok (.istore 8, 2) := by decide +kernel
theorem dX12_excuses_148 : decode cX12_excuses 148 = .ok (.iload 6, 2) := by decide +kernel
theorem dX12_excuses_150 : decode cX12_excuses 150 = .ok (.invokestatic 190, 3) := by decide +kernel
theorem dX12_excuses_153 : decode cX12_excuses 153 = .ok (.istore 9, 2) := by decide +kernel
theorem dX12_excuses_155 : decode cX12_excuses 155 = .ok (.iconst 0, 1) := by decide +kernel
theorem dX12_excuses_156 : decode cX12_excuses 156 = .ok (.istore 10, 2) := by decide +kernel
theorem dX12_excuses_158 : decode cX12_excuses 158 = .ok (.iload 10, 2) := by decide +kernel
theorem dX12_excuses_160 : decode cX12_excuses 160 = .ok (.iload 8, 2) := by decide +kernel
theorem dX12_excuses_162 : decode cX12_excuses 162 = .ok (.if_icmp .ge 44, 3) := by decide +kernel
theorem dX12_excuses_165 : decode cX12_excuses 165 = .ok (.iload 8, 2) := by decide +kernel
theorem dX12_excuses_167 : decode cX12_excuses 167 = .ok (.iload 10, 2) := by decide +kernel
theorem dX12_excuses_169 : decode cX12_excuses 169 = .ok (.isub, 1) := by decide +kernel
theorem dX12_excuses_170 : decode cX12_excuses 170 = .ok (.istore 11, 2) := by decide +kernel
theorem dX12_excuses_172 : decode cX12_excuses 172 = .ok (.bipush 100, 2) := by decide +kernel
theorem dX12_excuses_174 : decode cX12_excuses 174 = .ok (.iload 9, 2) := by decide +kernel
theorem dX12_excuses_176 : decode cX12_excuses 176 = .ok (.iload 11, 2) := by decide +kernel
theorem dX12_excuses_178 : decode cX12_excuses 178 = .ok (.if_icmp .ge 8, 3) := by decide +kernel
theorem dX12_excuses_181 : decode cX12_excuses 181 = .ok (.iload 9, 2) := by decide +kernel
theorem dX12_excuses_183 : decode cX12_excuses 183 = .ok (.goto 5, 3) := by decide +kernel
theorem dX12_excuses_186 : decode cX12_excuses 186 = .ok (.iload 11, 2) := by decide +kernel
theorem dX12_excuses_188 : decode cX12_excuses 188 = .ok (.imul, 1) := by decide +kernel
theorem dX12_excuses_189 : decode cX12_excuses 189 = .ok (.iload 4, 2) := by decide +kernel
theorem dX12_excuses_191 : decode cX12_excuses 191 = .ok (.iload 11, 2) := by decide +kernel
theorem dX12_excuses_193 : decode cX12_excuses 193 = .ok (.imul, 1) := by decide +kernel
theorem dX12_excuses_194 : decode cX12_excuses 194 = .ok (.if_icmp .lt 6, 3) := by decide +kernel
theorem dX12_excuses_197 : decode cX12_excuses 197 = .ok (.iload 10, 2) := by decide +kernel
theorem dX12_excuses_199 : decode cX12_excuses 199 = .ok (.ireturn, 1) := by decide +kernel
theorem dX12_excuses_200 : decode cX12_excuses 200 = .ok (.iinc 10 1, 3) := by decide +kernel
theorem dX12_excuses_203 : decode cX12_excuses 203 = .ok (.goto (-45), 3) := by decide +kernel
theorem dX12_excuses_206 : decode cX12_excuses 206 = .ok (.bipush (-5), 2) := by decide +kernel
theorem dX12_excuses_208 : decode cX12_excuses 208 = .ok (.ireturn, 1) := by decide +kernel
def f_X12_excuses_K206 (S43 : HSt) : Option (Int32 × HSt) := some ((-5), S43)
def f_X12_excuses_J188 (a4 : Int32) (kb158 : (Int32 → HSt → Option (Int32 × HSt))) (v39 : Int32) (x44 : Int32) (y47 : Int32) (S48 : HSt) : Option (Int32 × HSt) := if (100 * y47) < (a4 * (v39 - x44)) then (kb158 (x44 + 1) S48) else (some (x44, S48))
def f_X12_excuses_B158 (a4 : Int32) (v39 : Int32) (v42 : Int32) (kx206 : (HSt → Option (Int32 × HSt))) (kb158 : (Int32 → HSt → Option (Int32 × HSt))) (x44 : Int32) (S45 : HSt) : Option (Int32 × HSt) := if v39 ≤ x44 then (kx206 S45) else (if (v39 - x44) ≤ v42 then ((f_X12_excuses_J188 a4 kb158 v39 x44) (v39 - x44) S45) else ((f_X12_excuses_J188 a4 kb158 v39 x44) v42 S45))
def f_X12_excuses_L158 (a4 : Int32) (v39 : Int32) (v42 : Int32) (kx206 : (HSt → Option (Int32 × HSt))) : Nat → Int32 → HSt → Option (Int32 × HSt)
  | 0, _, _ => none
  | n + 1, x44, S => f_X12_excuses_B158 a4 v39 v42 kx206 (f_X12_excuses_L158 a4 v39 v42 kx206 n) x44 S
def f_X12_excuses_K133 (a3 : Int32) (a4 : Int32) (v25 : Int32) (v33 : Int32) (x34 : Int32) (S35 : HSt) : Option (Int32 × HSt) := if 2 ≤ a3 then (bd2 (f_X12_count1 S35 v25) fun v39 S38 => bd2 (f_X12_count1 S38 v33) fun v42 S41 => (f_X12_excuses_L158 a4 v39 v42 f_X12_excuses_K206 FU) 0 S41) else (some (x34, S35))
def f_X12_excuses_B76 (a0 : Nat) (a3 : Int32) (v33 : Int32) (kx133 : (Int32 → HSt → Option (Int32 × HSt))) (kb76 : (Int32 → Int32 → HSt → Option (Int32 × HSt))) (x51 : Int32) (x52 : Int32) (S53 : HSt) : Option (Int32 × HSt) := (gR S53 a0 12 1).bind fun b54 => (aI S53 b54 0 1).bind fun v57 => if v57 ≤ x52 then (kx133 x51 S53) else (if ((v33 >>> (x52 &&& 31)) &&& 1) = 1 then (if a3 = 0 then (kb76 (x51 + 1) (x52 + 1) S53) else ((gR S53 a0 12 1).bind fun b61 => (aI S53 b61 0 (280 + x52)).bind fun v64 => if v64 = 2 then (kb76 (x51 + 0) (x52 + 1) S53) else (kb76 (x51 + 1) (x52 + 1) S53))) else (kb76 (x51 + 0) (x52 + 1) S53))
def f_X12_excuses_L76 (a0 : Nat) (a3 : Int32) (v33 : Int32) (kx133 : (Int32 → HSt → Option (Int32 × HSt))) : Nat → Int32 → Int32 → HSt → Option (Int32 × HSt)
  | 0, _, _, _ => none
  | n + 1, x51, x52, S => f_X12_excuses_B76 a0 a3 v33 kx133 (f_X12_excuses_L76 a0 a3 v33 kx133 n) x51 x52 S
def f_X12_excuses (S : HSt) (a0 : Nat) (a1 : Int32) (a2 : Int32) (a3 : Int32) (a4 : Int32) : Option (Int32 × HSt) := if gC S a0 = some 12 then (bd2 (f_X12_isPlan S a0 a1) fun v4 S3 => if v4 = 0 then (some ((-1), S3)) else (bd2 (f_X12_isMan S3 a2) fun v8 S7 => if v8 = 0 then (some ((-1), S7)) else (bd2 (f_X12_in S7 a3 0 2) fun v12 S11 => if v12 = 0 then (some ((-1), S11)) else (bd2 (f_X12_in S11 a4 0 100) fun v16 S15 => if v16 = 0 then (some ((-2), S15)) else (if gC S15 a0 = some 12 then (bd2 (f_X12_counted S15 a0 a1) fun v21 S20 => if gC S20 a0 = some 12 then (bd2 (f_X12_ofMan S20 a0 v21 a2) fun v25 S24 => (gR S24 a0 12 1).bind fun b26 => (aI S24 b26 0 (310 + a1)).bind fun v29 => if gC S24 a0 = some 12 then (bd2 (f_X12_hitsOf S24 a0 v25 v29) fun v33 S32 => (f_X12_excuses_L76 a0 a3 v33 (f_X12_excuses_K133 a3 a4 v25 v33) FU) 0 0 S32) else none) else none) else none))))) else none
abbrev rm_X12_excuses : Room := { frames := 6, cells := 0, slots := 0, locals := 137 }
abbrev w_X12_excuses : List Cond := Cond.code yX12_excuses cX12_excuses 12 (Option.some FieldType.int) :: lwG
theorem yd_X12_excuses : yX12_excuses.cls ≠ "java/lang/invoke/MethodHandle" ∧ yX12_excuses.cls ≠ "java/lang/invoke/VarHandle" ∧ (parseMethodDescriptor yX12_excuses.desc).map (fun d => d.parameters.length) = some 4 := by decide +kernel
theorem ye_X12_excuses : yX12_excuses.cls = RX12 ∧ yX12_excuses.cls ≠ "java/lang/invoke/MethodHandle" ∧ yX12_excuses.cls ≠ "java/lang/invoke/VarHandle" ∧ (parseMethodDescriptor yX12_excuses.desc).map (fun d => d.parameters.length) = some 4 := by decide +kernel
set_option maxHeartbeats 4000000 in
set_option maxRecDepth 100000 in
theorem c_X12_excuses (l : Launch) (D : va_G) (kA ρ : Nat → Nat) (HB : Heap) (S : HSt) (a0 : Nat) (a1 : Int32) (a2 : Int32) (a3 : Int32) (a4 : Int32) (res : Int32 × HSt) (h : f_X12_excuses S a0 a1 a2 a3 a4 = some res) : Met l yX12_excuses w_X12_excuses rm_X12_excuses (hPc D kA ρ HB S [.ref a0, .int a1, .int a2, .int a3, .int a4]) (hQi D kA HB S res) 0 0 (hFree HB) := by
  refine Met.ofW (cc := cX12_excuses) (maxL := 12) (ret := (Option.some FieldType.int)) (by decide) rfl ?_
  intro p e s m args below meth c s₁ B hml hv
  obtain ⟨rfl, hE, h0⟩ := hv
  have hx := B.exec
  have hb := B.bytes
  have hr := B.returns
  have hts0 := atoms_spec (ws := w_X12_excuses) B.pre
  have hts : ∀ w ∈ lwG, w.before _ s = true := fun w hw => hts0 w (List.mem_cons_of_mem _ hw)
  have hown : s.vm.findClass RX12 = some m.cls := findClass_of_methodNamed B.named
  have hlocks := B.notSynchronized
  have hI : hqX D kA HB S.2 S s.heap [] := ⟨h0, Nat.le_refl _, fun _ q => absurd q List.not_mem_nil⟩
  have hl := lv_entry ([.ref a0, .int a1, .int a2, .int a3, .int a4]) (n := 12) (Nat.le_of_ble_eq_true rfl)
  rw [lg_entry_eq]
  generalize (lg_sl ([.ref a0, .int a1, .int a2, .int a3, .int a4]) ++ List.replicate (12 - (lg_sl ([.ref a0, .int a1, .int a2, .int a3, .int a4])).length) Slot.unset).toArray = ls at hl ⊢
  have hl : lv_has ls 12 [(0, .ref a0), (1, .int a1), (2, .int a2), (3, .int a3), (4, .int a4)] := hl
  unfold f_X12_excuses at h
  refine lv_aload_n hx hb dX12_excuses_0 rfl (lv_at hl 0 rfl) ?_
  refine lv_iload_n hx hb dX12_excuses_1 rfl (lv_at hl 1 rfl) ?_
  obtain ⟨g2, h⟩ := hq_g h
  obtain ⟨v4, S3, g1, h⟩ := hq_bd2 h
  refine hq_calli hI (va_runV (As := [.int a1]) (rest := []) ⟨hx, hb, hml, hown, hts⟩ (c_X12_isPlan l D kA ρ HB S a0 a1 _ g1) (cwV 1 hts (gdIn (List.forall_mem_cons.mpr ⟨kw_1133, (List.forall_mem_cons.mpr ⟨kw_1135, (List.forall_mem_cons.mpr ⟨ks_48, (List.forall_mem_cons.mpr ⟨kw_6, (fun _ h => absurd h List.not_mem_nil)⟩)⟩)⟩)⟩) kw_1136) rfl rfl rfl ye_X12_isPlan ⟨Nat.le_of_ble_eq_true rfl, Nat.le_of_ble_eq_true rfl⟩) (hq_preC hE hI g2 rfl _) rfl rfl hl.1 rfl (lv_room (Nat.le_of_ble_eq_true rfl)) dX12_excuses_2 ⟨Nat.le_of_ble_eq_true rfl, Nat.le_of_ble_eq_true rfl⟩) (fun H locs hI => ?_)
  refine lv_if_eq (tgt := 24) hx hb dX12_excuses_5 (by decide) (fun c5 => ?_) (fun c5 => ?_)
  · have h := hq_t h c5
    refine lv_iconst (v := (-1)) hx hb dX12_excuses_24 (by decide) ?_
    exact hq_iret hx hb hr hlocks h0 hI h dX12_excuses_25
  · have h := hq_f h c5
    refine lv_iload_n hx hb dX12_excuses_8 rfl (lv_at hl 2 rfl) ?_
    obtain ⟨v8, S7, g6, h⟩ := hq_bd2 h
    refine hq_calli hI (va_runS (As := [.int a2]) (rest := []) ⟨hx, hb, hml, hown, hts⟩ (c_X12_isMan l D kA ρ HB S3 a2 _ g6) (va_cwS 1 hts (gdIn (List.forall_mem_cons.mpr ⟨kw_1017, (List.forall_mem_cons.mpr ⟨kw_1018, (List.forall_mem_cons.mpr ⟨kw_6, (fun _ h => absurd h List.not_mem_nil)⟩)⟩)⟩) kw_1019) rfl rfl rfl yd_X12_isMan ⟨Nat.le_of_ble_eq_true rfl, Nat.le_of_ble_eq_true rfl⟩) (hq_preS hE hI _) rfl rfl hl.1 rfl (lv_room (Nat.le_of_ble_eq_true rfl)) dX12_excuses_9 ⟨Nat.le_of_ble_eq_true rfl, Nat.le_of_ble_eq_true rfl⟩) (fun H locs hI => ?_)
    refine lv_if_eq (tgt := 24) hx hb dX12_excuses_12 (by decide) (fun c9 => ?_) (fun c9 => ?_)
    · have h := hq_t h c9
      refine lv_iconst (v := (-1)) hx hb dX12_excuses_24 (by decide) ?_
      exact hq_iret hx hb hr hlocks h0 hI h dX12_excuses_25
    · have h := hq_f h c9
      refine lv_iload_n hx hb dX12_excuses_15 rfl (lv_at hl 3 rfl) ?_
      refine lv_iconst (v := 0) hx hb dX12_excuses_16 (by decide) ?_
      refine lv_iconst (v := 2) hx hb dX12_excuses_17 (by decide) ?_
      obtain ⟨v12, S11, g10, h⟩ := hq_bd2 h
      refine hq_calli hI (va_runS (As := [.int a3, .int 0, .int 2]) (rest := []) ⟨hx, hb, hml, hown, hts⟩ (c_X12_in l D kA ρ HB S7 a3 0 2 _ g10) (va_cwS 3 hts (gdIn (List.forall_mem_cons.mpr ⟨kw_1010, (List.forall_mem_cons.mpr ⟨kw_1011, (List.forall_mem_cons.mpr ⟨kw_6, (fun _ h => absurd h List.not_mem_nil)⟩)⟩)⟩) kw_1012) rfl rfl rfl yd_X12_in ⟨Nat.le_of_ble_eq_true rfl, Nat.le_of_ble_eq_true rfl⟩) (hq_preS hE hI _) rfl rfl hl.1 rfl (lv_room (Nat.le_of_ble_eq_true rfl)) dX12_excuses_18 ⟨Nat.le_of_ble_eq_true rfl, Nat.le_of_ble_eq_true rfl⟩) (fun H locs hI => ?_)
      refine lv_if_ne (tgt := 26) hx hb dX12_excuses_21 (by decide) (fun c13 => ?_) (fun c13 => ?_)
      · have h := hq_f h c13
        refine lv_iload hx hb dX12_excuses_26 (lv_at hl 4 rfl) ?_
        refine lv_iconst (v := 0) hx hb dX12_excuses_28 (by decide) ?_
        refine lv_bipush (v := 100) hx hb dX12_excuses_29 (by decide) ?_
        obtain ⟨v16, S15, g14, h⟩ := hq_bd2 h
        refine hq_calli hI (va_runS (As := [.int a4, .int 0, .int 100]) (rest := []) ⟨hx, hb, hml, hown, hts⟩ (c_X12_in l D kA ρ HB S11 a4 0 100 _ g14) (va_cwS 3 hts (gdIn (List.forall_mem_cons.mpr ⟨kw_1010, (List.forall_mem_cons.mpr ⟨kw_1011, (List.forall_mem_cons.mpr ⟨kw_6, (fun _ h => absurd h List.not_mem_nil)⟩)⟩)⟩) kw_1012) rfl rfl rfl yd_X12_in ⟨Nat.le_of_ble_eq_true rfl, Nat.le_of_ble_eq_true rfl⟩) (hq_preS hE hI _) rfl rfl hl.1 rfl (lv_room (Nat.le_of_ble_eq_true rfl)) dX12_excuses_31 ⟨Nat.le_of_ble_eq_true rfl, Nat.le_of_ble_eq_true rfl⟩) (fun H locs hI => ?_)
        refine lv_if_ne (tgt := 40) hx hb dX12_excuses_34 (by decide) (fun c17 => ?_) (fun c17 => ?_)
        · have h := hq_f h c17
          refine lv_aload_n hx hb dX12_excuses_40 rfl (lv_at hl 0 rfl) ?_
          refine lv_aload_n hx hb dX12_excuses_41 rfl (lv_at hl 0 rfl) ?_
          refine lv_iload_n hx hb dX12_excuses_42 rfl (lv_at hl 1 rfl) ?_
          obtain ⟨g19, h⟩ := hq_g h
          obtain ⟨v21, S20, g18, h⟩ := hq_bd2 h
          refine hq_calli hI (va_runV (As := [.int a1]) (rest := [.ref a0]) ⟨hx, hb, hml, hown, hts⟩ (c_X12_counted l D kA ρ HB S15 a0 a1 _ g18) (cwV 1 hts (gdIn (List.forall_mem_cons.mpr ⟨kw_1137, (List.forall_mem_cons.mpr ⟨kw_1139, (List.forall_mem_cons.mpr ⟨ks_49, (List.forall_mem_cons.mpr ⟨kw_6, (fun _ h => absurd h List.not_mem_nil)⟩)⟩)⟩)⟩) kw_1140) rfl rfl rfl ye_X12_counted ⟨Nat.le_of_ble_eq_true rfl, Nat.le_of_ble_eq_true rfl⟩) (hq_preC hE hI g19 rfl _) rfl rfl hl.1 rfl (lv_room (Nat.le_of_ble_eq_true rfl)) dX12_excuses_43 ⟨Nat.le_of_ble_eq_true rfl, Nat.le_of_ble_eq_true rfl⟩) (fun H locs hI => ?_)
          refine lv_iload_n hx hb dX12_excuses_46 rfl (lv_at hl 2 rfl) ?_
          obtain ⟨g23, h⟩ := hq_g h
          obtain ⟨v25, S24, g22, h⟩ := hq_bd2 h
          refine hq_calli hI (va_runV (As := [.int v21, .int a2]) (rest := []) ⟨hx, hb, hml, hown, hts⟩ (c_X12_ofMan l D kA ρ HB S20 a0 v21 a2 _ g22) (cwV 2 hts (gdIn (List.forall_mem_cons.mpr ⟨kw_1169, (List.forall_mem_cons.mpr ⟨kw_1171, (List.forall_mem_cons.mpr ⟨ks_56, (List.forall_mem_cons.mpr ⟨kw_6, (fun _ h => absurd h List.not_mem_nil)⟩)⟩)⟩)⟩) kw_1172) rfl rfl rfl ye_X12_ofMan ⟨Nat.le_of_ble_eq_true rfl, Nat.le_of_ble_eq_true rfl⟩) (hq_preC hE hI g23 rfl _) rfl rfl hl.1 rfl (lv_room (Nat.le_of_ble_eq_true rfl)) dX12_excuses_47 ⟨Nat.le_of_ble_eq_true rfl, Nat.le_of_ble_eq_true rfl⟩) (fun H locs hI => ?_)
          refine lv_istore (lv' := [(5, .int v25), (0, .ref a0), (1, .int a1), (2, .int a2), (3, .int a3), (4, .int a4)]) hx hb dX12_excuses_50 hl (by decide) rfl (fun ls hl => ?_)
          refine lv_aload_n hx hb dX12_excuses_52 rfl (lv_at hl 1 rfl) ?_
          refine lv_iload hx hb dX12_excuses_53 (lv_at hl 0 rfl) ?_
          refine lv_aload_n hx hb dX12_excuses_55 rfl (lv_at hl 1 rfl) ?_
          obtain ⟨b26, g27, h⟩ := hq_bind h
          obtain ⟨fs_g27, hs_g27, hv_g27⟩ := gR_at g27
          refine hq_get hx hb hts hown hE hI hs_g27 inG12 rfl 1 (by decide) kw_945 hv_g27 dX12_excuses_56 ?_
          refine lv_sipush (v := 310) hx hb dX12_excuses_59 (by decide) ?_
          refine lv_iload_n hx hb dX12_excuses_62 rfl (lv_at hl 2 rfl) ?_
          refine lv_iadd hx hb dX12_excuses_63 ?_
          obtain ⟨v29, g28, h⟩ := hq_bind h
          refine hq_iald hx hb hE hI g28 dX12_excuses_64 ?_
          obtain ⟨g31, h⟩ := hq_g h
          obtain ⟨v33, S32, g30, h⟩ := hq_bd2 h
          refine hq_calli hI (va_runV (As := [.int v25, .int v29]) (rest := []) ⟨hx, hb, hml, hown, hts⟩ (c_X12_hitsOf l D kA ρ HB S24 a0 v25 v29 _ g30) (cwV 2 hts (gdIn (List.forall_mem_cons.mpr ⟨kw_1157, (List.forall_mem_cons.mpr ⟨kw_1159, (List.forall_mem_cons.mpr ⟨ks_54, (List.forall_mem_cons.mpr ⟨kw_6, (fun _ h => absurd h List.not_mem_nil)⟩)⟩)⟩)⟩) kw_1160) rfl rfl rfl ye_X12_hitsOf ⟨Nat.le_of_ble_eq_true rfl, Nat.le_of_ble_eq_true rfl⟩) (hq_preC hE hI g31 rfl _) rfl rfl hl.1 rfl (lv_room (Nat.le_of_ble_eq_true rfl)) dX12_excuses_65 ⟨Nat.le_of_ble_eq_true rfl, Nat.le_of_ble_eq_true rfl⟩) (fun H locs hI => ?_)
          refine lv_istore (lv' := [(6, .int v33), (5, .int v25), (0, .ref a0), (1, .int a1), (2, .int a2), (3, .int a3), (4, .int a4)]) hx hb dX12_excuses_68 hl (by decide) rfl (fun ls hl => ?_)
          refine lv_iconst (v := 0) hx hb dX12_excuses_70 (by decide) ?_
          refine lv_istore (lv' := [(7, .int 0), (6, .int v33), (5, .int v25), (0, .ref a0), (1, .int a1), (2, .int a2), (3, .int a3), (4, .int a4)]) hx hb dX12_excuses_71 hl (by decide) rfl (fun ls hl => ?_)
          refine lv_iconst (v := 0) hx hb dX12_excuses_73 (by decide) ?_
          refine lv_istore (lv' := [(8, .int 0), (7, .int 0), (6, .int v33), (5, .int v25), (0, .ref a0), (1, .int a1), (2, .int a2), (3, .int a3), (4, .int a4)]) hx hb dX12_excuses_74 hl (by decide) rfl (fun ls hl => ?_)
          have hK133 : ∀ (x34 : Int32) (S35 : HSt) (H : Heap) (locs : List Loc) (ls : Array Slot), (f_X12_excuses_K133 a3 a4 v25 v33) x34 S35 = some res → hqX D kA HB S.2 S35 H locs → lv_has ls 12 [(3, .int a3), (4, .int a4), (5, .int v25), (6, .int v33), (7, .int x34)] → W p l e rm_X12_excuses s m ([.ref a0, .int a1, .int a2, .int a3, .int a4] : List Value).toArray below meth c H locs 0 0 (MQ below (hQi D kA HB S res) ([.ref a0, .int a1, .int a2, .int a3, .int a4] : List Value).toArray s 0 0 (hFree HB)) (F0 m 133 ls []) := by
            intro x34 S35 H locs ls h hI hl
            unfold f_X12_excuses_K133 at h
            refine lv_iload_n hx hb dX12_excuses_133 rfl (lv_at hl 0 rfl) ?_
            refine lv_iconst (v := 2) hx hb dX12_excuses_134 (by decide) ?_
            refine lv_icmp_ge (tgt := 141) hx hb dX12_excuses_135 (by decide) (fun c36 => ?_) (fun c36 => ?_)
            · have h := hq_t h c36
              refine lv_iload hx hb dX12_excuses_141 (lv_at hl 2 rfl) ?_
              obtain ⟨v39, S38, g37, h⟩ := hq_bd2 h
              refine hq_calli hI (va_runS (As := [.int v25]) (rest := []) ⟨hx, hb, hml, hown, hts⟩ (c_X12_count1 l D kA ρ HB S35 v25 _ g37) (va_cwS 1 hts (gdIn (List.forall_mem_cons.mpr ⟨kw_1173, (List.forall_mem_cons.mpr ⟨kw_1174, (List.forall_mem_cons.mpr ⟨kw_6, (fun _ h => absurd h List.not_mem_nil)⟩)⟩)⟩) kw_1175) rfl rfl rfl yd_X12_count1 ⟨Nat.le_of_ble_eq_true rfl, Nat.le_of_ble_eq_true rfl⟩) (hq_preS hE hI _) rfl rfl hl.1 rfl (lv_room (Nat.le_of_ble_eq_true rfl)) dX12_excuses_143 ⟨Nat.le_of_ble_eq_true rfl, Nat.le_of_ble_eq_true rfl⟩) (fun H locs hI => ?_)
              refine lv_istore (lv' := [(8, .int v39), (3, .int a3), (4, .int a4), (5, .int v25), (6, .int v33), (7, .int x34)]) hx hb dX12_excuses_146 hl (by decide) rfl (fun ls hl => ?_)
              refine lv_iload hx hb dX12_excuses_148 (lv_at hl 4 rfl) ?_
              obtain ⟨v42, S41, g40, h⟩ := hq_bd2 h
              refine hq_calli hI (va_runS (As := [.int v33]) (rest := []) ⟨hx, hb, hml, hown, hts⟩ (c_X12_count1 l D kA ρ HB S38 v33 _ g40) (va_cwS 1 hts (gdIn (List.forall_mem_cons.mpr ⟨kw_1173, (List.forall_mem_cons.mpr ⟨kw_1174, (List.forall_mem_cons.mpr ⟨kw_6, (fun _ h => absurd h List.not_mem_nil)⟩)⟩)⟩) kw_1175) rfl rfl rfl yd_X12_count1 ⟨Nat.le_of_ble_eq_true rfl, Nat.le_of_ble_eq_true rfl⟩) (hq_preS hE hI _) rfl rfl hl.1 rfl (lv_room (Nat.le_of_ble_eq_true rfl)) dX12_excuses_150 ⟨Nat.le_of_ble_eq_true rfl, Nat.le_of_ble_eq_true rfl⟩) (fun H locs hI => ?_)
              refine lv_istore (lv' := [(9, .int v42), (8, .int v39), (3, .int a3), (4, .int a4), (5, .int v25), (6, .int v33), (7, .int x34)]) hx hb dX12_excuses_153 hl (by decide) rfl (fun ls hl => ?_)
              refine lv_iconst (v := 0) hx hb dX12_excuses_155 (by decide) ?_
              refine lv_istore (lv' := [(10, .int 0), (9, .int v42), (8, .int v39), (3, .int a3), (4, .int a4), (5, .int v25), (6, .int v33), (7, .int x34)]) hx hb dX12_excuses_156 hl (by decide) rfl (fun ls hl => ?_)
              have hK206 : ∀ (S43 : HSt) (H : Heap) (locs : List Loc) (ls : Array Slot), f_X12_excuses_K206 S43 = some res → hqX D kA HB S.2 S43 H locs → lv_has ls 12 [] → W p l e rm_X12_excuses s m ([.ref a0, .int a1, .int a2, .int a3, .int a4] : List Value).toArray below meth c H locs 0 0 (MQ below (hQi D kA HB S res) ([.ref a0, .int a1, .int a2, .int a3, .int a4] : List Value).toArray s 0 0 (hFree HB)) (F0 m 206 ls []) := by
                intro S43 H locs ls h hI hl
                unfold f_X12_excuses_K206 at h
                refine lv_bipush (v := (-5)) hx hb dX12_excuses_206 (by decide) ?_
                exact hq_iret hx hb hr hlocks h0 hI h dX12_excuses_208
              have hL158 : ∀ (n158 : Nat) (x44 : Int32) (S45 : HSt) (H : Heap) (locs : List Loc) (ls : Array Slot), (f_X12_excuses_L158 a4 v39 v42 f_X12_excuses_K206 n158) x44 S45 = some res → hqX D kA HB S.2 S45 H locs → lv_has ls 12 [(4, .int a4), (8, .int v39), (9, .int v42), (10, .int x44)] → W p l e rm_X12_excuses s m ([.ref a0, .int a1, .int a2, .int a3, .int a4] : List Value).toArray below meth c H locs 0 0 (MQ below (hQi D kA HB S res) ([.ref a0, .int a1, .int a2, .int a3, .int a4] : List Value).toArray s 0 0 (hFree HB)) (F0 m 158 ls []) := by
                intro n158
                induction n158 with
                | zero =>
                  intro x44 S45 H locs ls h
                  have h : (none : Option (Int32 × HSt)) = some res := h
                  cases h
                | succ n158 ih158 =>
                  intro x44 S45 H locs ls h hI hl
                  have h : f_X12_excuses_B158 a4 v39 v42 f_X12_excuses_K206 (f_X12_excuses_L158 a4 v39 v42 f_X12_excuses_K206 n158) x44 S45 = some res := h
                  unfold f_X12_excuses_B158 at h
                  refine lv_iload hx hb dX12_excuses_158 (lv_at hl 3 rfl) ?_
                  refine lv_iload hx hb dX12_excuses_160 (lv_at hl 1 rfl) ?_
                  refine lv_icmp_ge (tgt := 206) hx hb dX12_excuses_162 (by decide) (fun c46 => ?_) (fun c46 => ?_)
                  · have h := hq_t h c46
                    exact hK206 S45 _ _ _ h hI (lv_sub hl [] rfl)
                  · have h := hq_f h c46
                    refine lv_iload hx hb dX12_excuses_165 (lv_at hl 1 rfl) ?_
                    refine lv_iload hx hb dX12_excuses_167 (lv_at hl 3 rfl) ?_
                    refine lv_isub hx hb dX12_excuses_169 ?_
                    refine lv_istore (lv' := [(11, .int (v39 - x44)), (4, .int a4), (8, .int v39), (9, .int v42), (10, .int x44)]) hx hb dX12_excuses_170 hl (by decide) rfl (fun ls hl => ?_)
                    refine lv_bipush (v := 100) hx hb dX12_excuses_172 (by decide) ?_
                    refine lv_iload hx hb dX12_excuses_174 (lv_at hl 3 rfl) ?_
                    refine lv_iload hx hb dX12_excuses_176 (lv_at hl 0 rfl) ?_
                    have hJ188 : ∀ (y47 : Int32) (S48 : HSt) (H : Heap) (locs : List Loc) (ls : Array Slot), (f_X12_excuses_J188 a4 (f_X12_excuses_L158 a4 v39 v42 f_X12_excuses_K206 n158) v39 x44) y47 S48 = some res → hqX D kA HB S.2 S48 H locs → lv_has ls 12 [(4, .int a4), (8, .int v39), (9, .int v42), (10, .int x44), (11, .int (v39 - x44))] → W p l e rm_X12_excuses s m ([.ref a0, .int a1, .int a2, .int a3, .int a4] : List Value).toArray below meth c H locs 0 0 (MQ below (hQi D kA HB S res) ([.ref a0, .int a1, .int a2, .int a3, .int a4] : List Value).toArray s 0 0 (hFree HB)) (F0 m 188 ls [.int y47, .int 100]) := by
                      intro y47 S48 H locs ls h hI hl
                      unfold f_X12_excuses_J188 at h
                      refine lv_imul hx hb dX12_excuses_188 ?_
                      refine lv_iload hx hb dX12_excuses_189 (lv_at hl 0 rfl) ?_
                      refine lv_iload hx hb dX12_excuses_191 (lv_at hl 4 rfl) ?_
                      refine lv_imul hx hb dX12_excuses_193 ?_
                      refine lv_icmp_lt (tgt := 200) hx hb dX12_excuses_194 (by decide) (fun c49 => ?_) (fun c49 => ?_)
                      · have h := hq_t h c49
                        refine lv_iinc (v := (x44 + 1)) (lv' := [(10, .int (x44 + 1)), (4, .int a4), (8, .int v39), (9, .int v42), (11, .int (v39 - x44))]) hx hb dX12_excuses_200 hl (k := 3) rfl rfl (by decide) rfl (fun ls hl => ?_)
                        refine lv_goto (tgt := 158) hx hb dX12_excuses_203 (by decide) ?_
                        exact ih158 (x44 + 1) S48 _ _ _ h hI (lv_sub hl [1, 2, 3, 0] rfl)
                      · have h := hq_f h c49
                        refine lv_iload hx hb dX12_excuses_197 (lv_at hl 3 rfl) ?_
                        exact hq_iret hx hb hr hlocks h0 hI h dX12_excuses_199
                    refine lv_icmp_ge (tgt := 186) hx hb dX12_excuses_178 (by decide) (fun c50 => ?_) (fun c50 => ?_)
                    · have h := hq_t h c50
                      refine lv_iload hx hb dX12_excuses_186 (lv_at hl 0 rfl) ?_
                      exact hJ188 (v39 - x44) S45 _ _ _ h hI (lv_sub hl [1, 2, 3, 4, 0] rfl)
                    · have h := hq_f h c50
                      refine lv_iload hx hb dX12_excuses_181 (lv_at hl 3 rfl) ?_
                      refine lv_goto (tgt := 188) hx hb dX12_excuses_183 (by decide) ?_
                      exact hJ188 v42 S45 _ _ _ h hI (lv_sub hl [1, 2, 3, 4, 0] rfl)
              exact hL158 FU 0 S41 _ _ _ h hI (lv_sub hl [4, 2, 1, 0] rfl)
            · have h := hq_f h c36
              refine lv_iload hx hb dX12_excuses_138 (lv_at hl 4 rfl) ?_
              exact hq_iret hx hb hr hlocks h0 hI h dX12_excuses_140
          have hL76 : ∀ (n76 : Nat) (x51 : Int32) (x52 : Int32) (S53 : HSt) (H : Heap) (locs : List Loc) (ls : Array Slot), (f_X12_excuses_L76 a0 a3 v33 (f_X12_excuses_K133 a3 a4 v25 v33) n76) x51 x52 S53 = some res → hqX D kA HB S.2 S53 H locs → lv_has ls 12 [(0, .ref a0), (3, .int a3), (4, .int a4), (5, .int v25), (6, .int v33), (7, .int x51), (8, .int x52)] → W p l e rm_X12_excuses s m ([.ref a0, .int a1, .int a2, .int a3, .int a4] : List Value).toArray below meth c H locs 0 0 (MQ below (hQi D kA HB S res) ([.ref a0, .int a1, .int a2, .int a3, .int a4] : List Value).toArray s 0 0 (hFree HB)) (F0 m 76 ls []) := by
            intro n76
            induction n76 with
            | zero =>
              intro x51 x52 S53 H locs ls h
              have h : (none : Option (Int32 × HSt)) = some res := h
              cases h
            | succ n76 ih76 =>
              intro x51 x52 S53 H locs ls h hI hl
              have h : f_X12_excuses_B76 a0 a3 v33 (f_X12_excuses_K133 a3 a4 v25 v33) (f_X12_excuses_L76 a0 a3 v33 (f_X12_excuses_K133 a3 a4 v25 v33) n76) x51 x52 S53 = some res := h
              unfold f_X12_excuses_B76 at h
              refine lv_iload hx hb dX12_excuses_76 (lv_at hl 6 rfl) ?_
              refine lv_aload_n hx hb dX12_excuses_78 rfl (lv_at hl 0 rfl) ?_
              obtain ⟨b54, g55, h⟩ := hq_bind h
              obtain ⟨fs_g55, hs_g55, hv_g55⟩ := gR_at g55
              refine hq_get hx hb hts hown hE hI hs_g55 inG12 rfl 1 (by decide) kw_945 hv_g55 dX12_excuses_79 ?_
              refine lv_iconst (v := 1) hx hb dX12_excuses_82 (by decide) ?_
              obtain ⟨v57, g56, h⟩ := hq_bind h
              refine hq_iald hx hb hE hI g56 dX12_excuses_83 ?_
              refine lv_icmp_ge (tgt := 133) hx hb dX12_excuses_84 (by decide) (fun c58 => ?_) (fun c58 => ?_)
              · have h := hq_t h c58
                exact hK133 x51 S53 _ _ _ h hI (lv_sub hl [1, 2, 3, 4, 5] rfl)
              · have h := hq_f h c58
                refine lv_iload hx hb dX12_excuses_87 (lv_at hl 5 rfl) ?_
                refine lv_iload hx hb dX12_excuses_89 (lv_at hl 4 rfl) ?_
                refine lv_iload hx hb dX12_excuses_91 (lv_at hl 6 rfl) ?_
                refine lv_ishr hx hb dX12_excuses_93 ?_
                refine lv_iconst (v := 1) hx hb dX12_excuses_94 (by decide) ?_
                refine lv_iand hx hb dX12_excuses_95 ?_
                refine lv_iconst (v := 1) hx hb dX12_excuses_96 (by decide) ?_
                refine lv_icmp_ne (tgt := 123) hx hb dX12_excuses_97 (by decide) (fun c59 => ?_) (fun c59 => ?_)
                · have h := hq_f h c59
                  refine lv_iconst (v := 0) hx hb dX12_excuses_123 (by decide) ?_
                  refine lv_iadd hx hb dX12_excuses_124 ?_
                  refine lv_istore (lv' := [(7, .int (x51 + 0)), (0, .ref a0), (3, .int a3), (4, .int a4), (5, .int v25), (6, .int v33), (8, .int x52)]) hx hb dX12_excuses_125 hl (by decide) rfl (fun ls hl => ?_)
                  refine lv_iinc (v := (x52 + 1)) (lv' := [(8, .int (x52 + 1)), (7, .int (x51 + 0)), (0, .ref a0), (3, .int a3), (4, .int a4), (5, .int v25), (6, .int v33)]) hx hb dX12_excuses_127 hl (k := 6) rfl rfl (by decide) rfl (fun ls hl => ?_)
                  refine lv_goto (tgt := 76) hx hb dX12_excuses_130 (by decide) ?_
                  exact ih76 (x51 + 0) (x52 + 1) S53 _ _ _ h hI (lv_sub hl [2, 3, 4, 5, 6, 1, 0] rfl)
                · have h := hq_t h c59
                  refine lv_iload_n hx hb dX12_excuses_100 rfl (lv_at hl 1 rfl) ?_
                  refine lv_if_eq (tgt := 119) hx hb dX12_excuses_101 (by decide) (fun c60 => ?_) (fun c60 => ?_)
                  · have h := hq_t h c60
                    refine lv_iconst (v := 1) hx hb dX12_excuses_119 (by decide) ?_
                    refine lv_goto (tgt := 124) hx hb dX12_excuses_120 (by decide) ?_
                    refine lv_iadd hx hb dX12_excuses_124 ?_
                    refine lv_istore (lv' := [(7, .int (x51 + 1)), (0, .ref a0), (3, .int a3), (4, .int a4), (5, .int v25), (6, .int v33), (8, .int x52)]) hx hb dX12_excuses_125 hl (by decide) rfl (fun ls hl => ?_)
                    refine lv_iinc (v := (x52 + 1)) (lv' := [(8, .int (x52 + 1)), (7, .int (x51 + 1)), (0, .ref a0), (3, .int a3), (4, .int a4), (5, .int v25), (6, .int v33)]) hx hb dX12_excuses_127 hl (k := 6) rfl rfl (by decide) rfl (fun ls hl => ?_)
                    refine lv_goto (tgt := 76) hx hb dX12_excuses_130 (by decide) ?_
                    exact ih76 (x51 + 1) (x52 + 1) S53 _ _ _ h hI (lv_sub hl [2, 3, 4, 5, 6, 1, 0] rfl)
                  · have h := hq_f h c60
                    refine lv_aload_n hx hb dX12_excuses_104 rfl (lv_at hl 0 rfl) ?_
                    obtain ⟨b61, g62, h⟩ := hq_bind h
                    obtain ⟨fs_g62, hs_g62, hv_g62⟩ := gR_at g62
                    refine hq_get hx hb hts hown hE hI hs_g62 inG12 rfl 1 (by decide) kw_945 hv_g62 dX12_excuses_105 ?_
                    refine lv_sipush (v := 280) hx hb dX12_excuses_108 (by decide) ?_
                    refine lv_iload hx hb dX12_excuses_111 (lv_at hl 6 rfl) ?_
                    refine lv_iadd hx hb dX12_excuses_113 ?_
                    obtain ⟨v64, g63, h⟩ := hq_bind h
                    refine hq_iald hx hb hE hI g63 dX12_excuses_114 ?_
                    refine lv_iconst (v := 2) hx hb dX12_excuses_115 (by decide) ?_
                    refine lv_icmp_eq (tgt := 123) hx hb dX12_excuses_116 (by decide) (fun c65 => ?_) (fun c65 => ?_)
                    · have h := hq_t h c65
                      refine lv_iconst (v := 0) hx hb dX12_excuses_123 (by decide) ?_
                      refine lv_iadd hx hb dX12_excuses_124 ?_
                      refine lv_istore (lv' := [(7, .int (x51 + 0)), (0, .ref a0), (3, .int a3), (4, .int a4), (5, .int v25), (6, .int v33), (8, .int x52)]) hx hb dX12_excuses_125 hl (by decide) rfl (fun ls hl => ?_)
                      refine lv_iinc (v := (x52 + 1)) (lv' := [(8, .int (x52 + 1)), (7, .int (x51 + 0)), (0, .ref a0), (3, .int a3), (4, .int a4), (5, .int v25), (6, .int v33)]) hx hb dX12_excuses_127 hl (k := 6) rfl rfl (by decide) rfl (fun ls hl => ?_)
                      refine lv_goto (tgt := 76) hx hb dX12_excuses_130 (by decide) ?_
                      exact ih76 (x51 + 0) (x52 + 1) S53 _ _ _ h hI (lv_sub hl [2, 3, 4, 5, 6, 1, 0] rfl)
                    · have h := hq_f h c65
                      refine lv_iconst (v := 1) hx hb dX12_excuses_119 (by decide) ?_
                      refine lv_goto (tgt := 124) hx hb dX12_excuses_120 (by decide) ?_
                      refine lv_iadd hx hb dX12_excuses_124 ?_
                      refine lv_istore (lv' := [(7, .int (x51 + 1)), (0, .ref a0), (3, .int a3), (4, .int a4), (5, .int v25), (6, .int v33), (8, .int x52)]) hx hb dX12_excuses_125 hl (by decide) rfl (fun ls hl => ?_)
                      refine lv_iinc (v := (x52 + 1)) (lv' := [(8, .int (x52 + 1)), (7, .int (x51 + 1)), (0, .ref a0), (3, .int a3), (4, .int a4), (5, .int v25), (6, .int v33)]) hx hb dX12_excuses_127 hl (k := 6) rfl rfl (by decide) rfl (fun ls hl => ?_)
                      refine lv_goto (tgt := 76) hx hb dX12_excuses_130 (by decide) ?_
                      exact ih76 (x51 + 1) (x52 + 1) S53 _ _ _ h hI (lv_sub hl [2, 3, 4, 5, 6, 1, 0] rfl)
          exact hL76 FU 0 0 S32 _ _ _ h hI (lv_sub hl [4, 7, 8, 3, 2, 1, 0] rfl)
        · have h := hq_t h c17
          refine lv_bipush (v := (-2)) hx hb dX12_excuses_37 (by decide) ?_
          exact hq_iret hx hb hr hlocks h0 hI h dX12_excuses_39
      · have h := hq_t h c13
        refine lv_iconst (v := (-1)) hx hb dX12_excuses_24 (by decide) ?_
        exact hq_iret hx hb hr hlocks h0 hI h dX12_excuses_25
-- RodDipsModel.field(III)J
theorem dX12_field_0 : decode cX12_field 0 = .ok (.iload_n 1, 1) := by decide +kernel
theorem dX12_field_1 : decode cX12_field 1 = .ok (.iconst 0, 1) := by decide +kernel
theorem dX12_field_2 : decode cX12_field 2 = .ok (.sipush 1000, 3) := by decide +kernel
theorem dX12_field_5 : decode cX12_field 5 = .ok (.invokestatic 39, 3) := by decide +kernel
theorem dX12_field_8 : decode cX12_field 8 = .ok (.ifCond .eq 21, 3) := by decide +kernel
theorem dX12_field_11 : decode cX12_field 11 = .ok (.iload_n 2, 1) := by decide +kernel
theorem dX12_field_12 : decode cX12_field 12 = .ok (.iconst 0, 1) := by decide +kernel
theorem dX12_field_13 : decode cX12_field 13 = .ok (.iconst 5, 1) := by decide +kernel
theorem dX12_field_14 : decode cX12_field 14 = .ok (.invokestatic 39, 3) := by decide +kernel
theorem dX12_field_17 : decode cX12_field 17 = .ok (.ifCond .eq 12, 3) := by decide +kernel
theorem dX12_field_20 : decode cX12_field 20 = .ok (.iload_n 3, 1) := by decide +kernel
theorem dX12_field_21 : decode cX12_field 21 = .ok (.iconst 0, 1) := by decide +kernel
theorem dX12_field_22 : decode cX12_field 22 = .ok (.iconst 1, 1) := by decide +kernel
theorem dX12_field_23 : decode cX12_field 23 = .ok (.invokestatic 39, 3) := by decide +kernel
theorem dX12_field_26 : decode cX12_field 26 = .ok (.ifCond .ne 7, 3) := by decide +kernel
theorem dX12_field_29 : decode cX12_field 29 = .ok (.ldc2_w 200, 3) := by decide +kernel
theorem dX12_field_32 : decode cX12_field 32 = .ok (.lreturn, 1) := by decide +kernel
theorem dX12_field_33 : decode cX12_field 33 = .ok (.iload_n 1, 1) := by decide +kernel
theorem dX12_field_34 : decode cX12_field 34 = .ok (.i2l, 1) := by decide +kernel
theorem dX12_field_35 : decode cX12_field 35 = .ok (.iload_n 2, 1) := by decide +kernel
theorem dX12_field_36 : decode cX12_field 36 = .ok (.invokestatic 252, 3) := by decide +kernel
theorem dX12_field_39 : decode cX12_field 39 = .ok (.ldc2_w 262, 3) := by decide +kernel
theorem dX12_field_42 : decode cX12_field 42 = .ok (.iload_n 2, 1) := by decide +kernel
theorem dX12_field_43 : decode cX12_field 43 = .ok (.invokestatic 252, 3) := by decide +kernel
theorem dX12_field_46 : decode cX12_field 46 = .ok (.iload_n 3, 1) := by decide +kernel
theorem dX12_field_47 : decode cX12_field 47 = .ok (.invokestatic 205, 3) := by decide +kernel
theorem dX12_field_50 : decode cX12_field 50 = .ok (.lreturn, 1) := by decide +kernel
def f_X12_field (S : HSt) (a0 : Nat) (a1 : Int32) (a2 : Int32) (a3 : Int32) : Option (Int64 × HSt) := bd2 (f_X12_in S a1 0 1000) fun v3 S2 => if v3 = 0 then (some ((-9223372036854775808), S2)) else (bd2 (f_X12_in S2 a2 0 5) fun v7 S6 => if v7 = 0 then (some ((-9223372036854775808), S6)) else (bd2 (f_X12_in S6 a3 0 1) fun v11 S10 => if v11 = 0 then (some ((-9223372036854775808), S10)) else (bd2 (f_X12_power S10 (Int32.toInt64 a1) a2) fun v15 S14 => bd2 (f_X12_power S14 1000 a2) fun v18 S17 => bd2 (f_X12_lowest S17 v15 v18 a3) fun v21 S20 => some (v21, S20))))
abbrev rm_X12_field : Room := { frames := 2, cells := 0, slots := 0, locals := 53 }
abbrev w_X12_field : List Cond := Cond.code yX12_field cX12_field 4 (Option.some FieldType.long) :: lwG
theorem yd_X12_field : yX12_field.cls ≠ "java/lang/invoke/MethodHandle" ∧ yX12_field.cls ≠ "java/lang/invoke/VarHandle" ∧ (parseMethodDescriptor yX12_field.desc).map (fun d => d.parameters.length) = some 3 := by decide +kernel
theorem ye_X12_field : yX12_field.cls = RX12 ∧ yX12_field.cls ≠ "java/lang/invoke/MethodHandle" ∧ yX12_field.cls ≠ "java/lang/invoke/VarHandle" ∧ (parseMethodDescriptor yX12_field.desc).map (fun d => d.parameters.length) = some 3 := by decide +kernel
set_option maxHeartbeats 4000000 in
set_option maxRecDepth 100000 in
theorem c_X12_field (l : Launch) (D : va_G) (kA ρ : Nat → Nat) (HB : Heap) (S : HSt) (a0 : Nat) (a1 : Int32) (a2 : Int32) (a3 : Int32) (res : Int64 × HSt) (h : f_X12_field S a0 a1 a2 a3 = some res) : Met l yX12_field w_X12_field rm_X12_field (hPc D kA ρ HB S [.ref a0, .int a1, .int a2, .int a3]) (hQl D kA HB S res) 0 0 (hFree HB) := by
  refine Met.ofW (cc := cX12_field) (maxL := 4) (ret := (Option.some FieldType.long)) (by decide) rfl ?_
  intro p e s m args below meth c s₁ B hml hv
  obtain ⟨rfl, hE, h0⟩ := hv
  have hx := B.exec
  have hb := B.bytes
  have hr := B.returns
  have hts0 := atoms_spec (ws := w_X12_field) B.pre
  have hts : ∀ w ∈ lwG, w.before _ s = true := fun w hw => hts0 w (List.mem_cons_of_mem _ hw)
  have hown : s.vm.findClass RX12 = some m.cls := findClass_of_methodNamed B.named
  have hlocks := B.notSynchronized
  have hI : hqX D kA HB S.2 S s.heap [] := ⟨h0, Nat.le_refl _, fun _ q => absurd q List.not_mem_nil⟩
  have hl := lv_entry ([.ref a0, .int a1, .int a2, .int a3]) (n := 4) (Nat.le_of_ble_eq_true rfl)
  rw [lg_entry_eq]
  generalize (lg_sl ([.ref a0, .int a1, .int a2, .int a3]) ++ List.replicate (4 - (lg_sl ([.ref a0, .int a1, .int a2, .int a3])).length) Slot.unset).toArray = ls at hl ⊢
  have hl : lv_has ls 4 [(0, .ref a0), (1, .int a1), (2, .int a2), (3, .int a3)] := hl
  unfold f_X12_field at h
  refine lv_iload_n hx hb dX12_field_0 rfl (lv_at hl 1 rfl) ?_
  refine lv_iconst (v := 0) hx hb dX12_field_1 (by decide) ?_
  refine lv_sipush (v := 1000) hx hb dX12_field_2 (by decide) ?_
  obtain ⟨v3, S2, g1, h⟩ := hq_bd2 h
  refine hq_calli hI (va_runS (As := [.int a1, .int 0, .int 1000]) (rest := []) ⟨hx, hb, hml, hown, hts⟩ (c_X12_in l D kA ρ HB S a1 0 1000 _ g1) (va_cwS 3 hts (gdIn (List.forall_mem_cons.mpr ⟨kw_1010, (List.forall_mem_cons.mpr ⟨kw_1011, (List.forall_mem_cons.mpr ⟨kw_6, (fun _ h => absurd h List.not_mem_nil)⟩)⟩)⟩) kw_1012) rfl rfl rfl yd_X12_in ⟨Nat.le_of_ble_eq_true rfl, Nat.le_of_ble_eq_true rfl⟩) (hq_preS hE hI _) rfl rfl hl.1 rfl (lv_room (Nat.le_of_ble_eq_true rfl)) dX12_field_5 ⟨Nat.le_of_ble_eq_true rfl, Nat.le_of_ble_eq_true rfl⟩) (fun H locs hI => ?_)
  refine lv_if_eq (tgt := 29) hx hb dX12_field_8 (by decide) (fun c4 => ?_) (fun c4 => ?_)
  · have h := hq_t h c4
    refine lv_ldc2 (v := (-9223372036854775808)) hx hb hown (hts _ kw_1180) dX12_field_29 ?_
    exact hq_lret hx hb hr hlocks h0 hI h dX12_field_32
  · have h := hq_f h c4
    refine lv_iload_n hx hb dX12_field_11 rfl (lv_at hl 2 rfl) ?_
    refine lv_iconst (v := 0) hx hb dX12_field_12 (by decide) ?_
    refine lv_iconst (v := 5) hx hb dX12_field_13 (by decide) ?_
    obtain ⟨v7, S6, g5, h⟩ := hq_bd2 h
    refine hq_calli hI (va_runS (As := [.int a2, .int 0, .int 5]) (rest := []) ⟨hx, hb, hml, hown, hts⟩ (c_X12_in l D kA ρ HB S2 a2 0 5 _ g5) (va_cwS 3 hts (gdIn (List.forall_mem_cons.mpr ⟨kw_1010, (List.forall_mem_cons.mpr ⟨kw_1011, (List.forall_mem_cons.mpr ⟨kw_6, (fun _ h => absurd h List.not_mem_nil)⟩)⟩)⟩) kw_1012) rfl rfl rfl yd_X12_in ⟨Nat.le_of_ble_eq_true rfl, Nat.le_of_ble_eq_true rfl⟩) (hq_preS hE hI _) rfl rfl hl.1 rfl (lv_room (Nat.le_of_ble_eq_true rfl)) dX12_field_14 ⟨Nat.le_of_ble_eq_true rfl, Nat.le_of_ble_eq_true rfl⟩) (fun H locs hI => ?_)
    refine lv_if_eq (tgt := 29) hx hb dX12_field_17 (by decide) (fun c8 => ?_) (fun c8 => ?_)
    · have h := hq_t h c8
      refine lv_ldc2 (v := (-9223372036854775808)) hx hb hown (hts _ kw_1180) dX12_field_29 ?_
      exact hq_lret hx hb hr hlocks h0 hI h dX12_field_32
    · have h := hq_f h c8
      refine lv_iload_n hx hb dX12_field_20 rfl (lv_at hl 3 rfl) ?_
      refine lv_iconst (v := 0) hx hb dX12_field_21 (by decide) ?_
      refine lv_iconst (v := 1) hx hb dX12_field_22 (by decide) ?_
      obtain ⟨v11, S10, g9, h⟩ := hq_bd2 h
      refine hq_calli hI (va_runS (As := [.int a3, .int 0, .int 1]) (rest := []) ⟨hx, hb, hml, hown, hts⟩ (c_X12_in l D kA ρ HB S6 a3 0 1 _ g9) (va_cwS 3 hts (gdIn (List.forall_mem_cons.mpr ⟨kw_1010, (List.forall_mem_cons.mpr ⟨kw_1011, (List.forall_mem_cons.mpr ⟨kw_6, (fun _ h => absurd h List.not_mem_nil)⟩)⟩)⟩) kw_1012) rfl rfl rfl yd_X12_in ⟨Nat.le_of_ble_eq_true rfl, Nat.le_of_ble_eq_true rfl⟩) (hq_preS hE hI _) rfl rfl hl.1 rfl (lv_room (Nat.le_of_ble_eq_true rfl)) dX12_field_23 ⟨Nat.le_of_ble_eq_true rfl, Nat.le_of_ble_eq_true rfl⟩) (fun H locs hI => ?_)
      refine lv_if_ne (tgt := 33) hx hb dX12_field_26 (by decide) (fun c12 => ?_) (fun c12 => ?_)
      · have h := hq_f h c12
        refine lv_iload_n hx hb dX12_field_33 rfl (lv_at hl 1 rfl) ?_
        refine lv_i2l (v := Int32.toInt64 a1) hx hb dX12_field_34 rfl ?_
        refine lv_iload_n hx hb dX12_field_35 rfl (lv_at hl 2 rfl) ?_
        obtain ⟨v15, S14, g13, h⟩ := hq_bd2 h
        refine hq_calll hI (va_runS (As := [.long (Int32.toInt64 a1), .int a2]) (rest := []) ⟨hx, hb, hml, hown, hts⟩ (c_X12_power l D kA ρ HB S10 (Int32.toInt64 a1) a2 _ g13) (va_cwS 2 hts (gdIn (List.forall_mem_cons.mpr ⟨kw_1285, (List.forall_mem_cons.mpr ⟨kw_1286, (List.forall_mem_cons.mpr ⟨kw_6, (fun _ h => absurd h List.not_mem_nil)⟩)⟩)⟩) kw_1287) rfl rfl rfl yd_X12_power ⟨Nat.le_of_ble_eq_true rfl, Nat.le_of_ble_eq_true rfl⟩) (hq_preS hE hI _) rfl rfl hl.1 rfl (lv_room (Nat.le_of_ble_eq_true rfl)) dX12_field_36 ⟨Nat.le_of_ble_eq_true rfl, Nat.le_of_ble_eq_true rfl⟩) (fun H locs hI => ?_)
        refine lv_ldc2 (v := 1000) hx hb hown (hts _ kw_1297) dX12_field_39 ?_
        refine lv_iload_n hx hb dX12_field_42 rfl (lv_at hl 2 rfl) ?_
        obtain ⟨v18, S17, g16, h⟩ := hq_bd2 h
        refine hq_calll hI (va_runS (As := [.long 1000, .int a2]) (rest := [.long v15]) ⟨hx, hb, hml, hown, hts⟩ (c_X12_power l D kA ρ HB S14 1000 a2 _ g16) (va_cwS 2 hts (gdIn (List.forall_mem_cons.mpr ⟨kw_1285, (List.forall_mem_cons.mpr ⟨kw_1286, (List.forall_mem_cons.mpr ⟨kw_6, (fun _ h => absurd h List.not_mem_nil)⟩)⟩)⟩) kw_1287) rfl rfl rfl yd_X12_power ⟨Nat.le_of_ble_eq_true rfl, Nat.le_of_ble_eq_true rfl⟩) (hq_preS hE hI _) rfl rfl hl.1 rfl (lv_room (Nat.le_of_ble_eq_true rfl)) dX12_field_43 ⟨Nat.le_of_ble_eq_true rfl, Nat.le_of_ble_eq_true rfl⟩) (fun H locs hI => ?_)
        refine lv_iload_n hx hb dX12_field_46 rfl (lv_at hl 3 rfl) ?_
        obtain ⟨v21, S20, g19, h⟩ := hq_bd2 h
        refine hq_calll hI (va_runS (As := [.long v15, .long v18, .int a3]) (rest := []) ⟨hx, hb, hml, hown, hts⟩ (c_X12_lowest l D kA ρ HB S17 v15 v18 a3 _ g19) (va_cwS 3 hts (gdIn (List.forall_mem_cons.mpr ⟨kw_1185, (List.forall_mem_cons.mpr ⟨kw_1186, (List.forall_mem_cons.mpr ⟨kw_6, (fun _ h => absurd h List.not_mem_nil)⟩)⟩)⟩) kw_1187) rfl rfl rfl yd_X12_lowest ⟨Nat.le_of_ble_eq_true rfl, Nat.le_of_ble_eq_true rfl⟩) (hq_preS hE hI _) rfl rfl hl.1 rfl (lv_room (Nat.le_of_ble_eq_true rfl)) dX12_field_47 ⟨Nat.le_of_ble_eq_true rfl, Nat.le_of_ble_eq_true rfl⟩) (fun H locs hI => ?_)
        exact hq_lret hx hb hr hlocks h0 hI h dX12_field_50
      · have h := hq_t h c12
        refine lv_ldc2 (v := (-9223372036854775808)) hx hb hown (hts _ kw_1180) dX12_field_29 ?_
        exact hq_lret hx hb hr hlocks h0 hI h dX12_field_32
-- RodDipsModel.holes(II)I
theorem dX12_holes_0 : decode cX12_holes 0 = .ok (.iload_n 1, 1) := by decide +kernel
theorem dX12_holes_1 : decode cX12_holes 1 = .ok (.iconst 0, 1) := by decide +kernel
theorem dX12_holes_2 : decode cX12_holes 2 = .ok (.sipush 1000, 3) := by decide +kernel
theorem dX12_holes_5 : decode cX12_holes 5 = .ok (.invokestatic 39, 3) := by decide +kernel
theorem dX12_holes_8 : decode cX12_holes 8 = .ok (.ifCond .eq 13, 3) := by decide +kernel
theorem dX12_holes_11 : decode cX12_holes 11 = .ok (.iload_n 2, 1) := by decide +kernel
theorem dX12_holes_12 : decode cX12_holes 12 = .ok (.iconst 1, 1) := by decide +kernel
theorem dX12_holes_13 : decode cX12_holes 13 = .ok (.bipush 99, 2) := by decide +kernel
theorem dX12_holes_15 : decode cX12_holes 15 = .ok (.invokestatic 39, 3) := by decide +kernel
theorem dX12_holes_18 : decode cX12_holes 18 = .ok (.ifCond .ne 6, 3) := by decide +kernel
theorem dX12_holes_21 : decode cX12_holes 21 = .ok (.bipush (-2), 2) := by decide +kernel
theorem dX12_holes_23 : decode cX12_holes 23 = .ok (.ireturn, 1) := by decide +kernel
theorem dX12_holes_24 : decode cX12_holes 24 = .ok (.iconst 0, 1) := by decide +kernel
theorem dX12_holes_25 : decode cX12_holes 25 = .ok (.istore_n 3, 1) := by decide +kernel
theorem dX12_holes_26 : decode cX12_holes 26 = .ok (.iload_n 3, 1) := by decide +kernel
theorem dX12_holes_27 : decode cX12_holes 27 = .ok (.bipush 6, 2) := by decide +kernel
theorem dX12_holes_29 : decode cX12_holes 29 = .ok (.if_icmp .ge 31, 3) := by decide +kernel
theorem dX12_holes_32 : decode cX12_holes 32 = .ok (.iload_n 1, 1) := by decide +kernel
theorem dX12_holes_33 : decode cX12_holes 33 = .ok (.i2l, 1) := by decide +kernel
theorem dX12_holes_34 : decode cX12_holes 34 = .ok (.iload_n 3, 1) := by decide +kernel
theorem dX12_holes_35 : decode cX12_holes 35 = .ok (.invokestatic 252, 3) := by decide +kernel
theorem dX12_holes_38 : decode cX12_holes 38 = .ok (.iload_n 2, 1) := by decide +kernel
theorem dX12_holes_39 : decode cX12_holes 39 = .ok (.i2l, 1) := by decide +kernel
theorem dX12_holes_40 : decode cX12_holes 40 = .ok (.lmul, 1) := by decide +kernel
theorem dX12_holes_41 : decode cX12_holes 41 = .ok (.ldc2_w 262, 3) := by decide +kernel
theorem dX12_holes_44 : decode cX12_holes 44 = .ok (.iload_n 3, 1) := by decide +kernel
theorem dX12_holes_45 : decode cX12_holes 45 = .ok (.invokestatic 252, 3) := by decide +kernel
theorem dX12_holes_48 : decode cX12_holes 48 = .ok (.lcmp, 1) := by decide +kernel
theorem dX12_holes_49 : decode cX12_holes 49 = .ok (.ifCond .gt 5, 3) := by decide +kernel
theorem dX12_holes_52 : decode cX12_holes 52 = .ok (.iload_n 3, 1) := by decide +kernel
theorem dX12_holes_53 : decode cX12_holes 53 = .ok (.ireturn, 1) := by decide +kernel
theorem dX12_holes_54 : decode cX12_holes 54 = .ok (.iinc 3 1, 3) := by decide +kernel
theorem dX12_holes_57 : decode cX12_holes 57 = .ok (.goto (-31), 3) := by decide +kernel
theorem dX12_holes_60 : decode cX12_holes 60 = .ok (.bipush (-5), 2) := by decide +kernel
theorem dX12_holes_62 : decode cX12_holes 62 = .ok (.ireturn, 1) := by decide +kernel
def f_X12_holes_K60 (S9 : HSt) : Option (Int32 × HSt) := some ((-5), S9)
def f_X12_holes_B26 (a1 : Int32) (a2 : Int32) (kx60 : (HSt → Option (Int32 × HSt))) (kb26 : (Int32 → HSt → Option (Int32 × HSt))) (x10 : Int32) (S11 : HSt) : Option (Int32 × HSt) := if 6 ≤ x10 then (kx60 S11) else (bd2 (f_X12_power S11 (Int32.toInt64 a1) x10) fun v15 S14 => bd2 (f_X12_power S14 1000 x10) fun v18 S17 => if 0 < (lg_cmp (v15 * (Int32.toInt64 a2)) v18) then (kb26 (x10 + 1) S17) else (some (x10, S17)))
def f_X12_holes_L26 (a1 : Int32) (a2 : Int32) (kx60 : (HSt → Option (Int32 × HSt))) : Nat → Int32 → HSt → Option (Int32 × HSt)
  | 0, _, _ => none
  | n + 1, x10, S => f_X12_holes_B26 a1 a2 kx60 (f_X12_holes_L26 a1 a2 kx60 n) x10 S
def f_X12_holes (S : HSt) (a0 : Nat) (a1 : Int32) (a2 : Int32) : Option (Int32 × HSt) := bd2 (f_X12_in S a1 0 1000) fun v3 S2 => if v3 = 0 then (some ((-2), S2)) else (bd2 (f_X12_in S2 a2 1 99) fun v7 S6 => if v7 = 0 then (some ((-2), S6)) else ((f_X12_holes_L26 a1 a2 f_X12_holes_K60 FU) 0 S6))
abbrev rm_X12_holes : Room := { frames := 1, cells := 0, slots := 0, locals := 25 }
abbrev w_X12_holes : List Cond := Cond.code yX12_holes cX12_holes 4 (Option.some FieldType.int) :: lwG
theorem yd_X12_holes : yX12_holes.cls ≠ "java/lang/invoke/MethodHandle" ∧ yX12_holes.cls ≠ "java/lang/invoke/VarHandle" ∧ (parseMethodDescriptor yX12_holes.desc).map (fun d => d.parameters.length) = some 2 := by decide +kernel
theorem ye_X12_holes : yX12_holes.cls = RX12 ∧ yX12_holes.cls ≠ "java/lang/invoke/MethodHandle" ∧ yX12_holes.cls ≠ "java/lang/invoke/VarHandle" ∧ (parseMethodDescriptor yX12_holes.desc).map (fun d => d.parameters.length) = some 2 := by decide +kernel
set_option maxHeartbeats 4000000 in
set_option maxRecDepth 100000 in
theorem c_X12_holes (l : Launch) (D : va_G) (kA ρ : Nat → Nat) (HB : Heap) (S : HSt) (a0 : Nat) (a1 : Int32) (a2 : Int32) (res : Int32 × HSt) (h : f_X12_holes S a0 a1 a2 = some res) : Met l yX12_holes w_X12_holes rm_X12_holes (hPc D kA ρ HB S [.ref a0, .int a1, .int a2]) (hQi D kA HB S res) 0 0 (hFree HB) := by
  refine Met.ofW (cc := cX12_holes) (maxL := 4) (ret := (Option.some FieldType.int)) (by decide) rfl ?_
  intro p e s m args below meth c s₁ B hml hv
  obtain ⟨rfl, hE, h0⟩ := hv
  have hx := B.exec
  have hb := B.bytes
  have hr := B.returns
  have hts0 := atoms_spec (ws := w_X12_holes) B.pre
  have hts : ∀ w ∈ lwG, w.before _ s = true := fun w hw => hts0 w (List.mem_cons_of_mem _ hw)
  have hown : s.vm.findClass RX12 = some m.cls := findClass_of_methodNamed B.named
  have hlocks := B.notSynchronized
  have hI : hqX D kA HB S.2 S s.heap [] := ⟨h0, Nat.le_refl _, fun _ q => absurd q List.not_mem_nil⟩
  have hl := lv_entry ([.ref a0, .int a1, .int a2]) (n := 4) (Nat.le_of_ble_eq_true rfl)
  rw [lg_entry_eq]
  generalize (lg_sl ([.ref a0, .int a1, .int a2]) ++ List.replicate (4 - (lg_sl ([.ref a0, .int a1, .int a2])).length) Slot.unset).toArray = ls at hl ⊢
  have hl : lv_has ls 4 [(0, .ref a0), (1, .int a1), (2, .int a2)] := hl
  unfold f_X12_holes at h
  refine lv_iload_n hx hb dX12_holes_0 rfl (lv_at hl 1 rfl) ?_
  refine lv_iconst (v := 0) hx hb dX12_holes_1 (by decide) ?_
  refine lv_sipush (v := 1000) hx hb dX12_holes_2 (by decide) ?_
  obtain ⟨v3, S2, g1, h⟩ := hq_bd2 h
  refine hq_calli hI (va_runS (As := [.int a1, .int 0, .int 1000]) (rest := []) ⟨hx, hb, hml, hown, hts⟩ (c_X12_in l D kA ρ HB S a1 0 1000 _ g1) (va_cwS 3 hts (gdIn (List.forall_mem_cons.mpr ⟨kw_1010, (List.forall_mem_cons.mpr ⟨kw_1011, (List.forall_mem_cons.mpr ⟨kw_6, (fun _ h => absurd h List.not_mem_nil)⟩)⟩)⟩) kw_1012) rfl rfl rfl yd_X12_in ⟨Nat.le_of_ble_eq_true rfl, Nat.le_of_ble_eq_true rfl⟩) (hq_preS hE hI _) rfl rfl hl.1 rfl (lv_room (Nat.le_of_ble_eq_true rfl)) dX12_holes_5 ⟨Nat.le_of_ble_eq_true rfl, Nat.le_of_ble_eq_true rfl⟩) (fun H locs hI => ?_)
  refine lv_if_eq (tgt := 21) hx hb dX12_holes_8 (by decide) (fun c4 => ?_) (fun c4 => ?_)
  · have h := hq_t h c4
    refine lv_bipush (v := (-2)) hx hb dX12_holes_21 (by decide) ?_
    exact hq_iret hx hb hr hlocks h0 hI h dX12_holes_23
  · have h := hq_f h c4
    refine lv_iload_n hx hb dX12_holes_11 rfl (lv_at hl 2 rfl) ?_
    refine lv_iconst (v := 1) hx hb dX12_holes_12 (by decide) ?_
    refine lv_bipush (v := 99) hx hb dX12_holes_13 (by decide) ?_
    obtain ⟨v7, S6, g5, h⟩ := hq_bd2 h
    refine hq_calli hI (va_runS (As := [.int a2, .int 1, .int 99]) (rest := []) ⟨hx, hb, hml, hown, hts⟩ (c_X12_in l D kA ρ HB S2 a2 1 99 _ g5) (va_cwS 3 hts (gdIn (List.forall_mem_cons.mpr ⟨kw_1010, (List.forall_mem_cons.mpr ⟨kw_1011, (List.forall_mem_cons.mpr ⟨kw_6, (fun _ h => absurd h List.not_mem_nil)⟩)⟩)⟩) kw_1012) rfl rfl rfl yd_X12_in ⟨Nat.le_of_ble_eq_true rfl, Nat.le_of_ble_eq_true rfl⟩) (hq_preS hE hI _) rfl rfl hl.1 rfl (lv_room (Nat.le_of_ble_eq_true rfl)) dX12_holes_15 ⟨Nat.le_of_ble_eq_true rfl, Nat.le_of_ble_eq_true rfl⟩) (fun H locs hI => ?_)
    refine lv_if_ne (tgt := 24) hx hb dX12_holes_18 (by decide) (fun c8 => ?_) (fun c8 => ?_)
    · have h := hq_f h c8
      refine lv_iconst (v := 0) hx hb dX12_holes_24 (by decide) ?_
      refine lv_istore_n (lv' := [(3, .int 0), (0, .ref a0), (1, .int a1), (2, .int a2)]) hx hb dX12_holes_25 rfl hl (by decide) rfl (fun ls hl => ?_)
      have hK60 : ∀ (S9 : HSt) (H : Heap) (locs : List Loc) (ls : Array Slot), f_X12_holes_K60 S9 = some res → hqX D kA HB S.2 S9 H locs → lv_has ls 4 [] → W p l e rm_X12_holes s m ([.ref a0, .int a1, .int a2] : List Value).toArray below meth c H locs 0 0 (MQ below (hQi D kA HB S res) ([.ref a0, .int a1, .int a2] : List Value).toArray s 0 0 (hFree HB)) (F0 m 60 ls []) := by
        intro S9 H locs ls h hI hl
        unfold f_X12_holes_K60 at h
        refine lv_bipush (v := (-5)) hx hb dX12_holes_60 (by decide) ?_
        exact hq_iret hx hb hr hlocks h0 hI h dX12_holes_62
      have hL26 : ∀ (n26 : Nat) (x10 : Int32) (S11 : HSt) (H : Heap) (locs : List Loc) (ls : Array Slot), (f_X12_holes_L26 a1 a2 f_X12_holes_K60 n26) x10 S11 = some res → hqX D kA HB S.2 S11 H locs → lv_has ls 4 [(1, .int a1), (2, .int a2), (3, .int x10)] → W p l e rm_X12_holes s m ([.ref a0, .int a1, .int a2] : List Value).toArray below meth c H locs 0 0 (MQ below (hQi D kA HB S res) ([.ref a0, .int a1, .int a2] : List Value).toArray s 0 0 (hFree HB)) (F0 m 26 ls []) := by
        intro n26
        induction n26 with
        | zero =>
          intro x10 S11 H locs ls h
          have h : (none : Option (Int32 × HSt)) = some res := h
          cases h
        | succ n26 ih26 =>
          intro x10 S11 H locs ls h hI hl
          have h : f_X12_holes_B26 a1 a2 f_X12_holes_K60 (f_X12_holes_L26 a1 a2 f_X12_holes_K60 n26) x10 S11 = some res := h
          unfold f_X12_holes_B26 at h
          refine lv_iload_n hx hb dX12_holes_26 rfl (lv_at hl 2 rfl) ?_
          refine lv_bipush (v := 6) hx hb dX12_holes_27 (by decide) ?_
          refine lv_icmp_ge (tgt := 60) hx hb dX12_holes_29 (by decide) (fun c12 => ?_) (fun c12 => ?_)
          · have h := hq_t h c12
            exact hK60 S11 _ _ _ h hI (lv_sub hl [] rfl)
          · have h := hq_f h c12
            refine lv_iload_n hx hb dX12_holes_32 rfl (lv_at hl 0 rfl) ?_
            refine lv_i2l (v := Int32.toInt64 a1) hx hb dX12_holes_33 rfl ?_
            refine lv_iload_n hx hb dX12_holes_34 rfl (lv_at hl 2 rfl) ?_
            obtain ⟨v15, S14, g13, h⟩ := hq_bd2 h
            refine hq_calll hI (va_runS (As := [.long (Int32.toInt64 a1), .int x10]) (rest := []) ⟨hx, hb, hml, hown, hts⟩ (c_X12_power l D kA ρ HB S11 (Int32.toInt64 a1) x10 _ g13) (va_cwS 2 hts (gdIn (List.forall_mem_cons.mpr ⟨kw_1285, (List.forall_mem_cons.mpr ⟨kw_1286, (List.forall_mem_cons.mpr ⟨kw_6, (fun _ h => absurd h List.not_mem_nil)⟩)⟩)⟩) kw_1287) rfl rfl rfl yd_X12_power ⟨Nat.le_of_ble_eq_true rfl, Nat.le_of_ble_eq_true rfl⟩) (hq_preS hE hI _) rfl rfl hl.1 rfl (lv_room (Nat.le_of_ble_eq_true rfl)) dX12_holes_35 ⟨Nat.le_of_ble_eq_true rfl, Nat.le_of_ble_eq_true rfl⟩) (fun H locs hI => ?_)
            refine lv_iload_n hx hb dX12_holes_38 rfl (lv_at hl 1 rfl) ?_
            refine lv_i2l (v := Int32.toInt64 a2) hx hb dX12_holes_39 rfl ?_
            refine lv_lmul hx hb dX12_holes_40 ?_
            refine lv_ldc2 (v := 1000) hx hb hown (hts _ kw_1297) dX12_holes_41 ?_
            refine lv_iload_n hx hb dX12_holes_44 rfl (lv_at hl 2 rfl) ?_
            obtain ⟨v18, S17, g16, h⟩ := hq_bd2 h
            refine hq_calll hI (va_runS (As := [.long 1000, .int x10]) (rest := [.long (v15 * (Int32.toInt64 a2))]) ⟨hx, hb, hml, hown, hts⟩ (c_X12_power l D kA ρ HB S14 1000 x10 _ g16) (va_cwS 2 hts (gdIn (List.forall_mem_cons.mpr ⟨kw_1285, (List.forall_mem_cons.mpr ⟨kw_1286, (List.forall_mem_cons.mpr ⟨kw_6, (fun _ h => absurd h List.not_mem_nil)⟩)⟩)⟩) kw_1287) rfl rfl rfl yd_X12_power ⟨Nat.le_of_ble_eq_true rfl, Nat.le_of_ble_eq_true rfl⟩) (hq_preS hE hI _) rfl rfl hl.1 rfl (lv_room (Nat.le_of_ble_eq_true rfl)) dX12_holes_45 ⟨Nat.le_of_ble_eq_true rfl, Nat.le_of_ble_eq_true rfl⟩) (fun H locs hI => ?_)
            refine W.lcmp hx hb dX12_holes_48 ?_
            refine lv_if_gt (tgt := 54) hx hb dX12_holes_49 (by decide) (fun c19 => ?_) (fun c19 => ?_)
            · have h := hq_t h c19
              refine lv_iinc (v := (x10 + 1)) (lv' := [(3, .int (x10 + 1)), (1, .int a1), (2, .int a2)]) hx hb dX12_holes_54 hl (k := 2) rfl rfl (by decide) rfl (fun ls hl => ?_)
              refine lv_goto (tgt := 26) hx hb dX12_holes_57 (by decide) ?_
              exact ih26 (x10 + 1) S17 _ _ _ h hI (lv_sub hl [1, 2, 0] rfl)
            · have h := hq_f h c19
              refine lv_iload_n hx hb dX12_holes_52 rfl (lv_at hl 2 rfl) ?_
              exact hq_iret hx hb hr hlocks h0 hI h dX12_holes_53
      exact hL26 FU 0 S6 _ _ _ h hI (lv_sub hl [2, 3, 0] rfl)
    · have h := hq_t h c8
      refine lv_bipush (v := (-2)) hx hb dX12_holes_21 (by decide) ?_
      exact hq_iret hx hb hr hlocks h0 hI h dX12_holes_23
-- RodDipsModel.rod(III)I
theorem dX12_rod_0 : decode cX12_rod 0 = .ok (.iload_n 1, 1) := by decide +kernel
theorem dX12_rod_1 : decode cX12_rod 1 = .ok (.iconst 0, 1) := by decide +kernel
theorem dX12_rod_2 : decode cX12_rod 2 = .ok (.bipush 9, 2) := by decide +kernel
theorem dX12_rod_4 : decode cX12_rod 4 = .ok (.invokestatic 39, 3) := by decide +kernel
theorem dX12_rod_7 : decode cX12_rod 7 = .ok (.ifCond .eq 25, 3) := by decide +kernel
theorem dX12_rod_10 : decode cX12_rod 10 = .ok (.iload_n 2, 1) := by decide +kernel
theorem dX12_rod_11 : decode cX12_rod 11 = .ok (.bipush (-99), 2) := by decide +kernel
theorem dX12_rod_13 : decode cX12_rod 13 = .ok (.bipush 99, 2) := by decide +kernel
theorem dX12_rod_15 : decode cX12_rod 15 = .ok (.invokestatic 39, 3) := by decide +kernel
theorem dX12_rod_18 : decode cX12_rod 18 = .ok (.ifCond .eq 14, 3) := by decide +kernel
theorem dX12_rod_21 : decode cX12_rod 21 = .ok (.iload_n 3, 1) := by decide +kernel
theorem dX12_rod_22 : decode cX12_rod 22 = .ok (.iconst 0, 1) := by decide +kernel
theorem dX12_rod_23 : decode cX12_rod 23 = .ok (.sipush 999, 3) := by decide +kernel
theorem dX12_rod_26 : decode cX12_rod 26 = .ok (.invokestatic 39, 3) := by decide +kernel
theorem dX12_rod_29 : decode cX12_rod 29 = .ok (.ifCond .ne 6, 3) := by decide +kernel
theorem dX12_rod_32 : decode cX12_rod 32 = .ok (.bipush (-2), 2) := by decide +kernel
theorem dX12_rod_34 : decode cX12_rod 34 = .ok (.ireturn, 1) := by decide +kernel
theorem dX12_rod_35 : decode cX12_rod 35 = .ok (.iconst 0, 1) := by decide +kernel
theorem dX12_rod_36 : decode cX12_rod 36 = .ok (.istore 4, 2) := by decide +kernel
theorem dX12_rod_38 : decode cX12_rod 38 = .ok (.iload 4, 2) := by decide +kernel
theorem dX12_rod_40 : decode cX12_rod 40 = .ok (.bipush 100, 2) := by decide +kernel
theorem dX12_rod_42 : decode cX12_rod 42 = .ok (.if_icmp .ge 22, 3) := by decide +kernel
theorem dX12_rod_45 : decode cX12_rod 45 = .ok (.iload_n 1, 1) := by decide +kernel
theorem dX12_rod_46 : decode cX12_rod 46 = .ok (.iload 4, 2) := by decide +kernel
theorem dX12_rod_48 : decode cX12_rod 48 = .ok (.imul, 1) := by decide +kernel
theorem dX12_rod_49 : decode cX12_rod 49 = .ok (.iload_n 2, 1) := by decide +kernel
theorem dX12_rod_50 : decode cX12_rod 50 = .ok (.iadd, 1) := by decide +kernel
theorem dX12_rod_51 : decode cX12_rod 51 = .ok (.iload_n 3, 1) := by decide +kernel
theorem dX12_rod_52 : decode cX12_rod 52 = .ok (.if_icmp .le 6, 3) := by decide +kernel
theorem dX12_rod_55 : decode cX12_rod 55 = .ok (.iload 4, 2) := by decide +kernel
theorem dX12_rod_57 : decode cX12_rod 57 = .ok (.ireturn, 1) := by decide +kernel
theorem dX12_rod_58 : decode cX12_rod 58 = .ok (.iinc 4 1, 3) := by decide +kernel
theorem dX12_rod_61 : decode cX12_rod 61 = .ok (.goto (-23), 3) := by decide +kernel
theorem dX12_rod_64 : decode cX12_rod 64 = .ok (.bipush (-5), 2) := by decide +kernel
theorem dX12_rod_66 : decode cX12_rod 66 = .ok (.ireturn, 1) := by decide +kernel
def f_X12_rod_K64 (S13 : HSt) : Option (Int32 × HSt) := some ((-5), S13)
def f_X12_rod_B38 (a1 : Int32) (a2 : Int32) (a3 : Int32) (kx64 : (HSt → Option (Int32 × HSt))) (kb38 : (Int32 → HSt → Option (Int32 × HSt))) (x14 : Int32) (S15 : HSt) : Option (Int32 × HSt) := if 100 ≤ x14 then (kx64 S15) else (if ((a1 * x14) + a2) ≤ a3 then (kb38 (x14 + 1) S15) else (some (x14, S15)))
def f_X12_rod_L38 (a1 : Int32) (a2 : Int32) (a3 : Int32) (kx64 : (HSt → Option (Int32 × HSt))) : Nat → Int32 → HSt → Option (Int32 × HSt)
  | 0, _, _ => none
  | n + 1, x14, S => f_X12_rod_B38 a1 a2 a3 kx64 (f_X12_rod_L38 a1 a2 a3 kx64 n) x14 S
def f_X12_rod (S : HSt) (a0 : Nat) (a1 : Int32) (a2 : Int32) (a3 : Int32) : Option (Int32 × HSt) := bd2 (f_X12_in S a1 0 9) fun v3 S2 => if v3 = 0 then (some ((-2), S2)) else (bd2 (f_X12_in S2 a2 (-99) 99) fun v7 S6 => if v7 = 0 then (some ((-2), S6)) else (bd2 (f_X12_in S6 a3 0 999) fun v11 S10 => if v11 = 0 then (some ((-2), S10)) else ((f_X12_rod_L38 a1 a2 a3 f_X12_rod_K64 FU) 0 S10)))
abbrev rm_X12_rod : Room := { frames := 1, cells := 0, slots := 0, locals := 22 }
abbrev w_X12_rod : List Cond := Cond.code yX12_rod cX12_rod 5 (Option.some FieldType.int) :: lwG
theorem yd_X12_rod : yX12_rod.cls ≠ "java/lang/invoke/MethodHandle" ∧ yX12_rod.cls ≠ "java/lang/invoke/VarHandle" ∧ (parseMethodDescriptor yX12_rod.desc).map (fun d => d.parameters.length) = some 3 := by decide +kernel
theorem ye_X12_rod : yX12_rod.cls = RX12 ∧ yX12_rod.cls ≠ "java/lang/invoke/MethodHandle" ∧ yX12_rod.cls ≠ "java/lang/invoke/VarHandle" ∧ (parseMethodDescriptor yX12_rod.desc).map (fun d => d.parameters.length) = some 3 := by decide +kernel
set_option maxHeartbeats 4000000 in
set_option maxRecDepth 100000 in
theorem c_X12_rod (l : Launch) (D : va_G) (kA ρ : Nat → Nat) (HB : Heap) (S : HSt) (a0 : Nat) (a1 : Int32) (a2 : Int32) (a3 : Int32) (res : Int32 × HSt) (h : f_X12_rod S a0 a1 a2 a3 = some res) : Met l yX12_rod w_X12_rod rm_X12_rod (hPc D kA ρ HB S [.ref a0, .int a1, .int a2, .int a3]) (hQi D kA HB S res) 0 0 (hFree HB) := by
  refine Met.ofW (cc := cX12_rod) (maxL := 5) (ret := (Option.some FieldType.int)) (by decide) rfl ?_
  intro p e s m args below meth c s₁ B hml hv
  obtain ⟨rfl, hE, h0⟩ := hv
  have hx := B.exec
  have hb := B.bytes
  have hr := B.returns
  have hts0 := atoms_spec (ws := w_X12_rod) B.pre
  have hts : ∀ w ∈ lwG, w.before _ s = true := fun w hw => hts0 w (List.mem_cons_of_mem _ hw)
  have hown : s.vm.findClass RX12 = some m.cls := findClass_of_methodNamed B.named
  have hlocks := B.notSynchronized
  have hI : hqX D kA HB S.2 S s.heap [] := ⟨h0, Nat.le_refl _, fun _ q => absurd q List.not_mem_nil⟩
  have hl := lv_entry ([.ref a0, .int a1, .int a2, .int a3]) (n := 5) (Nat.le_of_ble_eq_true rfl)
  rw [lg_entry_eq]
  generalize (lg_sl ([.ref a0, .int a1, .int a2, .int a3]) ++ List.replicate (5 - (lg_sl ([.ref a0, .int a1, .int a2, .int a3])).length) Slot.unset).toArray = ls at hl ⊢
  have hl : lv_has ls 5 [(0, .ref a0), (1, .int a1), (2, .int a2), (3, .int a3)] := hl
  unfold f_X12_rod at h
  refine lv_iload_n hx hb dX12_rod_0 rfl (lv_at hl 1 rfl) ?_
  refine lv_iconst (v := 0) hx hb dX12_rod_1 (by decide) ?_
  refine lv_bipush (v := 9) hx hb dX12_rod_2 (by decide) ?_
  obtain ⟨v3, S2, g1, h⟩ := hq_bd2 h
  refine hq_calli hI (va_runS (As := [.int a1, .int 0, .int 9]) (rest := []) ⟨hx, hb, hml, hown, hts⟩ (c_X12_in l D kA ρ HB S a1 0 9 _ g1) (va_cwS 3 hts (gdIn (List.forall_mem_cons.mpr ⟨kw_1010, (List.forall_mem_cons.mpr ⟨kw_1011, (List.forall_mem_cons.mpr ⟨kw_6, (fun _ h => absurd h List.not_mem_nil)⟩)⟩)⟩) kw_1012) rfl rfl rfl yd_X12_in ⟨Nat.le_of_ble_eq_true rfl, Nat.le_of_ble_eq_true rfl⟩) (hq_preS hE hI _) rfl rfl hl.1 rfl (lv_room (Nat.le_of_ble_eq_true rfl)) dX12_rod_4 ⟨Nat.le_of_ble_eq_true rfl, Nat.le_of_ble_eq_true rfl⟩) (fun H locs hI => ?_)
  refine lv_if_eq (tgt := 32) hx hb dX12_rod_7 (by decide) (fun c4 => ?_) (fun c4 => ?_)
  · have h := hq_t h c4
    refine lv_bipush (v := (-2)) hx hb dX12_rod_32 (by decide) ?_
    exact hq_iret hx hb hr hlocks h0 hI h dX12_rod_34
  · have h := hq_f h c4
    refine lv_iload_n hx hb dX12_rod_10 rfl (lv_at hl 2 rfl) ?_
    refine lv_bipush (v := (-99)) hx hb dX12_rod_11 (by decide) ?_
    refine lv_bipush (v := 99) hx hb dX12_rod_13 (by decide) ?_
    obtain ⟨v7, S6, g5, h⟩ := hq_bd2 h
    refine hq_calli hI (va_runS (As := [.int a2, .int (-99), .int 99]) (rest := []) ⟨hx, hb, hml, hown, hts⟩ (c_X12_in l D kA ρ HB S2 a2 (-99) 99 _ g5) (va_cwS 3 hts (gdIn (List.forall_mem_cons.mpr ⟨kw_1010, (List.forall_mem_cons.mpr ⟨kw_1011, (List.forall_mem_cons.mpr ⟨kw_6, (fun _ h => absurd h List.not_mem_nil)⟩)⟩)⟩) kw_1012) rfl rfl rfl yd_X12_in ⟨Nat.le_of_ble_eq_true rfl, Nat.le_of_ble_eq_true rfl⟩) (hq_preS hE hI _) rfl rfl hl.1 rfl (lv_room (Nat.le_of_ble_eq_true rfl)) dX12_rod_15 ⟨Nat.le_of_ble_eq_true rfl, Nat.le_of_ble_eq_true rfl⟩) (fun H locs hI => ?_)
    refine lv_if_eq (tgt := 32) hx hb dX12_rod_18 (by decide) (fun c8 => ?_) (fun c8 => ?_)
    · have h := hq_t h c8
      refine lv_bipush (v := (-2)) hx hb dX12_rod_32 (by decide) ?_
      exact hq_iret hx hb hr hlocks h0 hI h dX12_rod_34
    · have h := hq_f h c8
      refine lv_iload_n hx hb dX12_rod_21 rfl (lv_at hl 3 rfl) ?_
      refine lv_iconst (v := 0) hx hb dX12_rod_22 (by decide) ?_
      refine lv_sipush (v := 999) hx hb dX12_rod_23 (by decide) ?_
      obtain ⟨v11, S10, g9, h⟩ := hq_bd2 h
      refine hq_calli hI (va_runS (As := [.int a3, .int 0, .int 999]) (rest := []) ⟨hx, hb, hml, hown, hts⟩ (c_X12_in l D kA ρ HB S6 a3 0 999 _ g9) (va_cwS 3 hts (gdIn (List.forall_mem_cons.mpr ⟨kw_1010, (List.forall_mem_cons.mpr ⟨kw_1011, (List.forall_mem_cons.mpr ⟨kw_6, (fun _ h => absurd h List.not_mem_nil)⟩)⟩)⟩) kw_1012) rfl rfl rfl yd_X12_in ⟨Nat.le_of_ble_eq_true rfl, Nat.le_of_ble_eq_true rfl⟩) (hq_preS hE hI _) rfl rfl hl.1 rfl (lv_room (Nat.le_of_ble_eq_true rfl)) dX12_rod_26 ⟨Nat.le_of_ble_eq_true rfl, Nat.le_of_ble_eq_true rfl⟩) (fun H locs hI => ?_)
      refine lv_if_ne (tgt := 35) hx hb dX12_rod_29 (by decide) (fun c12 => ?_) (fun c12 => ?_)
      · have h := hq_f h c12
        refine lv_iconst (v := 0) hx hb dX12_rod_35 (by decide) ?_
        refine lv_istore (lv' := [(4, .int 0), (0, .ref a0), (1, .int a1), (2, .int a2), (3, .int a3)]) hx hb dX12_rod_36 hl (by decide) rfl (fun ls hl => ?_)
        have hK64 : ∀ (S13 : HSt) (H : Heap) (locs : List Loc) (ls : Array Slot), f_X12_rod_K64 S13 = some res → hqX D kA HB S.2 S13 H locs → lv_has ls 5 [] → W p l e rm_X12_rod s m ([.ref a0, .int a1, .int a2, .int a3] : List Value).toArray below meth c H locs 0 0 (MQ below (hQi D kA HB S res) ([.ref a0, .int a1, .int a2, .int a3] : List Value).toArray s 0 0 (hFree HB)) (F0 m 64 ls []) := by
          intro S13 H locs ls h hI hl
          unfold f_X12_rod_K64 at h
          refine lv_bipush (v := (-5)) hx hb dX12_rod_64 (by decide) ?_
          exact hq_iret hx hb hr hlocks h0 hI h dX12_rod_66
        have hL38 : ∀ (n38 : Nat) (x14 : Int32) (S15 : HSt) (H : Heap) (locs : List Loc) (ls : Array Slot), (f_X12_rod_L38 a1 a2 a3 f_X12_rod_K64 n38) x14 S15 = some res → hqX D kA HB S.2 S15 H locs → lv_has ls 5 [(1, .int a1), (2, .int a2), (3, .int a3), (4, .int x14)] → W p l e rm_X12_rod s m ([.ref a0, .int a1, .int a2, .int a3] : List Value).toArray below meth c H locs 0 0 (MQ below (hQi D kA HB S res) ([.ref a0, .int a1, .int a2, .int a3] : List Value).toArray s 0 0 (hFree HB)) (F0 m 38 ls []) := by
          intro n38
          induction n38 with
          | zero =>
            intro x14 S15 H locs ls h
            have h : (none : Option (Int32 × HSt)) = some res := h
            cases h
          | succ n38 ih38 =>
            intro x14 S15 H locs ls h hI hl
            have h : f_X12_rod_B38 a1 a2 a3 f_X12_rod_K64 (f_X12_rod_L38 a1 a2 a3 f_X12_rod_K64 n38) x14 S15 = some res := h
            unfold f_X12_rod_B38 at h
            refine lv_iload hx hb dX12_rod_38 (lv_at hl 3 rfl) ?_
            refine lv_bipush (v := 100) hx hb dX12_rod_40 (by decide) ?_
            refine lv_icmp_ge (tgt := 64) hx hb dX12_rod_42 (by decide) (fun c16 => ?_) (fun c16 => ?_)
            · have h := hq_t h c16
              exact hK64 S15 _ _ _ h hI (lv_sub hl [] rfl)
            · have h := hq_f h c16
              refine lv_iload_n hx hb dX12_rod_45 rfl (lv_at hl 0 rfl) ?_
              refine lv_iload hx hb dX12_rod_46 (lv_at hl 3 rfl) ?_
              refine lv_imul hx hb dX12_rod_48 ?_
              refine lv_iload_n hx hb dX12_rod_49 rfl (lv_at hl 1 rfl) ?_
              refine lv_iadd hx hb dX12_rod_50 ?_
              refine lv_iload_n hx hb dX12_rod_51 rfl (lv_at hl 2 rfl) ?_
              refine lv_icmp_le (tgt := 58) hx hb dX12_rod_52 (by decide) (fun c17 => ?_) (fun c17 => ?_)
              · have h := hq_t h c17
                refine lv_iinc (v := (x14 + 1)) (lv' := [(4, .int (x14 + 1)), (1, .int a1), (2, .int a2), (3, .int a3)]) hx hb dX12_rod_58 hl (k := 3) rfl rfl (by decide) rfl (fun ls hl => ?_)
                refine lv_goto (tgt := 38) hx hb dX12_rod_61 (by decide) ?_
                exact ih38 (x14 + 1) S15 _ _ _ h hI (lv_sub hl [1, 2, 3, 0] rfl)
              · have h := hq_f h c17
                refine lv_iload hx hb dX12_rod_55 (lv_at hl 3 rfl) ?_
                exact hq_iret hx hb hr hlocks h0 hI h dX12_rod_57
        exact hL38 FU 0 S10 _ _ _ h hI (lv_sub hl [2, 3, 4, 0] rfl)
      · have h := hq_t h c12
        refine lv_bipush (v := (-2)) hx hb dX12_rod_32 (by decide) ?_
        exact hq_iret hx hb hr hlocks h0 hI h dX12_rod_34
-- RodDipsModel.papers(III)I
theorem dX12_papers_0 : decode cX12_papers 0 = .ok (.aload_n 0, 1) := by decide +kernel
theorem dX12_papers_1 : decode cX12_papers 1 = .ok (.iload_n 1, 1) := by decide +kernel
theorem dX12_papers_2 : decode cX12_papers 2 = .ok (.invokevirtual 177, 3) := by decide +kernel
theorem dX12_papers_5 : decode cX12_papers 5 = .ok (.ifCond .eq 20, 3) := by decide +kernel
theorem dX12_papers_8 : decode cX12_papers 8 = .ok (.aload_n 0, 1) := by decide +kernel
theorem dX12_papers_9 : decode cX12_papers 9 = .ok (.iload_n 2, 1) := by decide +kernel
theorem dX12_papers_10 : decode cX12_papers 10 = .ok (.invokevirtual 177, 3) := by decide +kernel
theorem dX12_papers_13 : decode cX12_papers 13 = .ok (.ifCond .eq 12, 3) := by decide +kernel
theorem dX12_papers_16 : decode cX12_papers 16 = .ok (.iload_n 3, 1) := by decide +kernel
theorem dX12_papers_17 : decode cX12_papers 17 = .ok (.iconst 0, 1) := by decide +kernel
theorem dX12_papers_18 : decode cX12_papers 18 = .ok (.iconst 2, 1) := by decide +kernel
theorem dX12_papers_19 : decode cX12_papers 19 = .ok (.invokestatic 39, 3) := by decide +kernel
theorem dX12_papers_22 : decode cX12_papers 22 = .ok (.ifCond .ne 5, 3) := by decide +kernel
theorem dX12_papers_25 : decode cX12_papers 25 = .ok (.iconst (-1), 1) := by decide +kernel
theorem dX12_papers_26 : decode cX12_papers 26 = .ok (.ireturn, 1) := by decide +kernel
theorem dX12_papers_27 : decode cX12_papers 27 = .ok (.iload_n 3, 1) := by decide +kernel
theorem dX12_papers_28 : decode cX12_papers 28 = .ok (.iconst 2, 1) := by decide +kernel
theorem dX12_papers_29 : decode cX12_papers 29 = .ok (.if_icmp .ne 15, 3) := by decide +kernel
theorem dX12_papers_32 : decode cX12_papers 32 = .ok (.aload_n 0, 1) := by decide +kernel
theorem dX12_papers_33 : decode cX12_papers 33 = .ok (.iload_n 1, 1) := by decide +kernel
theorem dX12_papers_34 : decode cX12_papers 34 = .ok (.invokevirtual 193, 3) := by decide +kernel
theorem dX12_papers_37 : decode cX12_papers 37 = .ok (.aload_n 0, 1) := by decide +kernel
theorem dX12_papers_38 : decode cX12_papers 38 = .ok (.iload_n 2, 1) := by decide +kernel
theorem dX12_papers_39 : decode cX12_papers 39 = .ok (.invokevirtual 193, 3) := by decide +kernel
theorem dX12_papers_42 : decode cX12_papers 42 = .ok (.ixor, 1) := by decide +kernel
theorem dX12_papers_43 : decode cX12_papers 43 = .ok (.ireturn, 1) := by decide +kernel
theorem dX12_papers_44 : decode cX12_papers 44 = .ok (.aload_n 0, 1) := by decide +kernel
theorem dX12_papers_45 : decode cX12_papers 45 = .ok (.iload_n 1, 1) := by decide +kernel
theorem dX12_papers_46 : decode cX12_papers 46 = .ok (.invokevirtual 180, 3) := by decide +kernel
theorem dX12_papers_49 : decode cX12_papers 49 = .ok (.istore 4, 2) := by decide +kernel
theorem dX12_papers_51 : decode cX12_papers 51 = .ok (.aload_n 0, 1) := by decide +kernel
theorem dX12_papers_52 : decode cX12_papers 52 = .ok (.iload_n 2, 1) := by decide +kernel
theorem dX12_papers_53 : decode cX12_papers 53 = .ok (.invokevirtual 180, 3) := by decide +kernel
theorem dX12_papers_56 : decode cX12_papers 56 = .ok (.istore 5, 2) := by decide +kernel
theorem dX12_papers_58 : decode cX12_papers 58 = .ok (.iload_n 3, 1) := by decide +kernel
theorem dX12_papers_59 : decode cX12_papers 59 = .ok (.ifCond .ne 11, 3) := by decide +kernel
theorem dX12_papers_62 : decode cX12_papers 62 = .ok (.iload 4, 2) := by decide +kernel
theorem dX12_papers_64 : decode cX12_papers 64 = .ok (.iload 5, 2) := by decide +kernel
theorem dX12_papers_66 : decode cX12_papers 66 = .ok (.ixor, 1) := by decide +kernel
theorem dX12_papers_67 : decode cX12_papers 67 = .ok (.goto 42, 3) := by decide +kernel
theorem dX12_papers_70 : decode cX12_papers 70 = .ok (.aload_n 0, 1) := by decide +kernel
theorem dX12_papers_71 : decode cX12_papers 71 = .ok (.iload 4, 2) := by decide +kernel
theorem dX12_papers_73 : decode cX12_papers 73 = .ok (.iload 5, 2) := by decide +kernel
theorem dX12_papers_75 : decode cX12_papers 75 = .ok (.iand, 1) := by decide +kernel
theorem dX12_papers_76 : decode cX12_papers 76 = .ok (.aload_n 0, 1) := by decide +kernel
theorem dX12_papers_77 : decode cX12_papers 77 = .ok (.getfield 9, 3) := by decide +kernel
theorem dX12_papers_80 : decode cX12_papers 80 = .ok (.sipush 310, 3) := by decide +kernel
theorem dX12_papers_83 : decode cX12_papers 83 = .ok (.iload_n 1, 1) := by decide +kernel
theorem dX12_papers_84 : decode cX12_papers 84 = .ok (.iadd, 1) := by decide +kernel
theorem dX12_papers_85 : decode cX12_papers 85 = .ok (.iaload, 1) := by decide +kernel
theorem dX12_papers_86 : decode cX12_papers 86 = .ok (.invokevirtual 183, 3) := by decide +kernel
theorem dX12_papers_89 : decode cX12_papers 89 = .ok (.aload_n 0, 1) := by decide +kernel
theorem dX12_papers_90 : decode cX12_papers 90 = .ok (.iload 4, 2) := by decide +kernel
theorem dX12_papers_92 : decode cX12_papers 92 = .ok (.iload 5, 2) := by decide +kernel
theorem dX12_papers_94 : decode cX12_papers 94 = .ok (.iand, 1) := by decide +kernel
theorem dX12_papers_95 : decode cX12_papers 95 = .ok (.aload_n 0, 1) := by decide +kernel
theorem dX12_papers_96 : decode cX12_papers 96 = .ok (.getfield 9, 3) := by decide +kernel
theorem dX12_papers_99 : decode cX12_papers 99 = .ok (.sipush 310, 3) := by decide +kernel
theorem dX12_papers_102 : decode cX12_papers 102 = .ok (.iload_n 2, 1) := by decide +kernel
theorem dX12_papers_103 : decode cX12_papers 103 = .ok (.iadd, 1) := by decide +kernel
theorem dX12_papers_104 : decode cX12_papers 104 = .ok (.iaload, 1) := by decide +kernel
theorem dX12_papers_105 : decode cX12_papers 105 = .ok (.invokevirtual 183, 3) := by decide +kernel
theorem dX12_papers_108 : decode cX12_papers 108 = .ok (.ixor, 1) := by decide +kernel
theorem dX12_papers_109 : decode cX12_papers 109 = .ok (.ireturn, 1) := by decide +kernel
def f_X12_papers (S : HSt) (a0 : Nat) (a1 : Int32) (a2 : Int32) (a3 : Int32) : Option (Int32 × HSt) := if gC S a0 = some 12 then (bd2 (f_X12_isPlan S a0 a1) fun v4 S3 => if v4 = 0 then (some ((-1), S3)) else (if gC S3 a0 = some 12 then (bd2 (f_X12_isPlan S3 a0 a2) fun v9 S8 => if v9 = 0 then (some ((-1), S8)) else (bd2 (f_X12_in S8 a3 0 2) fun v13 S12 => if v13 = 0 then (some ((-1), S12)) else (if a3 = 2 then (if gC S12 a0 = some 12 then (bd2 (f_X12_passing S12 a0 a1) fun v44 S43 => if gC S43 a0 = some 12 then (bd2 (f_X12_passing S43 a0 a2) fun v48 S47 => some (v44 ^^^ v48, S47)) else none) else none) else (if gC S12 a0 = some 12 then (bd2 (f_X12_counted S12 a0 a1) fun v19 S18 => if gC S18 a0 = some 12 then (bd2 (f_X12_counted S18 a0 a2) fun v23 S22 => if a3 = 0 then (some (v19 ^^^ v23, S22)) else ((gR S22 a0 12 1).bind fun b25 => (aI S22 b25 0 (310 + a1)).bind fun v28 => if gC S22 a0 = some 12 then (bd2 (f_X12_hitsOf S22 a0 (v19 &&& v23) v28) fun v32 S31 => (gR S31 a0 12 1).bind fun b33 => (aI S31 b33 0 (310 + a2)).bind fun v36 => if gC S31 a0 = some 12 then (bd2 (f_X12_hitsOf S31 a0 (v19 &&& v23) v36) fun v40 S39 => some (v32 ^^^ v40, S39)) else none) else none)) else none) else none)))) else none)) else none
abbrev rm_X12_papers : Room := { frames := 7, cells := 0, slots := 0, locals := 161 }
abbrev w_X12_papers : List Cond := Cond.code yX12_papers cX12_papers 6 (Option.some FieldType.int) :: lwG
theorem yd_X12_papers : yX12_papers.cls ≠ "java/lang/invoke/MethodHandle" ∧ yX12_papers.cls ≠ "java/lang/invoke/VarHandle" ∧ (parseMethodDescriptor yX12_papers.desc).map (fun d => d.parameters.length) = some 3 := by decide +kernel
theorem ye_X12_papers : yX12_papers.cls = RX12 ∧ yX12_papers.cls ≠ "java/lang/invoke/MethodHandle" ∧ yX12_papers.cls ≠ "java/lang/invoke/VarHandle" ∧ (parseMethodDescriptor yX12_papers.desc).map (fun d => d.parameters.length) = some 3 := by decide +kernel
set_option maxHeartbeats 4000000 in
set_option maxRecDepth 100000 in
theorem c_X12_papers (l : Launch) (D : va_G) (kA ρ : Nat → Nat) (HB : Heap) (S : HSt) (a0 : Nat) (a1 : Int32) (a2 : Int32) (a3 : Int32) (res : Int32 × HSt) (h : f_X12_papers S a0 a1 a2 a3 = some res) : Met l yX12_papers w_X12_papers rm_X12_papers (hPc D kA ρ HB S [.ref a0, .int a1, .int a2, .int a3]) (hQi D kA HB S res) 0 0 (hFree HB) := by
  refine Met.ofW (cc := cX12_papers) (maxL := 6) (ret := (Option.some FieldType.int)) (by decide) rfl ?_
  intro p e s m args below meth c s₁ B hml hv
  obtain ⟨rfl, hE, h0⟩ := hv
  have hx := B.exec
  have hb := B.bytes
  have hr := B.returns
  have hts0 := atoms_spec (ws := w_X12_papers) B.pre
  have hts : ∀ w ∈ lwG, w.before _ s = true := fun w hw => hts0 w (List.mem_cons_of_mem _ hw)
  have hown : s.vm.findClass RX12 = some m.cls := findClass_of_methodNamed B.named
  have hlocks := B.notSynchronized
  have hI : hqX D kA HB S.2 S s.heap [] := ⟨h0, Nat.le_refl _, fun _ q => absurd q List.not_mem_nil⟩
  have hl := lv_entry ([.ref a0, .int a1, .int a2, .int a3]) (n := 6) (Nat.le_of_ble_eq_true rfl)
  rw [lg_entry_eq]
  generalize (lg_sl ([.ref a0, .int a1, .int a2, .int a3]) ++ List.replicate (6 - (lg_sl ([.ref a0, .int a1, .int a2, .int a3])).length) Slot.unset).toArray = ls at hl ⊢
  have hl : lv_has ls 6 [(0, .ref a0), (1, .int a1), (2, .int a2), (3, .int a3)] := hl
  unfold f_X12_papers at h
  refine lv_aload_n hx hb dX12_papers_0 rfl (lv_at hl 0 rfl) ?_
  refine lv_iload_n hx hb dX12_papers_1 rfl (lv_at hl 1 rfl) ?_
  obtain ⟨g2, h⟩ := hq_g h
  obtain ⟨v4, S3, g1, h⟩ := hq_bd2 h
  refine hq_calli hI (va_runV (As := [.int a1]) (rest := []) ⟨hx, hb, hml, hown, hts⟩ (c_X12_isPlan l D kA ρ HB S a0 a1 _ g1) (cwV 1 hts (gdIn (List.forall_mem_cons.mpr ⟨kw_1133, (List.forall_mem_cons.mpr ⟨kw_1135, (List.forall_mem_cons.mpr ⟨ks_48, (List.forall_mem_cons.mpr ⟨kw_6, (fun _ h => absurd h List.not_mem_nil)⟩)⟩)⟩)⟩) kw_1136) rfl rfl rfl ye_X12_isPlan ⟨Nat.le_of_ble_eq_true rfl, Nat.le_of_ble_eq_true rfl⟩) (hq_preC hE hI g2 rfl _) rfl rfl hl.1 rfl (lv_room (Nat.le_of_ble_eq_true rfl)) dX12_papers_2 ⟨Nat.le_of_ble_eq_true rfl, Nat.le_of_ble_eq_true rfl⟩) (fun H locs hI => ?_)
  refine lv_if_eq (tgt := 25) hx hb dX12_papers_5 (by decide) (fun c5 => ?_) (fun c5 => ?_)
  · have h := hq_t h c5
    refine lv_iconst (v := (-1)) hx hb dX12_papers_25 (by decide) ?_
    exact hq_iret hx hb hr hlocks h0 hI h dX12_papers_26
  · have h := hq_f h c5
    refine lv_aload_n hx hb dX12_papers_8 rfl (lv_at hl 0 rfl) ?_
    refine lv_iload_n hx hb dX12_papers_9 rfl (lv_at hl 2 rfl) ?_
    obtain ⟨g7, h⟩ := hq_g h
    obtain ⟨v9, S8, g6, h⟩ := hq_bd2 h
    refine hq_calli hI (va_runV (As := [.int a2]) (rest := []) ⟨hx, hb, hml, hown, hts⟩ (c_X12_isPlan l D kA ρ HB S3 a0 a2 _ g6) (cwV 1 hts (gdIn (List.forall_mem_cons.mpr ⟨kw_1133, (List.forall_mem_cons.mpr ⟨kw_1135, (List.forall_mem_cons.mpr ⟨ks_48, (List.forall_mem_cons.mpr ⟨kw_6, (fun _ h => absurd h List.not_mem_nil)⟩)⟩)⟩)⟩) kw_1136) rfl rfl rfl ye_X12_isPlan ⟨Nat.le_of_ble_eq_true rfl, Nat.le_of_ble_eq_true rfl⟩) (hq_preC hE hI g7 rfl _) rfl rfl hl.1 rfl (lv_room (Nat.le_of_ble_eq_true rfl)) dX12_papers_10 ⟨Nat.le_of_ble_eq_true rfl, Nat.le_of_ble_eq_true rfl⟩) (fun H locs hI => ?_)
    refine lv_if_eq (tgt := 25) hx hb dX12_papers_13 (by decide) (fun c10 => ?_) (fun c10 => ?_)
    · have h := hq_t h c10
      refine lv_iconst (v := (-1)) hx hb dX12_papers_25 (by decide) ?_
      exact hq_iret hx hb hr hlocks h0 hI h dX12_papers_26
    · have h := hq_f h c10
      refine lv_iload_n hx hb dX12_papers_16 rfl (lv_at hl 3 rfl) ?_
      refine lv_iconst (v := 0) hx hb dX12_papers_17 (by decide) ?_
      refine lv_iconst (v := 2) hx hb dX12_papers_18 (by decide) ?_
      obtain ⟨v13, S12, g11, h⟩ := hq_bd2 h
      refine hq_calli hI (va_runS (As := [.int a3, .int 0, .int 2]) (rest := []) ⟨hx, hb, hml, hown, hts⟩ (c_X12_in l D kA ρ HB S8 a3 0 2 _ g11) (va_cwS 3 hts (gdIn (List.forall_mem_cons.mpr ⟨kw_1010, (List.forall_mem_cons.mpr ⟨kw_1011, (List.forall_mem_cons.mpr ⟨kw_6, (fun _ h => absurd h List.not_mem_nil)⟩)⟩)⟩) kw_1012) rfl rfl rfl yd_X12_in ⟨Nat.le_of_ble_eq_true rfl, Nat.le_of_ble_eq_true rfl⟩) (hq_preS hE hI _) rfl rfl hl.1 rfl (lv_room (Nat.le_of_ble_eq_true rfl)) dX12_papers_19 ⟨Nat.le_of_ble_eq_true rfl, Nat.le_of_ble_eq_true rfl⟩) (fun H locs hI => ?_)
      refine lv_if_ne (tgt := 27) hx hb dX12_papers_22 (by decide) (fun c14 => ?_) (fun c14 => ?_)
      · have h := hq_f h c14
        refine lv_iload_n hx hb dX12_papers_27 rfl (lv_at hl 3 rfl) ?_
        refine lv_iconst (v := 2) hx hb dX12_papers_28 (by decide) ?_
        refine lv_icmp_ne (tgt := 44) hx hb dX12_papers_29 (by decide) (fun c15 => ?_) (fun c15 => ?_)
        · have h := hq_f h c15
          refine lv_aload_n hx hb dX12_papers_44 rfl (lv_at hl 0 rfl) ?_
          refine lv_iload_n hx hb dX12_papers_45 rfl (lv_at hl 1 rfl) ?_
          obtain ⟨g17, h⟩ := hq_g h
          obtain ⟨v19, S18, g16, h⟩ := hq_bd2 h
          refine hq_calli hI (va_runV (As := [.int a1]) (rest := []) ⟨hx, hb, hml, hown, hts⟩ (c_X12_counted l D kA ρ HB S12 a0 a1 _ g16) (cwV 1 hts (gdIn (List.forall_mem_cons.mpr ⟨kw_1137, (List.forall_mem_cons.mpr ⟨kw_1139, (List.forall_mem_cons.mpr ⟨ks_49, (List.forall_mem_cons.mpr ⟨kw_6, (fun _ h => absurd h List.not_mem_nil)⟩)⟩)⟩)⟩) kw_1140) rfl rfl rfl ye_X12_counted ⟨Nat.le_of_ble_eq_true rfl, Nat.le_of_ble_eq_true rfl⟩) (hq_preC hE hI g17 rfl _) rfl rfl hl.1 rfl (lv_room (Nat.le_of_ble_eq_true rfl)) dX12_papers_46 ⟨Nat.le_of_ble_eq_true rfl, Nat.le_of_ble_eq_true rfl⟩) (fun H locs hI => ?_)
          refine lv_istore (lv' := [(4, .int v19), (0, .ref a0), (1, .int a1), (2, .int a2), (3, .int a3)]) hx hb dX12_papers_49 hl (by decide) rfl (fun ls hl => ?_)
          refine lv_aload_n hx hb dX12_papers_51 rfl (lv_at hl 1 rfl) ?_
          refine lv_iload_n hx hb dX12_papers_52 rfl (lv_at hl 3 rfl) ?_
          obtain ⟨g21, h⟩ := hq_g h
          obtain ⟨v23, S22, g20, h⟩ := hq_bd2 h
          refine hq_calli hI (va_runV (As := [.int a2]) (rest := []) ⟨hx, hb, hml, hown, hts⟩ (c_X12_counted l D kA ρ HB S18 a0 a2 _ g20) (cwV 1 hts (gdIn (List.forall_mem_cons.mpr ⟨kw_1137, (List.forall_mem_cons.mpr ⟨kw_1139, (List.forall_mem_cons.mpr ⟨ks_49, (List.forall_mem_cons.mpr ⟨kw_6, (fun _ h => absurd h List.not_mem_nil)⟩)⟩)⟩)⟩) kw_1140) rfl rfl rfl ye_X12_counted ⟨Nat.le_of_ble_eq_true rfl, Nat.le_of_ble_eq_true rfl⟩) (hq_preC hE hI g21 rfl _) rfl rfl hl.1 rfl (lv_room (Nat.le_of_ble_eq_true rfl)) dX12_papers_53 ⟨Nat.le_of_ble_eq_true rfl, Nat.le_of_ble_eq_true rfl⟩) (fun H locs hI => ?_)
          refine lv_istore (lv' := [(5, .int v23), (4, .int v19), (0, .ref a0), (1, .int a1), (2, .int a2), (3, .int a3)]) hx hb dX12_papers_56 hl (by decide) rfl (fun ls hl => ?_)
          refine lv_iload_n hx hb dX12_papers_58 rfl (lv_at hl 5 rfl) ?_
          refine lv_if_ne (tgt := 70) hx hb dX12_papers_59 (by decide) (fun c24 => ?_) (fun c24 => ?_)
          · have h := hq_f h c24
            refine lv_aload_n hx hb dX12_papers_70 rfl (lv_at hl 2 rfl) ?_
            refine lv_iload hx hb dX12_papers_71 (lv_at hl 1 rfl) ?_
            refine lv_iload hx hb dX12_papers_73 (lv_at hl 0 rfl) ?_
            refine lv_iand hx hb dX12_papers_75 ?_
            refine lv_aload_n hx hb dX12_papers_76 rfl (lv_at hl 2 rfl) ?_
            obtain ⟨b25, g26, h⟩ := hq_bind h
            obtain ⟨fs_g26, hs_g26, hv_g26⟩ := gR_at g26
            refine hq_get hx hb hts hown hE hI hs_g26 inG12 rfl 1 (by decide) kw_945 hv_g26 dX12_papers_77 ?_
            refine lv_sipush (v := 310) hx hb dX12_papers_80 (by decide) ?_
            refine lv_iload_n hx hb dX12_papers_83 rfl (lv_at hl 3 rfl) ?_
            refine lv_iadd hx hb dX12_papers_84 ?_
            obtain ⟨v28, g27, h⟩ := hq_bind h
            refine hq_iald hx hb hE hI g27 dX12_papers_85 ?_
            obtain ⟨g30, h⟩ := hq_g h
            obtain ⟨v32, S31, g29, h⟩ := hq_bd2 h
            refine hq_calli hI (va_runV (As := [.int (v19 &&& v23), .int v28]) (rest := []) ⟨hx, hb, hml, hown, hts⟩ (c_X12_hitsOf l D kA ρ HB S22 a0 (v19 &&& v23) v28 _ g29) (cwV 2 hts (gdIn (List.forall_mem_cons.mpr ⟨kw_1157, (List.forall_mem_cons.mpr ⟨kw_1159, (List.forall_mem_cons.mpr ⟨ks_54, (List.forall_mem_cons.mpr ⟨kw_6, (fun _ h => absurd h List.not_mem_nil)⟩)⟩)⟩)⟩) kw_1160) rfl rfl rfl ye_X12_hitsOf ⟨Nat.le_of_ble_eq_true rfl, Nat.le_of_ble_eq_true rfl⟩) (hq_preC hE hI g30 rfl _) rfl rfl hl.1 rfl (lv_room (Nat.le_of_ble_eq_true rfl)) dX12_papers_86 ⟨Nat.le_of_ble_eq_true rfl, Nat.le_of_ble_eq_true rfl⟩) (fun H locs hI => ?_)
            refine lv_aload_n hx hb dX12_papers_89 rfl (lv_at hl 2 rfl) ?_
            refine lv_iload hx hb dX12_papers_90 (lv_at hl 1 rfl) ?_
            refine lv_iload hx hb dX12_papers_92 (lv_at hl 0 rfl) ?_
            refine lv_iand hx hb dX12_papers_94 ?_
            refine lv_aload_n hx hb dX12_papers_95 rfl (lv_at hl 2 rfl) ?_
            obtain ⟨b33, g34, h⟩ := hq_bind h
            obtain ⟨fs_g34, hs_g34, hv_g34⟩ := gR_at g34
            refine hq_get hx hb hts hown hE hI hs_g34 inG12 rfl 1 (by decide) kw_945 hv_g34 dX12_papers_96 ?_
            refine lv_sipush (v := 310) hx hb dX12_papers_99 (by decide) ?_
            refine lv_iload_n hx hb dX12_papers_102 rfl (lv_at hl 4 rfl) ?_
            refine lv_iadd hx hb dX12_papers_103 ?_
            obtain ⟨v36, g35, h⟩ := hq_bind h
            refine hq_iald hx hb hE hI g35 dX12_papers_104 ?_
            obtain ⟨g38, h⟩ := hq_g h
            obtain ⟨v40, S39, g37, h⟩ := hq_bd2 h
            refine hq_calli hI (va_runV (As := [.int (v19 &&& v23), .int v36]) (rest := [.int v32]) ⟨hx, hb, hml, hown, hts⟩ (c_X12_hitsOf l D kA ρ HB S31 a0 (v19 &&& v23) v36 _ g37) (cwV 2 hts (gdIn (List.forall_mem_cons.mpr ⟨kw_1157, (List.forall_mem_cons.mpr ⟨kw_1159, (List.forall_mem_cons.mpr ⟨ks_54, (List.forall_mem_cons.mpr ⟨kw_6, (fun _ h => absurd h List.not_mem_nil)⟩)⟩)⟩)⟩) kw_1160) rfl rfl rfl ye_X12_hitsOf ⟨Nat.le_of_ble_eq_true rfl, Nat.le_of_ble_eq_true rfl⟩) (hq_preC hE hI g38 rfl _) rfl rfl hl.1 rfl (lv_room (Nat.le_of_ble_eq_true rfl)) dX12_papers_105 ⟨Nat.le_of_ble_eq_true rfl, Nat.le_of_ble_eq_true rfl⟩) (fun H locs hI => ?_)
            refine lv_ixor hx hb dX12_papers_108 ?_
            exact hq_iret hx hb hr hlocks h0 hI h dX12_papers_109
          · have h := hq_t h c24
            refine lv_iload hx hb dX12_papers_62 (lv_at hl 1 rfl) ?_
            refine lv_iload hx hb dX12_papers_64 (lv_at hl 0 rfl) ?_
            refine lv_ixor hx hb dX12_papers_66 ?_
            refine lv_goto (tgt := 109) hx hb dX12_papers_67 (by decide) ?_
            exact hq_iret hx hb hr hlocks h0 hI h dX12_papers_109
        · have h := hq_t h c15
          refine lv_aload_n hx hb dX12_papers_32 rfl (lv_at hl 0 rfl) ?_
          refine lv_iload_n hx hb dX12_papers_33 rfl (lv_at hl 1 rfl) ?_
          obtain ⟨g42, h⟩ := hq_g h
          obtain ⟨v44, S43, g41, h⟩ := hq_bd2 h
          refine hq_calli hI (va_runV (As := [.int a1]) (rest := []) ⟨hx, hb, hml, hown, hts⟩ (c_X12_passing l D kA ρ HB S12 a0 a1 _ g41) (cwV 1 hts (gdIn (List.forall_mem_cons.mpr ⟨kw_1165, (List.forall_mem_cons.mpr ⟨kw_1167, (List.forall_mem_cons.mpr ⟨ks_55, (List.forall_mem_cons.mpr ⟨kw_6, (fun _ h => absurd h List.not_mem_nil)⟩)⟩)⟩)⟩) kw_1168) rfl rfl rfl ye_X12_passing ⟨Nat.le_of_ble_eq_true rfl, Nat.le_of_ble_eq_true rfl⟩) (hq_preC hE hI g42 rfl _) rfl rfl hl.1 rfl (lv_room (Nat.le_of_ble_eq_true rfl)) dX12_papers_34 ⟨Nat.le_of_ble_eq_true rfl, Nat.le_of_ble_eq_true rfl⟩) (fun H locs hI => ?_)
          refine lv_aload_n hx hb dX12_papers_37 rfl (lv_at hl 0 rfl) ?_
          refine lv_iload_n hx hb dX12_papers_38 rfl (lv_at hl 2 rfl) ?_
          obtain ⟨g46, h⟩ := hq_g h
          obtain ⟨v48, S47, g45, h⟩ := hq_bd2 h
          refine hq_calli hI (va_runV (As := [.int a2]) (rest := [.int v44]) ⟨hx, hb, hml, hown, hts⟩ (c_X12_passing l D kA ρ HB S43 a0 a2 _ g45) (cwV 1 hts (gdIn (List.forall_mem_cons.mpr ⟨kw_1165, (List.forall_mem_cons.mpr ⟨kw_1167, (List.forall_mem_cons.mpr ⟨ks_55, (List.forall_mem_cons.mpr ⟨kw_6, (fun _ h => absurd h List.not_mem_nil)⟩)⟩)⟩)⟩) kw_1168) rfl rfl rfl ye_X12_passing ⟨Nat.le_of_ble_eq_true rfl, Nat.le_of_ble_eq_true rfl⟩) (hq_preC hE hI g46 rfl _) rfl rfl hl.1 rfl (lv_room (Nat.le_of_ble_eq_true rfl)) dX12_papers_39 ⟨Nat.le_of_ble_eq_true rfl, Nat.le_of_ble_eq_true rfl⟩) (fun H locs hI => ?_)
          refine lv_ixor hx hb dX12_papers_42 ?_
          exact hq_iret hx hb hr hlocks h0 hI h dX12_papers_43
      · have h := hq_t h c14
        refine lv_iconst (v := (-1)) hx hb dX12_papers_25 (by decide) ?_
        exact hq_iret hx hb hr hlocks h0 hI h dX12_papers_26
-- RodDipsModel.runs(I)V
theorem dX12_runs_0 : decode cX12_runs 0 = .ok (.aload_n 0, 1) := by decide +kernel
theorem dX12_runs_1 : decode cX12_runs 1 = .ok (.getfield 264, 3) := by decide +kernel
theorem dX12_runs_4 : decode cX12_runs 4 = .ok (.bipush 20, 2) := by decide +kernel
theorem dX12_runs_6 : decode cX12_runs 6 = .ok (.if_icmp .ge 13, 3) := by decide +kernel
theorem dX12_runs_9 : decode cX12_runs 9 = .ok (.aload_n 0, 1) := by decide +kernel
theorem dX12_runs_10 : decode cX12_runs 10 = .ok (.getfield 32, 3) := by decide +kernel
theorem dX12_runs_13 : decode cX12_runs 13 = .ok (.aload_n 0, 1) := by decide +kernel
theorem dX12_runs_14 : decode cX12_runs 14 = .ok (.getfield 264, 3) := by decide +kernel
theorem dX12_runs_17 : decode cX12_runs 17 = .ok (.iload_n 1, 1) := by decide +kernel
theorem dX12_runs_18 : decode cX12_runs 18 = .ok (.iastore, 1) := by decide +kernel
theorem dX12_runs_19 : decode cX12_runs 19 = .ok (.aload_n 0, 1) := by decide +kernel
theorem dX12_runs_20 : decode cX12_runs 20 = .ok (.dup, 1) := by decide +kernel
theorem dX12_runs_21 : decode cX12_runs 21 = .ok (.getfield 264, 3) := by decide +kernel
theorem dX12_runs_24 : decode cX12_runs 24 = .ok (.iconst 1, 1) := by decide +kernel
theorem dX12_runs_25 : decode cX12_runs 25 = .ok (.iadd, 1) := by decide +kernel
theorem dX12_runs_26 : decode cX12_runs 26 = .ok (.putfield 264, 3) := by decide +kernel
theorem dX12_runs_29 : decode cX12_runs 29 = .ok (.return_, 1) := by decide +kernel
def f_X12_runs (S : HSt) (a0 : Nat) (a1 : Int32) : Option (HSt) := (gI S a0 12 16).bind fun v1 => if 20 ≤ v1 then ((gI S a0 12 16).bind fun v4 => (pV S a0 12 16 (.int (v4 + 1))).bind fun S6 => some S6) else ((gR S a0 12 15).bind fun b8 => (gI S a0 12 16).bind fun v10 => (sI S b8 0 v10 a1).bind fun S13 => (gI S13 a0 12 16).bind fun v14 => (pV S13 a0 12 16 (.int (v14 + 1))).bind fun S16 => some S16)
abbrev rm_X12_runs : Room := { frames := 0, cells := 0, slots := 0, locals := 0 }
abbrev w_X12_runs : List Cond := Cond.code yX12_runs cX12_runs 2 none :: lwG
theorem yd_X12_runs : yX12_runs.cls ≠ "java/lang/invoke/MethodHandle" ∧ yX12_runs.cls ≠ "java/lang/invoke/VarHandle" ∧ (parseMethodDescriptor yX12_runs.desc).map (fun d => d.parameters.length) = some 1 := by decide +kernel
theorem ye_X12_runs : yX12_runs.cls = RX12 ∧ yX12_runs.cls ≠ "java/lang/invoke/MethodHandle" ∧ yX12_runs.cls ≠ "java/lang/invoke/VarHandle" ∧ (parseMethodDescriptor yX12_runs.desc).map (fun d => d.parameters.length) = some 1 := by decide +kernel
set_option maxHeartbeats 4000000 in
set_option maxRecDepth 100000 in
theorem c_X12_runs (l : Launch) (D : va_G) (kA ρ : Nat → Nat) (HB : Heap) (S : HSt) (a0 : Nat) (a1 : Int32) (res : HSt) (h : f_X12_runs S a0 a1 = some res) : Met l yX12_runs w_X12_runs rm_X12_runs (hPc D kA ρ HB S [.ref a0, .int a1]) (hQv D kA HB S res) 0 0 (hFree HB) := by
  refine Met.ofW (cc := cX12_runs) (maxL := 2) (ret := none) (by decide) rfl ?_
  intro p e s m args below meth c s₁ B hml hv
  obtain ⟨rfl, hE, h0⟩ := hv
  have hx := B.exec
  have hb := B.bytes
  have hr := B.returns
  have hts0 := atoms_spec (ws := w_X12_runs) B.pre
  have hts : ∀ w ∈ lwG, w.before _ s = true := fun w hw => hts0 w (List.mem_cons_of_mem _ hw)
  have hown : s.vm.findClass RX12 = some m.cls := findClass_of_methodNamed B.named
  have hlocks := B.notSynchronized
  have hI : hqX D kA HB S.2 S s.heap [] := ⟨h0, Nat.le_refl _, fun _ q => absurd q List.not_mem_nil⟩
  have hl := lv_entry ([.ref a0, .int a1]) (n := 2) (Nat.le_of_ble_eq_true rfl)
  rw [lg_entry_eq]
  generalize (lg_sl ([.ref a0, .int a1]) ++ List.replicate (2 - (lg_sl ([.ref a0, .int a1])).length) Slot.unset).toArray = ls at hl ⊢
  have hl : lv_has ls 2 [(0, .ref a0), (1, .int a1)] := hl
  unfold f_X12_runs at h
  refine lv_aload_n hx hb dX12_runs_0 rfl (lv_at hl 0 rfl) ?_
  obtain ⟨v1, g2, h⟩ := hq_bind h
  obtain ⟨fs_g2, hs_g2, hv_g2⟩ := gI_at g2
  refine hq_get hx hb hts hown hE hI hs_g2 inG12 rfl 16 (by decide) kw_960 hv_g2 dX12_runs_1 ?_
  refine lv_bipush (v := 20) hx hb dX12_runs_4 (by decide) ?_
  refine lv_icmp_ge (tgt := 19) hx hb dX12_runs_6 (by decide) (fun c3 => ?_) (fun c3 => ?_)
  · have h := hq_t h c3
    refine lv_aload_n hx hb dX12_runs_19 rfl (lv_at hl 0 rfl) ?_
    refine lv_dup hx hb dX12_runs_20 rfl ?_
    obtain ⟨v4, g5, h⟩ := hq_bind h
    obtain ⟨fs_g5, hs_g5, hv_g5⟩ := gI_at g5
    refine hq_get hx hb hts hown hE hI hs_g5 inG12 rfl 16 (by decide) kw_960 hv_g5 dX12_runs_21 ?_
    refine lv_iconst (v := 1) hx hb dX12_runs_24 (by decide) ?_
    refine lv_iadd hx hb dX12_runs_25 ?_
    obtain ⟨S6, g7, h⟩ := hq_bind h
    obtain ⟨fs_g7, hs_g7, hl_g7, e_g7⟩ := pV_at g7
    refine hq_put hx hb hts hown hE hI hs_g7 inG12 tyX12 tyX12_ok nmX12 rfl 16 (by decide) kw_960 rfl (v := .int (v4 + 1)) rfl rfl rfl hl_g7 e_g7 dX12_runs_26 (fun H locs hI => ?_)
    exact hq_vret hx hb hr hlocks h0 hI h dX12_runs_29
  · have h := hq_f h c3
    refine lv_aload_n hx hb dX12_runs_9 rfl (lv_at hl 0 rfl) ?_
    obtain ⟨b8, g9, h⟩ := hq_bind h
    obtain ⟨fs_g9, hs_g9, hv_g9⟩ := gR_at g9
    refine hq_get hx hb hts hown hE hI hs_g9 inG12 rfl 15 (by decide) kw_959 hv_g9 dX12_runs_10 ?_
    refine lv_aload_n hx hb dX12_runs_13 rfl (lv_at hl 0 rfl) ?_
    obtain ⟨v10, g11, h⟩ := hq_bind h
    obtain ⟨fs_g11, hs_g11, hv_g11⟩ := gI_at g11
    refine hq_get hx hb hts hown hE hI hs_g11 inG12 rfl 16 (by decide) kw_960 hv_g11 dX12_runs_14 ?_
    refine lv_iload_n hx hb dX12_runs_17 rfl (lv_at hl 1 rfl) ?_
    obtain ⟨S13, g12, h⟩ := hq_bind h
    refine hq_iast hx hb hE hI g12 dX12_runs_18 (fun H locs hI => ?_)
    refine lv_aload_n hx hb dX12_runs_19 rfl (lv_at hl 0 rfl) ?_
    refine lv_dup hx hb dX12_runs_20 rfl ?_
    obtain ⟨v14, g15, h⟩ := hq_bind h
    obtain ⟨fs_g15, hs_g15, hv_g15⟩ := gI_at g15
    refine hq_get hx hb hts hown hE hI hs_g15 inG12 rfl 16 (by decide) kw_960 hv_g15 dX12_runs_21 ?_
    refine lv_iconst (v := 1) hx hb dX12_runs_24 (by decide) ?_
    refine lv_iadd hx hb dX12_runs_25 ?_
    obtain ⟨S16, g17, h⟩ := hq_bind h
    obtain ⟨fs_g17, hs_g17, hl_g17, e_g17⟩ := pV_at g17
    refine hq_put hx hb hts hown hE hI hs_g17 inG12 tyX12 tyX12_ok nmX12 rfl 16 (by decide) kw_960 rfl (v := .int (v14 + 1)) rfl rfl rfl hl_g17 e_g17 dX12_runs_26 (fun H locs hI => ?_)
    exact hq_vret hx hb hr hlocks h0 hI h dX12_runs_29
-- RodDipsModel.isUnder(II)Z
theorem dX12_isUnder_0 : decode cX12_isUnder 0 = .ok (.iload_n 1, 1) := by decide +kernel
theorem dX12_isUnder_1 : decode cX12_isUnder 1 = .ok (.ifCond .eq 34, 3) := by decide +kernel
theorem dX12_isUnder_4 : decode cX12_isUnder 4 = .ok (.iload_n 1, 1) := by decide +kernel
theorem dX12_isUnder_5 : decode cX12_isUnder 5 = .ok (.iload_n 0, 1) := by decide +kernel
theorem dX12_isUnder_6 : decode cX12_isUnder 6 = .ok (.if_icmp .eq 29, 3) := by decide +kernel
theorem dX12_isUnder_9 : decode cX12_isUnder 9 = .ok (.iload_n 1, 1) := by decide +kernel
theorem dX12_isUnder_10 : decode cX12_isUnder 10 = .ok (.iconst 2, 1) := by decide +kernel
theorem dX12_isUnder_11 : decode cX12_isUnder 11 = .ok (.if_icmp .ne 13, 3) := by decide +kernel
theorem dX12_isUnder_14 : decode cX12_isUnder 14 = .ok (.iload_n 0, 1) := by decide +kernel
theorem dX12_isUnder_15 : decode cX12_isUnder 15 = .ok (.iconst 4, 1) := by decide +kernel
theorem dX12_isUnder_16 : decode cX12_isUnder 16 = .ok (.if_icmp .eq 19, 3) := by decide +kernel
theorem dX12_isUnder_19 : decode cX12_isUnder 19 = .ok (.iload_n 0, 1) := by decide +kernel
theorem dX12_isUnder_20 : decode cX12_isUnder 20 = .ok (.iconst 5, 1) := by decide +kernel
theorem dX12_isUnder_21 : decode cX12_isUnder 21 = .ok (.if_icmp .eq 14, 3) := by decide +kernel
theorem dX12_isUnder_24 : decode cX12_isUnder 24 = .ok (.iload_n 1, 1) := by decide +kernel
theorem dX12_isUnder_25 : decode cX12_isUnder 25 = .ok (.iconst 3, 1) := by decide +kernel
theorem dX12_isUnder_26 : decode cX12_isUnder 26 = .ok (.if_icmp .ne 13, 3) := by decide +kernel
theorem dX12_isUnder_29 : decode cX12_isUnder 29 = .ok (.iload_n 0, 1) := by decide +kernel
theorem dX12_isUnder_30 : decode cX12_isUnder 30 = .ok (.bipush 6, 2) := by decide +kernel
theorem dX12_isUnder_32 : decode cX12_isUnder 32 = .ok (.if_icmp .ne 7, 3) := by decide +kernel
theorem dX12_isUnder_35 : decode cX12_isUnder 35 = .ok (.iconst 1, 1) := by decide +kernel
theorem dX12_isUnder_36 : decode cX12_isUnder 36 = .ok (.goto 4, 3) := by decide +kernel
theorem dX12_isUnder_39 : decode cX12_isUnder 39 = .ok (.iconst 0, 1) := by decide +kernel
theorem dX12_isUnder_40 : decode cX12_isUnder 40 = .ok (.ireturn, 1) := by decide +kernel
def f_X12_isUnder_J24 (a0 : Int32) (a1 : Int32) (S3 : HSt) : Option (Int32 × HSt) := if a1 = 3 then (if a0 = 6 then (some (1, S3)) else (some (0, S3))) else (some (0, S3))
def f_X12_isUnder (S : HSt) (a0 : Int32) (a1 : Int32) : Option (Int32 × HSt) := if a1 = 0 then (some (1, S)) else (if a1 = a0 then (some (1, S)) else (if a1 = 2 then (if a0 = 4 then (some (1, S)) else (if a0 = 5 then (some (1, S)) else ((f_X12_isUnder_J24 a0 a1) S))) else ((f_X12_isUnder_J24 a0 a1) S)))
abbrev rm_X12_isUnder : Room := { frames := 0, cells := 0, slots := 0, locals := 0 }
abbrev w_X12_isUnder : List Cond := Cond.code yX12_isUnder cX12_isUnder 2 (Option.some FieldType.boolean) :: lwG
theorem yd_X12_isUnder : yX12_isUnder.cls ≠ "java/lang/invoke/MethodHandle" ∧ yX12_isUnder.cls ≠ "java/lang/invoke/VarHandle" ∧ (parseMethodDescriptor yX12_isUnder.desc).map (fun d => d.parameters.length) = some 2 := by decide +kernel
set_option maxHeartbeats 4000000 in
set_option maxRecDepth 100000 in
theorem c_X12_isUnder (l : Launch) (D : va_G) (kA ρ : Nat → Nat) (HB : Heap) (S : HSt) (a0 : Int32) (a1 : Int32) (res : Int32 × HSt) (h : f_X12_isUnder S a0 a1 = some res) : Met l yX12_isUnder w_X12_isUnder rm_X12_isUnder (hPc D kA ρ HB S [.int a0, .int a1]) (hQi D kA HB S res) 0 0 (hFree HB) := by
  refine Met.ofW (cc := cX12_isUnder) (maxL := 2) (ret := (Option.some FieldType.boolean)) (by decide) rfl ?_
  intro p e s m args below meth c s₁ B hml hv
  obtain ⟨rfl, hE, h0⟩ := hv
  have hx := B.exec
  have hb := B.bytes
  have hr := B.returns
  have hts0 := atoms_spec (ws := w_X12_isUnder) B.pre
  have hts : ∀ w ∈ lwG, w.before _ s = true := fun w hw => hts0 w (List.mem_cons_of_mem _ hw)
  have hown : s.vm.findClass RX12 = some m.cls := findClass_of_methodNamed B.named
  have hlocks := B.notSynchronized
  have hI : hqX D kA HB S.2 S s.heap [] := ⟨h0, Nat.le_refl _, fun _ q => absurd q List.not_mem_nil⟩
  have hl := lv_entry ([.int a0, .int a1]) (n := 2) (Nat.le_of_ble_eq_true rfl)
  rw [lg_entry_eq]
  generalize (lg_sl ([.int a0, .int a1]) ++ List.replicate (2 - (lg_sl ([.int a0, .int a1])).length) Slot.unset).toArray = ls at hl ⊢
  have hl : lv_has ls 2 [(0, .int a0), (1, .int a1)] := hl
  unfold f_X12_isUnder at h
  refine lv_iload_n hx hb dX12_isUnder_0 rfl (lv_at hl 1 rfl) ?_
  refine lv_if_eq (tgt := 35) hx hb dX12_isUnder_1 (by decide) (fun c1 => ?_) (fun c1 => ?_)
  · have h := hq_t h c1
    refine lv_iconst (v := 1) hx hb dX12_isUnder_35 (by decide) ?_
    refine lv_goto (tgt := 40) hx hb dX12_isUnder_36 (by decide) ?_
    exact hq_zret hx hb hr hlocks h0 hI (by decide) h dX12_isUnder_40
  · have h := hq_f h c1
    refine lv_iload_n hx hb dX12_isUnder_4 rfl (lv_at hl 1 rfl) ?_
    refine lv_iload_n hx hb dX12_isUnder_5 rfl (lv_at hl 0 rfl) ?_
    refine lv_icmp_eq (tgt := 35) hx hb dX12_isUnder_6 (by decide) (fun c2 => ?_) (fun c2 => ?_)
    · have h := hq_t h c2
      refine lv_iconst (v := 1) hx hb dX12_isUnder_35 (by decide) ?_
      refine lv_goto (tgt := 40) hx hb dX12_isUnder_36 (by decide) ?_
      exact hq_zret hx hb hr hlocks h0 hI (by decide) h dX12_isUnder_40
    · have h := hq_f h c2
      refine lv_iload_n hx hb dX12_isUnder_9 rfl (lv_at hl 1 rfl) ?_
      refine lv_iconst (v := 2) hx hb dX12_isUnder_10 (by decide) ?_
      have hJ24 : ∀ (S3 : HSt) (H : Heap) (locs : List Loc) (ls : Array Slot), (f_X12_isUnder_J24 a0 a1) S3 = some res → hqX D kA HB S.2 S3 H locs → lv_has ls 2 [(0, .int a0), (1, .int a1)] → W p l e rm_X12_isUnder s m ([.int a0, .int a1] : List Value).toArray below meth c H locs 0 0 (MQ below (hQi D kA HB S res) ([.int a0, .int a1] : List Value).toArray s 0 0 (hFree HB)) (F0 m 24 ls []) := by
        intro S3 H locs ls h hI hl
        unfold f_X12_isUnder_J24 at h
        refine lv_iload_n hx hb dX12_isUnder_24 rfl (lv_at hl 1 rfl) ?_
        refine lv_iconst (v := 3) hx hb dX12_isUnder_25 (by decide) ?_
        refine lv_icmp_ne (tgt := 39) hx hb dX12_isUnder_26 (by decide) (fun c4 => ?_) (fun c4 => ?_)
        · have h := hq_f h c4
          refine lv_iconst (v := 0) hx hb dX12_isUnder_39 (by decide) ?_
          exact hq_zret hx hb hr hlocks h0 hI (by decide) h dX12_isUnder_40
        · have h := hq_t h c4
          refine lv_iload_n hx hb dX12_isUnder_29 rfl (lv_at hl 0 rfl) ?_
          refine lv_bipush (v := 6) hx hb dX12_isUnder_30 (by decide) ?_
          refine lv_icmp_ne (tgt := 39) hx hb dX12_isUnder_32 (by decide) (fun c5 => ?_) (fun c5 => ?_)
          · have h := hq_f h c5
            refine lv_iconst (v := 0) hx hb dX12_isUnder_39 (by decide) ?_
            exact hq_zret hx hb hr hlocks h0 hI (by decide) h dX12_isUnder_40
          · have h := hq_t h c5
            refine lv_iconst (v := 1) hx hb dX12_isUnder_35 (by decide) ?_
            refine lv_goto (tgt := 40) hx hb dX12_isUnder_36 (by decide) ?_
            exact hq_zret hx hb hr hlocks h0 hI (by decide) h dX12_isUnder_40
      refine lv_icmp_ne (tgt := 24) hx hb dX12_isUnder_11 (by decide) (fun c6 => ?_) (fun c6 => ?_)
      · have h := hq_f h c6
        exact hJ24 S _ _ _ h hI (lv_sub hl [0, 1] rfl)
      · have h := hq_t h c6
        refine lv_iload_n hx hb dX12_isUnder_14 rfl (lv_at hl 0 rfl) ?_
        refine lv_iconst (v := 4) hx hb dX12_isUnder_15 (by decide) ?_
        refine lv_icmp_eq (tgt := 35) hx hb dX12_isUnder_16 (by decide) (fun c7 => ?_) (fun c7 => ?_)
        · have h := hq_t h c7
          refine lv_iconst (v := 1) hx hb dX12_isUnder_35 (by decide) ?_
          refine lv_goto (tgt := 40) hx hb dX12_isUnder_36 (by decide) ?_
          exact hq_zret hx hb hr hlocks h0 hI (by decide) h dX12_isUnder_40
        · have h := hq_f h c7
          refine lv_iload_n hx hb dX12_isUnder_19 rfl (lv_at hl 0 rfl) ?_
          refine lv_iconst (v := 5) hx hb dX12_isUnder_20 (by decide) ?_
          refine lv_icmp_eq (tgt := 35) hx hb dX12_isUnder_21 (by decide) (fun c8 => ?_) (fun c8 => ?_)
          · have h := hq_t h c8
            refine lv_iconst (v := 1) hx hb dX12_isUnder_35 (by decide) ?_
            refine lv_goto (tgt := 40) hx hb dX12_isUnder_36 (by decide) ?_
            exact hq_zret hx hb hr hlocks h0 hI (by decide) h dX12_isUnder_40
          · have h := hq_f h c8
            exact hJ24 S _ _ _ h hI (lv_sub hl [0, 1] rfl)
-- RodDipsModel.plainSays(I)I
theorem dX12_plainSays_0 : decode cX12_plainSays 0 = .ok (.aload_n 0, 1) := by decide +kernel
theorem dX12_plainSays_1 : decode cX12_plainSays 1 = .ok (.iconst 1, 1) := by decide +kernel
theorem dX12_plainSays_2 : decode cX12_plainSays 2 = .ok (.invokevirtual 267, 3) := by decide +kernel
theorem dX12_plainSays_5 : decode cX12_plainSays 5 = .ok (.iload_n 1, 1) := by decide +kernel
theorem dX12_plainSays_6 : decode cX12_plainSays 6 = .ok (.aload_n 0, 1) := by decide +kernel
theorem dX12_plainSays_7 : decode cX12_plainSays 7 = .ok (.getfield 270, 3) := by decide +kernel
theorem dX12_plainSays_10 : decode cX12_plainSays 10 = .ok (.iadd, 1) := by decide +kernel
theorem dX12_plainSays_11 : decode cX12_plainSays 11 = .ok (.ireturn, 1) := by decide +kernel
def f_X12_plainSays (S : HSt) (a0 : Nat) (a1 : Int32) : Option (Int32 × HSt) := if gC S a0 = some 12 then ((f_X12_runs S a0 1).bind fun S3 => (gI S3 a0 12 18).bind fun v4 => some (a1 + v4, S3)) else none
abbrev rm_X12_plainSays : Room := { frames := 1, cells := 0, slots := 0, locals := 21 }
abbrev w_X12_plainSays : List Cond := Cond.code yX12_plainSays cX12_plainSays 2 (Option.some FieldType.int) :: lwG
theorem yd_X12_plainSays : yX12_plainSays.cls ≠ "java/lang/invoke/MethodHandle" ∧ yX12_plainSays.cls ≠ "java/lang/invoke/VarHandle" ∧ (parseMethodDescriptor yX12_plainSays.desc).map (fun d => d.parameters.length) = some 1 := by decide +kernel
theorem ye_X12_plainSays : yX12_plainSays.cls = RX12 ∧ yX12_plainSays.cls ≠ "java/lang/invoke/MethodHandle" ∧ yX12_plainSays.cls ≠ "java/lang/invoke/VarHandle" ∧ (parseMethodDescriptor yX12_plainSays.desc).map (fun d => d.parameters.length) = some 1 := by decide +kernel
set_option maxHeartbeats 4000000 in
set_option maxRecDepth 100000 in
theorem c_X12_plainSays (l : Launch) (D : va_G) (kA ρ : Nat → Nat) (HB : Heap) (S : HSt) (a0 : Nat) (a1 : Int32) (res : Int32 × HSt) (h : f_X12_plainSays S a0 a1 = some res) : Met l yX12_plainSays w_X12_plainSays rm_X12_plainSays (hPc D kA ρ HB S [.ref a0, .int a1]) (hQi D kA HB S res) 0 0 (hFree HB) := by
  refine Met.ofW (cc := cX12_plainSays) (maxL := 2) (ret := (Option.some FieldType.int)) (by decide) rfl ?_
  intro p e s m args below meth c s₁ B hml hv
  obtain ⟨rfl, hE, h0⟩ := hv
  have hx := B.exec
  have hb := B.bytes
  have hr := B.returns
  have hts0 := atoms_spec (ws := w_X12_plainSays) B.pre
  have hts : ∀ w ∈ lwG, w.before _ s = true := fun w hw => hts0 w (List.mem_cons_of_mem _ hw)
  have hown : s.vm.findClass RX12 = some m.cls := findClass_of_methodNamed B.named
  have hlocks := B.notSynchronized
  have hI : hqX D kA HB S.2 S s.heap [] := ⟨h0, Nat.le_refl _, fun _ q => absurd q List.not_mem_nil⟩
  have hl := lv_entry ([.ref a0, .int a1]) (n := 2) (Nat.le_of_ble_eq_true rfl)
  rw [lg_entry_eq]
  generalize (lg_sl ([.ref a0, .int a1]) ++ List.replicate (2 - (lg_sl ([.ref a0, .int a1])).length) Slot.unset).toArray = ls at hl ⊢
  have hl : lv_has ls 2 [(0, .ref a0), (1, .int a1)] := hl
  unfold f_X12_plainSays at h
  refine lv_aload_n hx hb dX12_plainSays_0 rfl (lv_at hl 0 rfl) ?_
  refine lv_iconst (v := 1) hx hb dX12_plainSays_1 (by decide) ?_
  obtain ⟨g2, h⟩ := hq_g h
  obtain ⟨S3, g1, h⟩ := hq_bind h
  refine hq_callv hI (va_runV (As := [.int 1]) (rest := []) ⟨hx, hb, hml, hown, hts⟩ (c_X12_runs l D kA ρ HB S a0 1 _ g1) (cwV 1 hts (gdIn (List.forall_mem_cons.mpr ⟨kw_1318, (List.forall_mem_cons.mpr ⟨kw_1320, (List.forall_mem_cons.mpr ⟨ks_70, (List.forall_mem_cons.mpr ⟨kw_6, (fun _ h => absurd h List.not_mem_nil)⟩)⟩)⟩)⟩) kw_1321) rfl rfl rfl ye_X12_runs ⟨Nat.le_of_ble_eq_true rfl, Nat.le_of_ble_eq_true rfl⟩) (hq_preC hE hI g2 rfl _) rfl rfl hl.1 rfl (lv_room (Nat.le_of_ble_eq_true rfl)) dX12_plainSays_2 ⟨Nat.le_of_ble_eq_true rfl, Nat.le_of_ble_eq_true rfl⟩) (fun H locs hI => ?_)
  refine lv_iload_n hx hb dX12_plainSays_5 rfl (lv_at hl 1 rfl) ?_
  refine lv_aload_n hx hb dX12_plainSays_6 rfl (lv_at hl 0 rfl) ?_
  obtain ⟨v4, g5, h⟩ := hq_bind h
  obtain ⟨fs_g5, hs_g5, hv_g5⟩ := gI_at g5
  refine hq_get hx hb hts hown hE hI hs_g5 inG12 rfl 18 (by decide) kw_962 hv_g5 dX12_plainSays_7 ?_
  refine lv_iadd hx hb dX12_plainSays_10 ?_
  exact hq_iret hx hb hr hlocks h0 hI h dX12_plainSays_11
-- RodDipsModel.saysActs(I)I
theorem dX12_saysActs_0 : decode cX12_saysActs 0 = .ok (.aload_n 0, 1) := by decide +kernel
theorem dX12_saysActs_1 : decode cX12_saysActs 1 = .ok (.getfield 273, 3) := by decide +kernel
theorem dX12_saysActs_4 : decode cX12_saysActs 4 = .ok (.iconst 1, 1) := by decide +kernel
theorem dX12_saysActs_5 : decode cX12_saysActs 5 = .ok (.if_icmp .ne 17, 3) := by decide +kernel
theorem dX12_saysActs_8 : decode cX12_saysActs 8 = .ok (.aload_n 0, 1) := by decide +kernel
theorem dX12_saysActs_9 : decode cX12_saysActs 9 = .ok (.bipush 11, 2) := by decide +kernel
theorem dX12_saysActs_11 : decode cX12_saysActs 11 = .ok (.invokevirtual 267, 3) := by decide +kernel
theorem dX12_saysActs_14 : decode cX12_saysActs 14 = .ok (.aload_n 0, 1) := by decide +kernel
theorem dX12_saysActs_15 : decode cX12_saysActs 15 = .ok (.iload_n 1, 1) := by decide +kernel
theorem dX12_saysActs_16 : decode cX12_saysActs 16 = .ok (.iconst 3, 1) := by decide +kernel
theorem dX12_saysActs_17 : decode cX12_saysActs 17 = .ok (.imul, 1) := by decide +kernel
theorem dX12_saysActs_18 : decode cX12_saysActs 18 = .ok (.invokevirtual 276, 3) := by decide +kernel
theorem dX12_saysActs_21 : decode cX12_saysActs 21 = .ok (.ireturn, 1) := by decide +kernel
theorem dX12_saysActs_22 : decode cX12_saysActs 22 = .ok (.aload_n 0, 1) := by decide +kernel
theorem dX12_saysActs_23 : decode cX12_saysActs 23 = .ok (.getfield 273, 3) := by decide +kernel
theorem dX12_saysActs_26 : decode cX12_saysActs 26 = .ok (.iconst 5, 1) := by decide +kernel
theorem dX12_saysActs_27 : decode cX12_saysActs 27 = .ok (.if_icmp .ne 20, 3) := by decide +kernel
theorem dX12_saysActs_30 : decode cX12_saysActs 30 = .ok (.aload_n 0, 1) := by decide +kernel
theorem dX12_saysActs_31 : decode cX12_saysActs 31 = .ok (.bipush 51, 2) := by decide +kernel
theorem dX12_saysActs_33 : decode cX12_saysActs 33 = .ok (.invokevirtual 267, 3) := by decide +kernel
theorem dX12_saysActs_36 : decode cX12_saysActs 36 = .ok (.aload_n 0, 1) := by decide +kernel
theorem dX12_saysActs_37 : decode cX12_saysActs 37 = .ok (.iload_n 1, 1) := by decide +kernel
theorem dX12_saysActs_38 : decode cX12_saysActs 38 = .ok (.invokevirtual 276, 3) := by decide +kernel
theorem dX12_saysActs_41 : decode cX12_saysActs 41 = .ok (.aload_n 0, 1) := by decide +kernel
theorem dX12_saysActs_42 : decode cX12_saysActs 42 = .ok (.getfield 270, 3) := by decide +kernel
theorem dX12_saysActs_45 : decode cX12_saysActs 45 = .ok (.ixor, 1) := by decide +kernel
theorem dX12_saysActs_46 : decode cX12_saysActs 46 = .ok (.ireturn, 1) := by decide +kernel
theorem dX12_saysActs_47 : decode cX12_saysActs 47 = .ok (.aload_n 0, 1) := by decide +kernel
theorem dX12_saysActs_48 : decode cX12_saysActs 48 = .ok (.iload_n 1, 1) := by decide +kernel
theorem dX12_saysActs_49 : decode cX12_saysActs 49 = .ok (.invokevirtual 276, 3) := by decide +kernel
theorem dX12_saysActs_52 : decode cX12_saysActs 52 = .ok (.ireturn, 1) := by decide +kernel
def f_X12_saysActs (S : HSt) (a0 : Nat) (a1 : Int32) : Option (Int32 × HSt) := (gI S a0 12 17).bind fun v1 => if v1 = 1 then (if gC S a0 = some 12 then ((f_X12_runs S a0 11).bind fun S22 => if gC S22 a0 = some 12 then (bd2 (f_X12_plainSays S22 a0 (a1 * 3)) fun v26 S25 => some (v26, S25)) else none) else none) else ((gI S a0 12 17).bind fun v4 => if v4 = 5 then (if gC S a0 = some 12 then ((f_X12_runs S a0 51).bind fun S13 => if gC S13 a0 = some 12 then (bd2 (f_X12_plainSays S13 a0 a1) fun v17 S16 => (gI S16 a0 12 18).bind fun v18 => some (v17 ^^^ v18, S16)) else none) else none) else (if gC S a0 = some 12 then (bd2 (f_X12_plainSays S a0 a1) fun v10 S9 => some (v10, S9)) else none))
abbrev rm_X12_saysActs : Room := { frames := 2, cells := 0, slots := 0, locals := 42 }
abbrev w_X12_saysActs : List Cond := Cond.code yX12_saysActs cX12_saysActs 2 (Option.some FieldType.int) :: lwG
theorem yd_X12_saysActs : yX12_saysActs.cls ≠ "java/lang/invoke/MethodHandle" ∧ yX12_saysActs.cls ≠ "java/lang/invoke/VarHandle" ∧ (parseMethodDescriptor yX12_saysActs.desc).map (fun d => d.parameters.length) = some 1 := by decide +kernel
theorem ye_X12_saysActs : yX12_saysActs.cls = RX12 ∧ yX12_saysActs.cls ≠ "java/lang/invoke/MethodHandle" ∧ yX12_saysActs.cls ≠ "java/lang/invoke/VarHandle" ∧ (parseMethodDescriptor yX12_saysActs.desc).map (fun d => d.parameters.length) = some 1 := by decide +kernel
set_option maxHeartbeats 4000000 in
set_option maxRecDepth 100000 in
theorem c_X12_saysActs (l : Launch) (D : va_G) (kA ρ : Nat → Nat) (HB : Heap) (S : HSt) (a0 : Nat) (a1 : Int32) (res : Int32 × HSt) (h : f_X12_saysActs S a0 a1 = some res) : Met l yX12_saysActs w_X12_saysActs rm_X12_saysActs (hPc D kA ρ HB S [.ref a0, .int a1]) (hQi D kA HB S res) 0 0 (hFree HB) := by
  refine Met.ofW (cc := cX12_saysActs) (maxL := 2) (ret := (Option.some FieldType.int)) (by decide) rfl ?_
  intro p e s m args below meth c s₁ B hml hv
  obtain ⟨rfl, hE, h0⟩ := hv
  have hx := B.exec
  have hb := B.bytes
  have hr := B.returns
  have hts0 := atoms_spec (ws := w_X12_saysActs) B.pre
  have hts : ∀ w ∈ lwG, w.before _ s = true := fun w hw => hts0 w (List.mem_cons_of_mem _ hw)
  have hown : s.vm.findClass RX12 = some m.cls := findClass_of_methodNamed B.named
  have hlocks := B.notSynchronized
  have hI : hqX D kA HB S.2 S s.heap [] := ⟨h0, Nat.le_refl _, fun _ q => absurd q List.not_mem_nil⟩
  have hl := lv_entry ([.ref a0, .int a1]) (n := 2) (Nat.le_of_ble_eq_true rfl)
  rw [lg_entry_eq]
  generalize (lg_sl ([.ref a0, .int a1]) ++ List.replicate (2 - (lg_sl ([.ref a0, .int a1])).length) Slot.unset).toArray = ls at hl ⊢
  have hl : lv_has ls 2 [(0, .ref a0), (1, .int a1)] := hl
  unfold f_X12_saysActs at h
  refine lv_aload_n hx hb dX12_saysActs_0 rfl (lv_at hl 0 rfl) ?_
  obtain ⟨v1, g2, h⟩ := hq_bind h
  obtain ⟨fs_g2, hs_g2, hv_g2⟩ := gI_at g2
  refine hq_get hx hb hts hown hE hI hs_g2 inG12 rfl 17 (by decide) kw_961 hv_g2 dX12_saysActs_1 ?_
  refine lv_iconst (v := 1) hx hb dX12_saysActs_4 (by decide) ?_
  refine lv_icmp_ne (tgt := 22) hx hb dX12_saysActs_5 (by decide) (fun c3 => ?_) (fun c3 => ?_)
  · have h := hq_f h c3
    refine lv_aload_n hx hb dX12_saysActs_22 rfl (lv_at hl 0 rfl) ?_
    obtain ⟨v4, g5, h⟩ := hq_bind h
    obtain ⟨fs_g5, hs_g5, hv_g5⟩ := gI_at g5
    refine hq_get hx hb hts hown hE hI hs_g5 inG12 rfl 17 (by decide) kw_961 hv_g5 dX12_saysActs_23 ?_
    refine lv_iconst (v := 5) hx hb dX12_saysActs_26 (by decide) ?_
    refine lv_icmp_ne (tgt := 47) hx hb dX12_saysActs_27 (by decide) (fun c6 => ?_) (fun c6 => ?_)
    · have h := hq_f h c6
      refine lv_aload_n hx hb dX12_saysActs_47 rfl (lv_at hl 0 rfl) ?_
      refine lv_iload_n hx hb dX12_saysActs_48 rfl (lv_at hl 1 rfl) ?_
      obtain ⟨g8, h⟩ := hq_g h
      obtain ⟨v10, S9, g7, h⟩ := hq_bd2 h
      refine hq_calli hI (va_runV (As := [.int a1]) (rest := []) ⟨hx, hb, hml, hown, hts⟩ (c_X12_plainSays l D kA ρ HB S a0 a1 _ g7) (cwV 1 hts (gdIn (List.forall_mem_cons.mpr ⟨kw_1322, (List.forall_mem_cons.mpr ⟨kw_1324, (List.forall_mem_cons.mpr ⟨ks_71, (List.forall_mem_cons.mpr ⟨kw_6, (fun _ h => absurd h List.not_mem_nil)⟩)⟩)⟩)⟩) kw_1325) rfl rfl rfl ye_X12_plainSays ⟨Nat.le_of_ble_eq_true rfl, Nat.le_of_ble_eq_true rfl⟩) (hq_preC hE hI g8 rfl _) rfl rfl hl.1 rfl (lv_room (Nat.le_of_ble_eq_true rfl)) dX12_saysActs_49 ⟨Nat.le_of_ble_eq_true rfl, Nat.le_of_ble_eq_true rfl⟩) (fun H locs hI => ?_)
      exact hq_iret hx hb hr hlocks h0 hI h dX12_saysActs_52
    · have h := hq_t h c6
      refine lv_aload_n hx hb dX12_saysActs_30 rfl (lv_at hl 0 rfl) ?_
      refine lv_bipush (v := 51) hx hb dX12_saysActs_31 (by decide) ?_
      obtain ⟨g12, h⟩ := hq_g h
      obtain ⟨S13, g11, h⟩ := hq_bind h
      refine hq_callv hI (va_runV (As := [.int 51]) (rest := []) ⟨hx, hb, hml, hown, hts⟩ (c_X12_runs l D kA ρ HB S a0 51 _ g11) (cwV 1 hts (gdIn (List.forall_mem_cons.mpr ⟨kw_1318, (List.forall_mem_cons.mpr ⟨kw_1320, (List.forall_mem_cons.mpr ⟨ks_70, (List.forall_mem_cons.mpr ⟨kw_6, (fun _ h => absurd h List.not_mem_nil)⟩)⟩)⟩)⟩) kw_1321) rfl rfl rfl ye_X12_runs ⟨Nat.le_of_ble_eq_true rfl, Nat.le_of_ble_eq_true rfl⟩) (hq_preC hE hI g12 rfl _) rfl rfl hl.1 rfl (lv_room (Nat.le_of_ble_eq_true rfl)) dX12_saysActs_33 ⟨Nat.le_of_ble_eq_true rfl, Nat.le_of_ble_eq_true rfl⟩) (fun H locs hI => ?_)
      refine lv_aload_n hx hb dX12_saysActs_36 rfl (lv_at hl 0 rfl) ?_
      refine lv_iload_n hx hb dX12_saysActs_37 rfl (lv_at hl 1 rfl) ?_
      obtain ⟨g15, h⟩ := hq_g h
      obtain ⟨v17, S16, g14, h⟩ := hq_bd2 h
      refine hq_calli hI (va_runV (As := [.int a1]) (rest := []) ⟨hx, hb, hml, hown, hts⟩ (c_X12_plainSays l D kA ρ HB S13 a0 a1 _ g14) (cwV 1 hts (gdIn (List.forall_mem_cons.mpr ⟨kw_1322, (List.forall_mem_cons.mpr ⟨kw_1324, (List.forall_mem_cons.mpr ⟨ks_71, (List.forall_mem_cons.mpr ⟨kw_6, (fun _ h => absurd h List.not_mem_nil)⟩)⟩)⟩)⟩) kw_1325) rfl rfl rfl ye_X12_plainSays ⟨Nat.le_of_ble_eq_true rfl, Nat.le_of_ble_eq_true rfl⟩) (hq_preC hE hI g15 rfl _) rfl rfl hl.1 rfl (lv_room (Nat.le_of_ble_eq_true rfl)) dX12_saysActs_38 ⟨Nat.le_of_ble_eq_true rfl, Nat.le_of_ble_eq_true rfl⟩) (fun H locs hI => ?_)
      refine lv_aload_n hx hb dX12_saysActs_41 rfl (lv_at hl 0 rfl) ?_
      obtain ⟨v18, g19, h⟩ := hq_bind h
      obtain ⟨fs_g19, hs_g19, hv_g19⟩ := gI_at g19
      refine hq_get hx hb hts hown hE hI hs_g19 inG12 rfl 18 (by decide) kw_962 hv_g19 dX12_saysActs_42 ?_
      refine lv_ixor hx hb dX12_saysActs_45 ?_
      exact hq_iret hx hb hr hlocks h0 hI h dX12_saysActs_46
  · have h := hq_t h c3
    refine lv_aload_n hx hb dX12_saysActs_8 rfl (lv_at hl 0 rfl) ?_
    refine lv_bipush (v := 11) hx hb dX12_saysActs_9 (by decide) ?_
    obtain ⟨g21, h⟩ := hq_g h
    obtain ⟨S22, g20, h⟩ := hq_bind h
    refine hq_callv hI (va_runV (As := [.int 11]) (rest := []) ⟨hx, hb, hml, hown, hts⟩ (c_X12_runs l D kA ρ HB S a0 11 _ g20) (cwV 1 hts (gdIn (List.forall_mem_cons.mpr ⟨kw_1318, (List.forall_mem_cons.mpr ⟨kw_1320, (List.forall_mem_cons.mpr ⟨ks_70, (List.forall_mem_cons.mpr ⟨kw_6, (fun _ h => absurd h List.not_mem_nil)⟩)⟩)⟩)⟩) kw_1321) rfl rfl rfl ye_X12_runs ⟨Nat.le_of_ble_eq_true rfl, Nat.le_of_ble_eq_true rfl⟩) (hq_preC hE hI g21 rfl _) rfl rfl hl.1 rfl (lv_room (Nat.le_of_ble_eq_true rfl)) dX12_saysActs_11 ⟨Nat.le_of_ble_eq_true rfl, Nat.le_of_ble_eq_true rfl⟩) (fun H locs hI => ?_)
    refine lv_aload_n hx hb dX12_saysActs_14 rfl (lv_at hl 0 rfl) ?_
    refine lv_iload_n hx hb dX12_saysActs_15 rfl (lv_at hl 1 rfl) ?_
    refine lv_iconst (v := 3) hx hb dX12_saysActs_16 (by decide) ?_
    refine lv_imul hx hb dX12_saysActs_17 ?_
    obtain ⟨g24, h⟩ := hq_g h
    obtain ⟨v26, S25, g23, h⟩ := hq_bd2 h
    refine hq_calli hI (va_runV (As := [.int (a1 * 3)]) (rest := []) ⟨hx, hb, hml, hown, hts⟩ (c_X12_plainSays l D kA ρ HB S22 a0 (a1 * 3) _ g23) (cwV 1 hts (gdIn (List.forall_mem_cons.mpr ⟨kw_1322, (List.forall_mem_cons.mpr ⟨kw_1324, (List.forall_mem_cons.mpr ⟨ks_71, (List.forall_mem_cons.mpr ⟨kw_6, (fun _ h => absurd h List.not_mem_nil)⟩)⟩)⟩)⟩) kw_1325) rfl rfl rfl ye_X12_plainSays ⟨Nat.le_of_ble_eq_true rfl, Nat.le_of_ble_eq_true rfl⟩) (hq_preC hE hI g24 rfl _) rfl rfl hl.1 rfl (lv_room (Nat.le_of_ble_eq_true rfl)) dX12_saysActs_18 ⟨Nat.le_of_ble_eq_true rfl, Nat.le_of_ble_eq_true rfl⟩) (fun H locs hI => ?_)
    exact hq_iret hx hb hr hlocks h0 hI h dX12_saysActs_21
-- RodDipsModel.plainKnows(I)I
theorem dX12_plainKnows_0 : decode cX12_plainKnows 0 = .ok (.aload_n 0, 1) := by decide +kernel
theorem dX12_plainKnows_1 : decode cX12_plainKnows 1 = .ok (.iconst 2, 1) := by decide +kernel
theorem dX12_plainKnows_2 : decode cX12_plainKnows 2 = .ok (.invokevirtual 267, 3) := by decide +kernel
theorem dX12_plainKnows_5 : decode cX12_plainKnows 5 = .ok (.aload_n 0, 1) := by decide +kernel
theorem dX12_plainKnows_6 : decode cX12_plainKnows 6 = .ok (.iload_n 1, 1) := by decide +kernel
theorem dX12_plainKnows_7 : decode cX12_plainKnows 7 = .ok (.invokevirtual 279, 3) := by decide +kernel
theorem dX12_plainKnows_10 : decode cX12_plainKnows 10 = .ok (.aload_n 0, 1) := by decide +kernel
theorem dX12_plainKnows_11 : decode cX12_plainKnows 11 = .ok (.getfield 282, 3) := by decide +kernel
theorem dX12_plainKnows_14 : decode cX12_plainKnows 14 = .ok (.isub, 1) := by decide +kernel
theorem dX12_plainKnows_15 : decode cX12_plainKnows 15 = .ok (.ireturn, 1) := by decide +kernel
def f_X12_plainKnows (S : HSt) (a0 : Nat) (a1 : Int32) : Option (Int32 × HSt) := if gC S a0 = some 12 then ((f_X12_runs S a0 2).bind fun S3 => if gC S3 a0 = some 12 then (bd2 (f_X12_saysActs S3 a0 a1) fun v7 S6 => (gI S6 a0 12 19).bind fun v8 => some (v7 - v8, S6)) else none) else none
abbrev rm_X12_plainKnows : Room := { frames := 3, cells := 0, slots := 0, locals := 63 }
abbrev w_X12_plainKnows : List Cond := Cond.code yX12_plainKnows cX12_plainKnows 2 (Option.some FieldType.int) :: lwG
theorem yd_X12_plainKnows : yX12_plainKnows.cls ≠ "java/lang/invoke/MethodHandle" ∧ yX12_plainKnows.cls ≠ "java/lang/invoke/VarHandle" ∧ (parseMethodDescriptor yX12_plainKnows.desc).map (fun d => d.parameters.length) = some 1 := by decide +kernel
theorem ye_X12_plainKnows : yX12_plainKnows.cls = RX12 ∧ yX12_plainKnows.cls ≠ "java/lang/invoke/MethodHandle" ∧ yX12_plainKnows.cls ≠ "java/lang/invoke/VarHandle" ∧ (parseMethodDescriptor yX12_plainKnows.desc).map (fun d => d.parameters.length) = some 1 := by decide +kernel
set_option maxHeartbeats 4000000 in
set_option maxRecDepth 100000 in
theorem c_X12_plainKnows (l : Launch) (D : va_G) (kA ρ : Nat → Nat) (HB : Heap) (S : HSt) (a0 : Nat) (a1 : Int32) (res : Int32 × HSt) (h : f_X12_plainKnows S a0 a1 = some res) : Met l yX12_plainKnows w_X12_plainKnows rm_X12_plainKnows (hPc D kA ρ HB S [.ref a0, .int a1]) (hQi D kA HB S res) 0 0 (hFree HB) := by
  refine Met.ofW (cc := cX12_plainKnows) (maxL := 2) (ret := (Option.some FieldType.int)) (by decide) rfl ?_
  intro p e s m args below meth c s₁ B hml hv
  obtain ⟨rfl, hE, h0⟩ := hv
  have hx := B.exec
  have hb := B.bytes
  have hr := B.returns
  have hts0 := atoms_spec (ws := w_X12_plainKnows) B.pre
  have hts : ∀ w ∈ lwG, w.before _ s = true := fun w hw => hts0 w (List.mem_cons_of_mem _ hw)
  have hown : s.vm.findClass RX12 = some m.cls := findClass_of_methodNamed B.named
  have hlocks := B.notSynchronized
  have hI : hqX D kA HB S.2 S s.heap [] := ⟨h0, Nat.le_refl _, fun _ q => absurd q List.not_mem_nil⟩
  have hl := lv_entry ([.ref a0, .int a1]) (n := 2) (Nat.le_of_ble_eq_true rfl)
  rw [lg_entry_eq]
  generalize (lg_sl ([.ref a0, .int a1]) ++ List.replicate (2 - (lg_sl ([.ref a0, .int a1])).length) Slot.unset).toArray = ls at hl ⊢
  have hl : lv_has ls 2 [(0, .ref a0), (1, .int a1)] := hl
  unfold f_X12_plainKnows at h
  refine lv_aload_n hx hb dX12_plainKnows_0 rfl (lv_at hl 0 rfl) ?_
  refine lv_iconst (v := 2) hx hb dX12_plainKnows_1 (by decide) ?_
  obtain ⟨g2, h⟩ := hq_g h
  obtain ⟨S3, g1, h⟩ := hq_bind h
  refine hq_callv hI (va_runV (As := [.int 2]) (rest := []) ⟨hx, hb, hml, hown, hts⟩ (c_X12_runs l D kA ρ HB S a0 2 _ g1) (cwV 1 hts (gdIn (List.forall_mem_cons.mpr ⟨kw_1318, (List.forall_mem_cons.mpr ⟨kw_1320, (List.forall_mem_cons.mpr ⟨ks_70, (List.forall_mem_cons.mpr ⟨kw_6, (fun _ h => absurd h List.not_mem_nil)⟩)⟩)⟩)⟩) kw_1321) rfl rfl rfl ye_X12_runs ⟨Nat.le_of_ble_eq_true rfl, Nat.le_of_ble_eq_true rfl⟩) (hq_preC hE hI g2 rfl _) rfl rfl hl.1 rfl (lv_room (Nat.le_of_ble_eq_true rfl)) dX12_plainKnows_2 ⟨Nat.le_of_ble_eq_true rfl, Nat.le_of_ble_eq_true rfl⟩) (fun H locs hI => ?_)
  refine lv_aload_n hx hb dX12_plainKnows_5 rfl (lv_at hl 0 rfl) ?_
  refine lv_iload_n hx hb dX12_plainKnows_6 rfl (lv_at hl 1 rfl) ?_
  obtain ⟨g5, h⟩ := hq_g h
  obtain ⟨v7, S6, g4, h⟩ := hq_bd2 h
  refine hq_calli hI (va_runV (As := [.int a1]) (rest := []) ⟨hx, hb, hml, hown, hts⟩ (c_X12_saysActs l D kA ρ HB S3 a0 a1 _ g4) (cwV 1 hts (gdIn (List.forall_mem_cons.mpr ⟨kw_1314, (List.forall_mem_cons.mpr ⟨kw_1316, (List.forall_mem_cons.mpr ⟨ks_69, (List.forall_mem_cons.mpr ⟨kw_6, (fun _ h => absurd h List.not_mem_nil)⟩)⟩)⟩)⟩) kw_1317) rfl rfl rfl ye_X12_saysActs ⟨Nat.le_of_ble_eq_true rfl, Nat.le_of_ble_eq_true rfl⟩) (hq_preC hE hI g5 rfl _) rfl rfl hl.1 rfl (lv_room (Nat.le_of_ble_eq_true rfl)) dX12_plainKnows_7 ⟨Nat.le_of_ble_eq_true rfl, Nat.le_of_ble_eq_true rfl⟩) (fun H locs hI => ?_)
  refine lv_aload_n hx hb dX12_plainKnows_10 rfl (lv_at hl 0 rfl) ?_
  obtain ⟨v8, g9, h⟩ := hq_bind h
  obtain ⟨fs_g9, hs_g9, hv_g9⟩ := gI_at g9
  refine hq_get hx hb hts hown hE hI hs_g9 inG12 rfl 19 (by decide) kw_963 hv_g9 dX12_plainKnows_11 ?_
  refine lv_isub hx hb dX12_plainKnows_14 ?_
  exact hq_iret hx hb hr hlocks h0 hI h dX12_plainKnows_15
-- RodDipsModel.knowsActs(I)I
theorem dX12_knowsActs_0 : decode cX12_knowsActs 0 = .ok (.aload_n 0, 1) := by decide +kernel
theorem dX12_knowsActs_1 : decode cX12_knowsActs 1 = .ok (.getfield 273, 3) := by decide +kernel
theorem dX12_knowsActs_4 : decode cX12_knowsActs 4 = .ok (.bipush 6, 2) := by decide +kernel
theorem dX12_knowsActs_6 : decode cX12_knowsActs 6 = .ok (.if_icmp .ne 20, 3) := by decide +kernel
theorem dX12_knowsActs_9 : decode cX12_knowsActs 9 = .ok (.aload_n 0, 1) := by decide +kernel
theorem dX12_knowsActs_10 : decode cX12_knowsActs 10 = .ok (.bipush 61, 2) := by decide +kernel
theorem dX12_knowsActs_12 : decode cX12_knowsActs 12 = .ok (.invokevirtual 267, 3) := by decide +kernel
theorem dX12_knowsActs_15 : decode cX12_knowsActs 15 = .ok (.aload_n 0, 1) := by decide +kernel
theorem dX12_knowsActs_16 : decode cX12_knowsActs 16 = .ok (.iload_n 1, 1) := by decide +kernel
theorem dX12_knowsActs_17 : decode cX12_knowsActs 17 = .ok (.invokevirtual 285, 3) := by decide +kernel
theorem dX12_knowsActs_20 : decode cX12_knowsActs 20 = .ok (.aload_n 0, 1) := by decide +kernel
theorem dX12_knowsActs_21 : decode cX12_knowsActs 21 = .ok (.getfield 282, 3) := by decide +kernel
theorem dX12_knowsActs_24 : decode cX12_knowsActs 24 = .ok (.iadd, 1) := by decide +kernel
theorem dX12_knowsActs_25 : decode cX12_knowsActs 25 = .ok (.ireturn, 1) := by decide +kernel
theorem dX12_knowsActs_26 : decode cX12_knowsActs 26 = .ok (.aload_n 0, 1) := by decide +kernel
theorem dX12_knowsActs_27 : decode cX12_knowsActs 27 = .ok (.getfield 273, 3) := by decide +kernel
theorem dX12_knowsActs_30 : decode cX12_knowsActs 30 = .ok (.iconst 2, 1) := by decide +kernel
theorem dX12_knowsActs_31 : decode cX12_knowsActs 31 = .ok (.invokestatic 288, 3) := by decide +kernel
theorem dX12_knowsActs_34 : decode cX12_knowsActs 34 = .ok (.ifCond .eq 16, 3) := by decide +kernel
theorem dX12_knowsActs_37 : decode cX12_knowsActs 37 = .ok (.aload_n 0, 1) := by decide +kernel
theorem dX12_knowsActs_38 : decode cX12_knowsActs 38 = .ok (.bipush 21, 2) := by decide +kernel
theorem dX12_knowsActs_40 : decode cX12_knowsActs 40 = .ok (.invokevirtual 267, 3) := by decide +kernel
theorem dX12_knowsActs_43 : decode cX12_knowsActs 43 = .ok (.aload_n 0, 1) := by decide +kernel
theorem dX12_knowsActs_44 : decode cX12_knowsActs 44 = .ok (.iload_n 1, 1) := by decide +kernel
theorem dX12_knowsActs_45 : decode cX12_knowsActs 45 = .ok (.invokevirtual 285, 3) := by decide +kernel
theorem dX12_knowsActs_48 : decode cX12_knowsActs 48 = .ok (.ineg, 1) := by decide +kernel
theorem dX12_knowsActs_49 : decode cX12_knowsActs 49 = .ok (.ireturn, 1) := by decide +kernel
theorem dX12_knowsActs_50 : decode cX12_knowsActs 50 = .ok (.aload_n 0, 1) := by decide +kernel
theorem dX12_knowsActs_51 : decode cX12_knowsActs 51 = .ok (.iload_n 1, 1) := by decide +kernel
theorem dX12_knowsActs_52 : decode cX12_knowsActs 52 = .ok (.invokevirtual 285, 3) := by decide +kernel
theorem dX12_knowsActs_55 : decode cX12_knowsActs 55 = .ok (.ireturn, 1) := by decide +kernel
def f_X12_knowsActs (S : HSt) (a0 : Nat) (a1 : Int32) : Option (Int32 × HSt) := (gI S a0 12 17).bind fun v1 => if v1 = 6 then (if gC S a0 = some 12 then ((f_X12_runs S a0 61).bind fun S23 => if gC S23 a0 = some 12 then (bd2 (f_X12_plainKnows S23 a0 a1) fun v27 S26 => (gI S26 a0 12 19).bind fun v28 => some (v27 + v28, S26)) else none) else none) else ((gI S a0 12 17).bind fun v4 => bd2 (f_X12_isUnder S v4 2) fun v8 S7 => if v8 = 0 then (if gC S7 a0 = some 12 then (bd2 (f_X12_plainKnows S7 a0 a1) fun v13 S12 => some (v13, S12)) else none) else (if gC S7 a0 = some 12 then ((f_X12_runs S7 a0 21).bind fun S16 => if gC S16 a0 = some 12 then (bd2 (f_X12_plainKnows S16 a0 a1) fun v20 S19 => some (-v20, S19)) else none) else none))
abbrev rm_X12_knowsActs : Room := { frames := 4, cells := 0, slots := 0, locals := 84 }
abbrev w_X12_knowsActs : List Cond := Cond.code yX12_knowsActs cX12_knowsActs 2 (Option.some FieldType.int) :: lwG
theorem yd_X12_knowsActs : yX12_knowsActs.cls ≠ "java/lang/invoke/MethodHandle" ∧ yX12_knowsActs.cls ≠ "java/lang/invoke/VarHandle" ∧ (parseMethodDescriptor yX12_knowsActs.desc).map (fun d => d.parameters.length) = some 1 := by decide +kernel
theorem ye_X12_knowsActs : yX12_knowsActs.cls = RX12 ∧ yX12_knowsActs.cls ≠ "java/lang/invoke/MethodHandle" ∧ yX12_knowsActs.cls ≠ "java/lang/invoke/VarHandle" ∧ (parseMethodDescriptor yX12_knowsActs.desc).map (fun d => d.parameters.length) = some 1 := by decide +kernel
set_option maxHeartbeats 4000000 in
set_option maxRecDepth 100000 in
theorem c_X12_knowsActs (l : Launch) (D : va_G) (kA ρ : Nat → Nat) (HB : Heap) (S : HSt) (a0 : Nat) (a1 : Int32) (res : Int32 × HSt) (h : f_X12_knowsActs S a0 a1 = some res) : Met l yX12_knowsActs w_X12_knowsActs rm_X12_knowsActs (hPc D kA ρ HB S [.ref a0, .int a1]) (hQi D kA HB S res) 0 0 (hFree HB) := by
  refine Met.ofW (cc := cX12_knowsActs) (maxL := 2) (ret := (Option.some FieldType.int)) (by decide) rfl ?_
  intro p e s m args below meth c s₁ B hml hv
  obtain ⟨rfl, hE, h0⟩ := hv
  have hx := B.exec
  have hb := B.bytes
  have hr := B.returns
  have hts0 := atoms_spec (ws := w_X12_knowsActs) B.pre
  have hts : ∀ w ∈ lwG, w.before _ s = true := fun w hw => hts0 w (List.mem_cons_of_mem _ hw)
  have hown : s.vm.findClass RX12 = some m.cls := findClass_of_methodNamed B.named
  have hlocks := B.notSynchronized
  have hI : hqX D kA HB S.2 S s.heap [] := ⟨h0, Nat.le_refl _, fun _ q => absurd q List.not_mem_nil⟩
  have hl := lv_entry ([.ref a0, .int a1]) (n := 2) (Nat.le_of_ble_eq_true rfl)
  rw [lg_entry_eq]
  generalize (lg_sl ([.ref a0, .int a1]) ++ List.replicate (2 - (lg_sl ([.ref a0, .int a1])).length) Slot.unset).toArray = ls at hl ⊢
  have hl : lv_has ls 2 [(0, .ref a0), (1, .int a1)] := hl
  unfold f_X12_knowsActs at h
  refine lv_aload_n hx hb dX12_knowsActs_0 rfl (lv_at hl 0 rfl) ?_
  obtain ⟨v1, g2, h⟩ := hq_bind h
  obtain ⟨fs_g2, hs_g2, hv_g2⟩ := gI_at g2
  refine hq_get hx hb hts hown hE hI hs_g2 inG12 rfl 17 (by decide) kw_961 hv_g2 dX12_knowsActs_1 ?_
  refine lv_bipush (v := 6) hx hb dX12_knowsActs_4 (by decide) ?_
  refine lv_icmp_ne (tgt := 26) hx hb dX12_knowsActs_6 (by decide) (fun c3 => ?_) (fun c3 => ?_)
  · have h := hq_f h c3
    refine lv_aload_n hx hb dX12_knowsActs_26 rfl (lv_at hl 0 rfl) ?_
    obtain ⟨v4, g5, h⟩ := hq_bind h
    obtain ⟨fs_g5, hs_g5, hv_g5⟩ := gI_at g5
    refine hq_get hx hb hts hown hE hI hs_g5 inG12 rfl 17 (by decide) kw_961 hv_g5 dX12_knowsActs_27 ?_
    refine lv_iconst (v := 2) hx hb dX12_knowsActs_30 (by decide) ?_
    obtain ⟨v8, S7, g6, h⟩ := hq_bd2 h
    refine hq_calli hI (va_runS (As := [.int v4, .int 2]) (rest := []) ⟨hx, hb, hml, hown, hts⟩ (c_X12_isUnder l D kA ρ HB S v4 2 _ g6) (va_cwS 2 hts (gdIn (List.forall_mem_cons.mpr ⟨kw_1334, (List.forall_mem_cons.mpr ⟨kw_1335, (List.forall_mem_cons.mpr ⟨kw_6, (fun _ h => absurd h List.not_mem_nil)⟩)⟩)⟩) kw_1336) rfl rfl rfl yd_X12_isUnder ⟨Nat.le_of_ble_eq_true rfl, Nat.le_of_ble_eq_true rfl⟩) (hq_preS hE hI _) rfl rfl hl.1 rfl (lv_room (Nat.le_of_ble_eq_true rfl)) dX12_knowsActs_31 ⟨Nat.le_of_ble_eq_true rfl, Nat.le_of_ble_eq_true rfl⟩) (fun H locs hI => ?_)
    refine lv_if_eq (tgt := 50) hx hb dX12_knowsActs_34 (by decide) (fun c9 => ?_) (fun c9 => ?_)
    · have h := hq_t h c9
      refine lv_aload_n hx hb dX12_knowsActs_50 rfl (lv_at hl 0 rfl) ?_
      refine lv_iload_n hx hb dX12_knowsActs_51 rfl (lv_at hl 1 rfl) ?_
      obtain ⟨g11, h⟩ := hq_g h
      obtain ⟨v13, S12, g10, h⟩ := hq_bd2 h
      refine hq_calli hI (va_runV (As := [.int a1]) (rest := []) ⟨hx, hb, hml, hown, hts⟩ (c_X12_plainKnows l D kA ρ HB S7 a0 a1 _ g10) (cwV 1 hts (gdIn (List.forall_mem_cons.mpr ⟨kw_1330, (List.forall_mem_cons.mpr ⟨kw_1332, (List.forall_mem_cons.mpr ⟨ks_73, (List.forall_mem_cons.mpr ⟨kw_6, (fun _ h => absurd h List.not_mem_nil)⟩)⟩)⟩)⟩) kw_1333) rfl rfl rfl ye_X12_plainKnows ⟨Nat.le_of_ble_eq_true rfl, Nat.le_of_ble_eq_true rfl⟩) (hq_preC hE hI g11 rfl _) rfl rfl hl.1 rfl (lv_room (Nat.le_of_ble_eq_true rfl)) dX12_knowsActs_52 ⟨Nat.le_of_ble_eq_true rfl, Nat.le_of_ble_eq_true rfl⟩) (fun H locs hI => ?_)
      exact hq_iret hx hb hr hlocks h0 hI h dX12_knowsActs_55
    · have h := hq_f h c9
      refine lv_aload_n hx hb dX12_knowsActs_37 rfl (lv_at hl 0 rfl) ?_
      refine lv_bipush (v := 21) hx hb dX12_knowsActs_38 (by decide) ?_
      obtain ⟨g15, h⟩ := hq_g h
      obtain ⟨S16, g14, h⟩ := hq_bind h
      refine hq_callv hI (va_runV (As := [.int 21]) (rest := []) ⟨hx, hb, hml, hown, hts⟩ (c_X12_runs l D kA ρ HB S7 a0 21 _ g14) (cwV 1 hts (gdIn (List.forall_mem_cons.mpr ⟨kw_1318, (List.forall_mem_cons.mpr ⟨kw_1320, (List.forall_mem_cons.mpr ⟨ks_70, (List.forall_mem_cons.mpr ⟨kw_6, (fun _ h => absurd h List.not_mem_nil)⟩)⟩)⟩)⟩) kw_1321) rfl rfl rfl ye_X12_runs ⟨Nat.le_of_ble_eq_true rfl, Nat.le_of_ble_eq_true rfl⟩) (hq_preC hE hI g15 rfl _) rfl rfl hl.1 rfl (lv_room (Nat.le_of_ble_eq_true rfl)) dX12_knowsActs_40 ⟨Nat.le_of_ble_eq_true rfl, Nat.le_of_ble_eq_true rfl⟩) (fun H locs hI => ?_)
      refine lv_aload_n hx hb dX12_knowsActs_43 rfl (lv_at hl 0 rfl) ?_
      refine lv_iload_n hx hb dX12_knowsActs_44 rfl (lv_at hl 1 rfl) ?_
      obtain ⟨g18, h⟩ := hq_g h
      obtain ⟨v20, S19, g17, h⟩ := hq_bd2 h
      refine hq_calli hI (va_runV (As := [.int a1]) (rest := []) ⟨hx, hb, hml, hown, hts⟩ (c_X12_plainKnows l D kA ρ HB S16 a0 a1 _ g17) (cwV 1 hts (gdIn (List.forall_mem_cons.mpr ⟨kw_1330, (List.forall_mem_cons.mpr ⟨kw_1332, (List.forall_mem_cons.mpr ⟨ks_73, (List.forall_mem_cons.mpr ⟨kw_6, (fun _ h => absurd h List.not_mem_nil)⟩)⟩)⟩)⟩) kw_1333) rfl rfl rfl ye_X12_plainKnows ⟨Nat.le_of_ble_eq_true rfl, Nat.le_of_ble_eq_true rfl⟩) (hq_preC hE hI g18 rfl _) rfl rfl hl.1 rfl (lv_room (Nat.le_of_ble_eq_true rfl)) dX12_knowsActs_45 ⟨Nat.le_of_ble_eq_true rfl, Nat.le_of_ble_eq_true rfl⟩) (fun H locs hI => ?_)
      refine lv_ineg hx hb dX12_knowsActs_48 ?_
      exact hq_iret hx hb hr hlocks h0 hI h dX12_knowsActs_49
  · have h := hq_t h c3
    refine lv_aload_n hx hb dX12_knowsActs_9 rfl (lv_at hl 0 rfl) ?_
    refine lv_bipush (v := 61) hx hb dX12_knowsActs_10 (by decide) ?_
    obtain ⟨g22, h⟩ := hq_g h
    obtain ⟨S23, g21, h⟩ := hq_bind h
    refine hq_callv hI (va_runV (As := [.int 61]) (rest := []) ⟨hx, hb, hml, hown, hts⟩ (c_X12_runs l D kA ρ HB S a0 61 _ g21) (cwV 1 hts (gdIn (List.forall_mem_cons.mpr ⟨kw_1318, (List.forall_mem_cons.mpr ⟨kw_1320, (List.forall_mem_cons.mpr ⟨ks_70, (List.forall_mem_cons.mpr ⟨kw_6, (fun _ h => absurd h List.not_mem_nil)⟩)⟩)⟩)⟩) kw_1321) rfl rfl rfl ye_X12_runs ⟨Nat.le_of_ble_eq_true rfl, Nat.le_of_ble_eq_true rfl⟩) (hq_preC hE hI g22 rfl _) rfl rfl hl.1 rfl (lv_room (Nat.le_of_ble_eq_true rfl)) dX12_knowsActs_12 ⟨Nat.le_of_ble_eq_true rfl, Nat.le_of_ble_eq_true rfl⟩) (fun H locs hI => ?_)
    refine lv_aload_n hx hb dX12_knowsActs_15 rfl (lv_at hl 0 rfl) ?_
    refine lv_iload_n hx hb dX12_knowsActs_16 rfl (lv_at hl 1 rfl) ?_
    obtain ⟨g25, h⟩ := hq_g h
    obtain ⟨v27, S26, g24, h⟩ := hq_bd2 h
    refine hq_calli hI (va_runV (As := [.int a1]) (rest := []) ⟨hx, hb, hml, hown, hts⟩ (c_X12_plainKnows l D kA ρ HB S23 a0 a1 _ g24) (cwV 1 hts (gdIn (List.forall_mem_cons.mpr ⟨kw_1330, (List.forall_mem_cons.mpr ⟨kw_1332, (List.forall_mem_cons.mpr ⟨ks_73, (List.forall_mem_cons.mpr ⟨kw_6, (fun _ h => absurd h List.not_mem_nil)⟩)⟩)⟩)⟩) kw_1333) rfl rfl rfl ye_X12_plainKnows ⟨Nat.le_of_ble_eq_true rfl, Nat.le_of_ble_eq_true rfl⟩) (hq_preC hE hI g25 rfl _) rfl rfl hl.1 rfl (lv_room (Nat.le_of_ble_eq_true rfl)) dX12_knowsActs_17 ⟨Nat.le_of_ble_eq_true rfl, Nat.le_of_ble_eq_true rfl⟩) (fun H locs hI => ?_)
    refine lv_aload_n hx hb dX12_knowsActs_20 rfl (lv_at hl 0 rfl) ?_
    obtain ⟨v28, g29, h⟩ := hq_bind h
    obtain ⟨fs_g29, hs_g29, hv_g29⟩ := gI_at g29
    refine hq_get hx hb hts hown hE hI hs_g29 inG12 rfl 19 (by decide) kw_963 hv_g29 dX12_knowsActs_21 ?_
    refine lv_iadd hx hb dX12_knowsActs_24 ?_
    exact hq_iret hx hb hr hlocks h0 hI h dX12_knowsActs_25
-- RodDipsModel.plainTells(I)I
theorem dX12_plainTells_0 : decode cX12_plainTells 0 = .ok (.aload_n 0, 1) := by decide +kernel
theorem dX12_plainTells_1 : decode cX12_plainTells 1 = .ok (.iconst 3, 1) := by decide +kernel
theorem dX12_plainTells_2 : decode cX12_plainTells 2 = .ok (.invokevirtual 267, 3) := by decide +kernel
theorem dX12_plainTells_5 : decode cX12_plainTells 5 = .ok (.aload_n 0, 1) := by decide +kernel
theorem dX12_plainTells_6 : decode cX12_plainTells 6 = .ok (.iload_n 1, 1) := by decide +kernel
theorem dX12_plainTells_7 : decode cX12_plainTells 7 = .ok (.invokevirtual 291, 3) := by decide +kernel
theorem dX12_plainTells_10 : decode cX12_plainTells 10 = .ok (.iconst 2, 1) := by decide +kernel
theorem dX12_plainTells_11 : decode cX12_plainTells 11 = .ok (.imul, 1) := by decide +kernel
theorem dX12_plainTells_12 : decode cX12_plainTells 12 = .ok (.ireturn, 1) := by decide +kernel
def f_X12_plainTells (S : HSt) (a0 : Nat) (a1 : Int32) : Option (Int32 × HSt) := if gC S a0 = some 12 then ((f_X12_runs S a0 3).bind fun S3 => if gC S3 a0 = some 12 then (bd2 (f_X12_knowsActs S3 a0 a1) fun v7 S6 => some (v7 * 2, S6)) else none) else none
abbrev rm_X12_plainTells : Room := { frames := 5, cells := 0, slots := 0, locals := 105 }
abbrev w_X12_plainTells : List Cond := Cond.code yX12_plainTells cX12_plainTells 2 (Option.some FieldType.int) :: lwG
theorem yd_X12_plainTells : yX12_plainTells.cls ≠ "java/lang/invoke/MethodHandle" ∧ yX12_plainTells.cls ≠ "java/lang/invoke/VarHandle" ∧ (parseMethodDescriptor yX12_plainTells.desc).map (fun d => d.parameters.length) = some 1 := by decide +kernel
theorem ye_X12_plainTells : yX12_plainTells.cls = RX12 ∧ yX12_plainTells.cls ≠ "java/lang/invoke/MethodHandle" ∧ yX12_plainTells.cls ≠ "java/lang/invoke/VarHandle" ∧ (parseMethodDescriptor yX12_plainTells.desc).map (fun d => d.parameters.length) = some 1 := by decide +kernel
set_option maxHeartbeats 4000000 in
set_option maxRecDepth 100000 in
theorem c_X12_plainTells (l : Launch) (D : va_G) (kA ρ : Nat → Nat) (HB : Heap) (S : HSt) (a0 : Nat) (a1 : Int32) (res : Int32 × HSt) (h : f_X12_plainTells S a0 a1 = some res) : Met l yX12_plainTells w_X12_plainTells rm_X12_plainTells (hPc D kA ρ HB S [.ref a0, .int a1]) (hQi D kA HB S res) 0 0 (hFree HB) := by
  refine Met.ofW (cc := cX12_plainTells) (maxL := 2) (ret := (Option.some FieldType.int)) (by decide) rfl ?_
  intro p e s m args below meth c s₁ B hml hv
  obtain ⟨rfl, hE, h0⟩ := hv
  have hx := B.exec
  have hb := B.bytes
  have hr := B.returns
  have hts0 := atoms_spec (ws := w_X12_plainTells) B.pre
  have hts : ∀ w ∈ lwG, w.before _ s = true := fun w hw => hts0 w (List.mem_cons_of_mem _ hw)
  have hown : s.vm.findClass RX12 = some m.cls := findClass_of_methodNamed B.named
  have hlocks := B.notSynchronized
  have hI : hqX D kA HB S.2 S s.heap [] := ⟨h0, Nat.le_refl _, fun _ q => absurd q List.not_mem_nil⟩
  have hl := lv_entry ([.ref a0, .int a1]) (n := 2) (Nat.le_of_ble_eq_true rfl)
  rw [lg_entry_eq]
  generalize (lg_sl ([.ref a0, .int a1]) ++ List.replicate (2 - (lg_sl ([.ref a0, .int a1])).length) Slot.unset).toArray = ls at hl ⊢
  have hl : lv_has ls 2 [(0, .ref a0), (1, .int a1)] := hl
  unfold f_X12_plainTells at h
  refine lv_aload_n hx hb dX12_plainTells_0 rfl (lv_at hl 0 rfl) ?_
  refine lv_iconst (v := 3) hx hb dX12_plainTells_1 (by decide) ?_
  obtain ⟨g2, h⟩ := hq_g h
  obtain ⟨S3, g1, h⟩ := hq_bind h
  refine hq_callv hI (va_runV (As := [.int 3]) (rest := []) ⟨hx, hb, hml, hown, hts⟩ (c_X12_runs l D kA ρ HB S a0 3 _ g1) (cwV 1 hts (gdIn (List.forall_mem_cons.mpr ⟨kw_1318, (List.forall_mem_cons.mpr ⟨kw_1320, (List.forall_mem_cons.mpr ⟨ks_70, (List.forall_mem_cons.mpr ⟨kw_6, (fun _ h => absurd h List.not_mem_nil)⟩)⟩)⟩)⟩) kw_1321) rfl rfl rfl ye_X12_runs ⟨Nat.le_of_ble_eq_true rfl, Nat.le_of_ble_eq_true rfl⟩) (hq_preC hE hI g2 rfl _) rfl rfl hl.1 rfl (lv_room (Nat.le_of_ble_eq_true rfl)) dX12_plainTells_2 ⟨Nat.le_of_ble_eq_true rfl, Nat.le_of_ble_eq_true rfl⟩) (fun H locs hI => ?_)
  refine lv_aload_n hx hb dX12_plainTells_5 rfl (lv_at hl 0 rfl) ?_
  refine lv_iload_n hx hb dX12_plainTells_6 rfl (lv_at hl 1 rfl) ?_
  obtain ⟨g5, h⟩ := hq_g h
  obtain ⟨v7, S6, g4, h⟩ := hq_bd2 h
  refine hq_calli hI (va_runV (As := [.int a1]) (rest := []) ⟨hx, hb, hml, hown, hts⟩ (c_X12_knowsActs l D kA ρ HB S3 a0 a1 _ g4) (cwV 1 hts (gdIn (List.forall_mem_cons.mpr ⟨kw_1326, (List.forall_mem_cons.mpr ⟨kw_1328, (List.forall_mem_cons.mpr ⟨ks_72, (List.forall_mem_cons.mpr ⟨kw_6, (fun _ h => absurd h List.not_mem_nil)⟩)⟩)⟩)⟩) kw_1329) rfl rfl rfl ye_X12_knowsActs ⟨Nat.le_of_ble_eq_true rfl, Nat.le_of_ble_eq_true rfl⟩) (hq_preC hE hI g5 rfl _) rfl rfl hl.1 rfl (lv_room (Nat.le_of_ble_eq_true rfl)) dX12_plainTells_7 ⟨Nat.le_of_ble_eq_true rfl, Nat.le_of_ble_eq_true rfl⟩) (fun H locs hI => ?_)
  refine lv_iconst (v := 2) hx hb dX12_plainTells_10 (by decide) ?_
  refine lv_imul hx hb dX12_plainTells_11 ?_
  exact hq_iret hx hb hr hlocks h0 hI h dX12_plainTells_12
-- RodDipsModel.tellsActs(I)I
theorem dX12_tellsActs_0 : decode cX12_tellsActs 0 = .ok (.aload_n 0, 1) := by decide +kernel
theorem dX12_tellsActs_1 : decode cX12_tellsActs 1 = .ok (.getfield 273, 3) := by decide +kernel
theorem dX12_tellsActs_4 : decode cX12_tellsActs 4 = .ok (.iconst 4, 1) := by decide +kernel
theorem dX12_tellsActs_5 : decode cX12_tellsActs 5 = .ok (.if_icmp .ne 25, 3) := by decide +kernel
theorem dX12_tellsActs_8 : decode cX12_tellsActs 8 = .ok (.aload_n 0, 1) := by decide +kernel
theorem dX12_tellsActs_9 : decode cX12_tellsActs 9 = .ok (.bipush 41, 2) := by decide +kernel
theorem dX12_tellsActs_11 : decode cX12_tellsActs 11 = .ok (.invokevirtual 267, 3) := by decide +kernel
theorem dX12_tellsActs_14 : decode cX12_tellsActs 14 = .ok (.aload_n 0, 1) := by decide +kernel
theorem dX12_tellsActs_15 : decode cX12_tellsActs 15 = .ok (.iload_n 1, 1) := by decide +kernel
theorem dX12_tellsActs_16 : decode cX12_tellsActs 16 = .ok (.iconst 1, 1) := by decide +kernel
theorem dX12_tellsActs_17 : decode cX12_tellsActs 17 = .ok (.isub, 1) := by decide +kernel
theorem dX12_tellsActs_18 : decode cX12_tellsActs 18 = .ok (.invokevirtual 294, 3) := by decide +kernel
theorem dX12_tellsActs_21 : decode cX12_tellsActs 21 = .ok (.istore_n 2, 1) := by decide +kernel
theorem dX12_tellsActs_22 : decode cX12_tellsActs 22 = .ok (.iload_n 2, 1) := by decide +kernel
theorem dX12_tellsActs_23 : decode cX12_tellsActs 23 = .ok (.aload_n 0, 1) := by decide +kernel
theorem dX12_tellsActs_24 : decode cX12_tellsActs 24 = .ok (.iconst 2, 1) := by decide +kernel
theorem dX12_tellsActs_25 : decode cX12_tellsActs 25 = .ok (.invokevirtual 279, 3) := by decide +kernel
theorem dX12_tellsActs_28 : decode cX12_tellsActs 28 = .ok (.iadd, 1) := by decide +kernel
theorem dX12_tellsActs_29 : decode cX12_tellsActs 29 = .ok (.ireturn, 1) := by decide +kernel
theorem dX12_tellsActs_30 : decode cX12_tellsActs 30 = .ok (.aload_n 0, 1) := by decide +kernel
theorem dX12_tellsActs_31 : decode cX12_tellsActs 31 = .ok (.getfield 273, 3) := by decide +kernel
theorem dX12_tellsActs_34 : decode cX12_tellsActs 34 = .ok (.iconst 3, 1) := by decide +kernel
theorem dX12_tellsActs_35 : decode cX12_tellsActs 35 = .ok (.invokestatic 288, 3) := by decide +kernel
theorem dX12_tellsActs_38 : decode cX12_tellsActs 38 = .ok (.ifCond .eq 18, 3) := by decide +kernel
theorem dX12_tellsActs_41 : decode cX12_tellsActs 41 = .ok (.aload_n 0, 1) := by decide +kernel
theorem dX12_tellsActs_42 : decode cX12_tellsActs 42 = .ok (.bipush 31, 2) := by decide +kernel
theorem dX12_tellsActs_44 : decode cX12_tellsActs 44 = .ok (.invokevirtual 267, 3) := by decide +kernel
theorem dX12_tellsActs_47 : decode cX12_tellsActs 47 = .ok (.aload_n 0, 1) := by decide +kernel
theorem dX12_tellsActs_48 : decode cX12_tellsActs 48 = .ok (.iload_n 1, 1) := by decide +kernel
theorem dX12_tellsActs_49 : decode cX12_tellsActs 49 = .ok (.invokevirtual 294, 3) := by decide +kernel
theorem dX12_tellsActs_52 : decode cX12_tellsActs 52 = .ok (.bipush 7, 2) := by decide +kernel
theorem dX12_tellsActs_54 : decode cX12_tellsActs 54 = .ok (.ixor, 1) := by decide +kernel
theorem dX12_tellsActs_55 : decode cX12_tellsActs 55 = .ok (.ireturn, 1) := by decide +kernel
theorem dX12_tellsActs_56 : decode cX12_tellsActs 56 = .ok (.aload_n 0, 1) := by decide +kernel
theorem dX12_tellsActs_57 : decode cX12_tellsActs 57 = .ok (.iload_n 1, 1) := by decide +kernel
theorem dX12_tellsActs_58 : decode cX12_tellsActs 58 = .ok (.invokevirtual 294, 3) := by decide +kernel
theorem dX12_tellsActs_61 : decode cX12_tellsActs 61 = .ok (.ireturn, 1) := by decide +kernel
def f_X12_tellsActs (S : HSt) (a0 : Nat) (a1 : Int32) : Option (Int32 × HSt) := (gI S a0 12 17).bind fun v1 => if v1 = 4 then (if gC S a0 = some 12 then ((f_X12_runs S a0 41).bind fun S23 => if gC S23 a0 = some 12 then (bd2 (f_X12_plainTells S23 a0 (a1 - 1)) fun v27 S26 => if gC S26 a0 = some 12 then (bd2 (f_X12_saysActs S26 a0 2) fun v31 S30 => some (v27 + v31, S30)) else none) else none) else none) else ((gI S a0 12 17).bind fun v4 => bd2 (f_X12_isUnder S v4 3) fun v8 S7 => if v8 = 0 then (if gC S7 a0 = some 12 then (bd2 (f_X12_plainTells S7 a0 a1) fun v13 S12 => some (v13, S12)) else none) else (if gC S7 a0 = some 12 then ((f_X12_runs S7 a0 31).bind fun S16 => if gC S16 a0 = some 12 then (bd2 (f_X12_plainTells S16 a0 a1) fun v20 S19 => some (v20 ^^^ 7, S19)) else none) else none))
abbrev rm_X12_tellsActs : Room := { frames := 6, cells := 0, slots := 0, locals := 126 }
abbrev w_X12_tellsActs : List Cond := Cond.code yX12_tellsActs cX12_tellsActs 3 (Option.some FieldType.int) :: lwG
theorem yd_X12_tellsActs : yX12_tellsActs.cls ≠ "java/lang/invoke/MethodHandle" ∧ yX12_tellsActs.cls ≠ "java/lang/invoke/VarHandle" ∧ (parseMethodDescriptor yX12_tellsActs.desc).map (fun d => d.parameters.length) = some 1 := by decide +kernel
theorem ye_X12_tellsActs : yX12_tellsActs.cls = RX12 ∧ yX12_tellsActs.cls ≠ "java/lang/invoke/MethodHandle" ∧ yX12_tellsActs.cls ≠ "java/lang/invoke/VarHandle" ∧ (parseMethodDescriptor yX12_tellsActs.desc).map (fun d => d.parameters.length) = some 1 := by decide +kernel
set_option maxHeartbeats 4000000 in
set_option maxRecDepth 100000 in
theorem c_X12_tellsActs (l : Launch) (D : va_G) (kA ρ : Nat → Nat) (HB : Heap) (S : HSt) (a0 : Nat) (a1 : Int32) (res : Int32 × HSt) (h : f_X12_tellsActs S a0 a1 = some res) : Met l yX12_tellsActs w_X12_tellsActs rm_X12_tellsActs (hPc D kA ρ HB S [.ref a0, .int a1]) (hQi D kA HB S res) 0 0 (hFree HB) := by
  refine Met.ofW (cc := cX12_tellsActs) (maxL := 3) (ret := (Option.some FieldType.int)) (by decide) rfl ?_
  intro p e s m args below meth c s₁ B hml hv
  obtain ⟨rfl, hE, h0⟩ := hv
  have hx := B.exec
  have hb := B.bytes
  have hr := B.returns
  have hts0 := atoms_spec (ws := w_X12_tellsActs) B.pre
  have hts : ∀ w ∈ lwG, w.before _ s = true := fun w hw => hts0 w (List.mem_cons_of_mem _ hw)
  have hown : s.vm.findClass RX12 = some m.cls := findClass_of_methodNamed B.named
  have hlocks := B.notSynchronized
  have hI : hqX D kA HB S.2 S s.heap [] := ⟨h0, Nat.le_refl _, fun _ q => absurd q List.not_mem_nil⟩
  have hl := lv_entry ([.ref a0, .int a1]) (n := 3) (Nat.le_of_ble_eq_true rfl)
  rw [lg_entry_eq]
  generalize (lg_sl ([.ref a0, .int a1]) ++ List.replicate (3 - (lg_sl ([.ref a0, .int a1])).length) Slot.unset).toArray = ls at hl ⊢
  have hl : lv_has ls 3 [(0, .ref a0), (1, .int a1)] := hl
  unfold f_X12_tellsActs at h
  refine lv_aload_n hx hb dX12_tellsActs_0 rfl (lv_at hl 0 rfl) ?_
  obtain ⟨v1, g2, h⟩ := hq_bind h
  obtain ⟨fs_g2, hs_g2, hv_g2⟩ := gI_at g2
  refine hq_get hx hb hts hown hE hI hs_g2 inG12 rfl 17 (by decide) kw_961 hv_g2 dX12_tellsActs_1 ?_
  refine lv_iconst (v := 4) hx hb dX12_tellsActs_4 (by decide) ?_
  refine lv_icmp_ne (tgt := 30) hx hb dX12_tellsActs_5 (by decide) (fun c3 => ?_) (fun c3 => ?_)
  · have h := hq_f h c3
    refine lv_aload_n hx hb dX12_tellsActs_30 rfl (lv_at hl 0 rfl) ?_
    obtain ⟨v4, g5, h⟩ := hq_bind h
    obtain ⟨fs_g5, hs_g5, hv_g5⟩ := gI_at g5
    refine hq_get hx hb hts hown hE hI hs_g5 inG12 rfl 17 (by decide) kw_961 hv_g5 dX12_tellsActs_31 ?_
    refine lv_iconst (v := 3) hx hb dX12_tellsActs_34 (by decide) ?_
    obtain ⟨v8, S7, g6, h⟩ := hq_bd2 h
    refine hq_calli hI (va_runS (As := [.int v4, .int 3]) (rest := []) ⟨hx, hb, hml, hown, hts⟩ (c_X12_isUnder l D kA ρ HB S v4 3 _ g6) (va_cwS 2 hts (gdIn (List.forall_mem_cons.mpr ⟨kw_1334, (List.forall_mem_cons.mpr ⟨kw_1335, (List.forall_mem_cons.mpr ⟨kw_6, (fun _ h => absurd h List.not_mem_nil)⟩)⟩)⟩) kw_1336) rfl rfl rfl yd_X12_isUnder ⟨Nat.le_of_ble_eq_true rfl, Nat.le_of_ble_eq_true rfl⟩) (hq_preS hE hI _) rfl rfl hl.1 rfl (lv_room (Nat.le_of_ble_eq_true rfl)) dX12_tellsActs_35 ⟨Nat.le_of_ble_eq_true rfl, Nat.le_of_ble_eq_true rfl⟩) (fun H locs hI => ?_)
    refine lv_if_eq (tgt := 56) hx hb dX12_tellsActs_38 (by decide) (fun c9 => ?_) (fun c9 => ?_)
    · have h := hq_t h c9
      refine lv_aload_n hx hb dX12_tellsActs_56 rfl (lv_at hl 0 rfl) ?_
      refine lv_iload_n hx hb dX12_tellsActs_57 rfl (lv_at hl 1 rfl) ?_
      obtain ⟨g11, h⟩ := hq_g h
      obtain ⟨v13, S12, g10, h⟩ := hq_bd2 h
      refine hq_calli hI (va_runV (As := [.int a1]) (rest := []) ⟨hx, hb, hml, hown, hts⟩ (c_X12_plainTells l D kA ρ HB S7 a0 a1 _ g10) (cwV 1 hts (gdIn (List.forall_mem_cons.mpr ⟨kw_1341, (List.forall_mem_cons.mpr ⟨kw_1343, (List.forall_mem_cons.mpr ⟨ks_75, (List.forall_mem_cons.mpr ⟨kw_6, (fun _ h => absurd h List.not_mem_nil)⟩)⟩)⟩)⟩) kw_1344) rfl rfl rfl ye_X12_plainTells ⟨Nat.le_of_ble_eq_true rfl, Nat.le_of_ble_eq_true rfl⟩) (hq_preC hE hI g11 rfl _) rfl rfl hl.1 rfl (lv_room (Nat.le_of_ble_eq_true rfl)) dX12_tellsActs_58 ⟨Nat.le_of_ble_eq_true rfl, Nat.le_of_ble_eq_true rfl⟩) (fun H locs hI => ?_)
      exact hq_iret hx hb hr hlocks h0 hI h dX12_tellsActs_61
    · have h := hq_f h c9
      refine lv_aload_n hx hb dX12_tellsActs_41 rfl (lv_at hl 0 rfl) ?_
      refine lv_bipush (v := 31) hx hb dX12_tellsActs_42 (by decide) ?_
      obtain ⟨g15, h⟩ := hq_g h
      obtain ⟨S16, g14, h⟩ := hq_bind h
      refine hq_callv hI (va_runV (As := [.int 31]) (rest := []) ⟨hx, hb, hml, hown, hts⟩ (c_X12_runs l D kA ρ HB S7 a0 31 _ g14) (cwV 1 hts (gdIn (List.forall_mem_cons.mpr ⟨kw_1318, (List.forall_mem_cons.mpr ⟨kw_1320, (List.forall_mem_cons.mpr ⟨ks_70, (List.forall_mem_cons.mpr ⟨kw_6, (fun _ h => absurd h List.not_mem_nil)⟩)⟩)⟩)⟩) kw_1321) rfl rfl rfl ye_X12_runs ⟨Nat.le_of_ble_eq_true rfl, Nat.le_of_ble_eq_true rfl⟩) (hq_preC hE hI g15 rfl _) rfl rfl hl.1 rfl (lv_room (Nat.le_of_ble_eq_true rfl)) dX12_tellsActs_44 ⟨Nat.le_of_ble_eq_true rfl, Nat.le_of_ble_eq_true rfl⟩) (fun H locs hI => ?_)
      refine lv_aload_n hx hb dX12_tellsActs_47 rfl (lv_at hl 0 rfl) ?_
      refine lv_iload_n hx hb dX12_tellsActs_48 rfl (lv_at hl 1 rfl) ?_
      obtain ⟨g18, h⟩ := hq_g h
      obtain ⟨v20, S19, g17, h⟩ := hq_bd2 h
      refine hq_calli hI (va_runV (As := [.int a1]) (rest := []) ⟨hx, hb, hml, hown, hts⟩ (c_X12_plainTells l D kA ρ HB S16 a0 a1 _ g17) (cwV 1 hts (gdIn (List.forall_mem_cons.mpr ⟨kw_1341, (List.forall_mem_cons.mpr ⟨kw_1343, (List.forall_mem_cons.mpr ⟨ks_75, (List.forall_mem_cons.mpr ⟨kw_6, (fun _ h => absurd h List.not_mem_nil)⟩)⟩)⟩)⟩) kw_1344) rfl rfl rfl ye_X12_plainTells ⟨Nat.le_of_ble_eq_true rfl, Nat.le_of_ble_eq_true rfl⟩) (hq_preC hE hI g18 rfl _) rfl rfl hl.1 rfl (lv_room (Nat.le_of_ble_eq_true rfl)) dX12_tellsActs_49 ⟨Nat.le_of_ble_eq_true rfl, Nat.le_of_ble_eq_true rfl⟩) (fun H locs hI => ?_)
      refine lv_bipush (v := 7) hx hb dX12_tellsActs_52 (by decide) ?_
      refine lv_ixor hx hb dX12_tellsActs_54 ?_
      exact hq_iret hx hb hr hlocks h0 hI h dX12_tellsActs_55
  · have h := hq_t h c3
    refine lv_aload_n hx hb dX12_tellsActs_8 rfl (lv_at hl 0 rfl) ?_
    refine lv_bipush (v := 41) hx hb dX12_tellsActs_9 (by decide) ?_
    obtain ⟨g22, h⟩ := hq_g h
    obtain ⟨S23, g21, h⟩ := hq_bind h
    refine hq_callv hI (va_runV (As := [.int 41]) (rest := []) ⟨hx, hb, hml, hown, hts⟩ (c_X12_runs l D kA ρ HB S a0 41 _ g21) (cwV 1 hts (gdIn (List.forall_mem_cons.mpr ⟨kw_1318, (List.forall_mem_cons.mpr ⟨kw_1320, (List.forall_mem_cons.mpr ⟨ks_70, (List.forall_mem_cons.mpr ⟨kw_6, (fun _ h => absurd h List.not_mem_nil)⟩)⟩)⟩)⟩) kw_1321) rfl rfl rfl ye_X12_runs ⟨Nat.le_of_ble_eq_true rfl, Nat.le_of_ble_eq_true rfl⟩) (hq_preC hE hI g22 rfl _) rfl rfl hl.1 rfl (lv_room (Nat.le_of_ble_eq_true rfl)) dX12_tellsActs_11 ⟨Nat.le_of_ble_eq_true rfl, Nat.le_of_ble_eq_true rfl⟩) (fun H locs hI => ?_)
    refine lv_aload_n hx hb dX12_tellsActs_14 rfl (lv_at hl 0 rfl) ?_
    refine lv_iload_n hx hb dX12_tellsActs_15 rfl (lv_at hl 1 rfl) ?_
    refine lv_iconst (v := 1) hx hb dX12_tellsActs_16 (by decide) ?_
    refine lv_isub hx hb dX12_tellsActs_17 ?_
    obtain ⟨g25, h⟩ := hq_g h
    obtain ⟨v27, S26, g24, h⟩ := hq_bd2 h
    refine hq_calli hI (va_runV (As := [.int (a1 - 1)]) (rest := []) ⟨hx, hb, hml, hown, hts⟩ (c_X12_plainTells l D kA ρ HB S23 a0 (a1 - 1) _ g24) (cwV 1 hts (gdIn (List.forall_mem_cons.mpr ⟨kw_1341, (List.forall_mem_cons.mpr ⟨kw_1343, (List.forall_mem_cons.mpr ⟨ks_75, (List.forall_mem_cons.mpr ⟨kw_6, (fun _ h => absurd h List.not_mem_nil)⟩)⟩)⟩)⟩) kw_1344) rfl rfl rfl ye_X12_plainTells ⟨Nat.le_of_ble_eq_true rfl, Nat.le_of_ble_eq_true rfl⟩) (hq_preC hE hI g25 rfl _) rfl rfl hl.1 rfl (lv_room (Nat.le_of_ble_eq_true rfl)) dX12_tellsActs_18 ⟨Nat.le_of_ble_eq_true rfl, Nat.le_of_ble_eq_true rfl⟩) (fun H locs hI => ?_)
    refine lv_istore_n (lv' := [(2, .int v27), (0, .ref a0), (1, .int a1)]) hx hb dX12_tellsActs_21 rfl hl (by decide) rfl (fun ls hl => ?_)
    refine lv_iload_n hx hb dX12_tellsActs_22 rfl (lv_at hl 0 rfl) ?_
    refine lv_aload_n hx hb dX12_tellsActs_23 rfl (lv_at hl 1 rfl) ?_
    refine lv_iconst (v := 2) hx hb dX12_tellsActs_24 (by decide) ?_
    obtain ⟨g29, h⟩ := hq_g h
    obtain ⟨v31, S30, g28, h⟩ := hq_bd2 h
    refine hq_calli hI (va_runV (As := [.int 2]) (rest := [.int v27]) ⟨hx, hb, hml, hown, hts⟩ (c_X12_saysActs l D kA ρ HB S26 a0 2 _ g28) (cwV 1 hts (gdIn (List.forall_mem_cons.mpr ⟨kw_1314, (List.forall_mem_cons.mpr ⟨kw_1316, (List.forall_mem_cons.mpr ⟨ks_69, (List.forall_mem_cons.mpr ⟨kw_6, (fun _ h => absurd h List.not_mem_nil)⟩)⟩)⟩)⟩) kw_1317) rfl rfl rfl ye_X12_saysActs ⟨Nat.le_of_ble_eq_true rfl, Nat.le_of_ble_eq_true rfl⟩) (hq_preC hE hI g29 rfl _) rfl rfl hl.1 rfl (lv_room (Nat.le_of_ble_eq_true rfl)) dX12_tellsActs_25 ⟨Nat.le_of_ble_eq_true rfl, Nat.le_of_ble_eq_true rfl⟩) (fun H locs hI => ?_)
    refine lv_iadd hx hb dX12_tellsActs_28 ?_
    exact hq_iret hx hb hr hlocks h0 hI h dX12_tellsActs_29
-- RodDipsModel.act(III)I
theorem dX12_act_0 : decode cX12_act 0 = .ok (.aload_n 0, 1) := by decide +kernel
theorem dX12_act_1 : decode cX12_act 1 = .ok (.iconst 0, 1) := by decide +kernel
theorem dX12_act_2 : decode cX12_act 2 = .ok (.putfield 264, 3) := by decide +kernel
theorem dX12_act_5 : decode cX12_act 5 = .ok (.aload_n 0, 1) := by decide +kernel
theorem dX12_act_6 : decode cX12_act 6 = .ok (.iload_n 1, 1) := by decide +kernel
theorem dX12_act_7 : decode cX12_act 7 = .ok (.invokevirtual 50, 3) := by decide +kernel
theorem dX12_act_10 : decode cX12_act 10 = .ok (.ifCond .eq 12, 3) := by decide +kernel
theorem dX12_act_13 : decode cX12_act 13 = .ok (.iload_n 2, 1) := by decide +kernel
theorem dX12_act_14 : decode cX12_act 14 = .ok (.iconst 0, 1) := by decide +kernel
theorem dX12_act_15 : decode cX12_act 15 = .ok (.iconst 2, 1) := by decide +kernel
theorem dX12_act_16 : decode cX12_act 16 = .ok (.invokestatic 39, 3) := by decide +kernel
theorem dX12_act_19 : decode cX12_act 19 = .ok (.ifCond .ne 5, 3) := by decide +kernel
theorem dX12_act_22 : decode cX12_act 22 = .ok (.iconst 0, 1) := by decide +kernel
theorem dX12_act_23 : decode cX12_act 23 = .ok (.ireturn, 1) := by decide +kernel
theorem dX12_act_24 : decode cX12_act 24 = .ok (.aload_n 0, 1) := by decide +kernel
theorem dX12_act_25 : decode cX12_act 25 = .ok (.aload_n 0, 1) := by decide +kernel
theorem dX12_act_26 : decode cX12_act 26 = .ok (.getfield 9, 3) := by decide +kernel
theorem dX12_act_29 : decode cX12_act 29 = .ok (.sipush 190, 3) := by decide +kernel
theorem dX12_act_32 : decode cX12_act 32 = .ok (.iload_n 1, 1) := by decide +kernel
theorem dX12_act_33 : decode cX12_act 33 = .ok (.iadd, 1) := by decide +kernel
theorem dX12_act_34 : decode cX12_act 34 = .ok (.iaload, 1) := by decide +kernel
theorem dX12_act_35 : decode cX12_act 35 = .ok (.putfield 273, 3) := by decide +kernel
theorem dX12_act_38 : decode cX12_act 38 = .ok (.aload_n 0, 1) := by decide +kernel
theorem dX12_act_39 : decode cX12_act 39 = .ok (.iload_n 1, 1) := by decide +kernel
theorem dX12_act_40 : decode cX12_act 40 = .ok (.putfield 270, 3) := by decide +kernel
theorem dX12_act_43 : decode cX12_act 43 = .ok (.aload_n 0, 1) := by decide +kernel
theorem dX12_act_44 : decode cX12_act 44 = .ok (.aload_n 0, 1) := by decide +kernel
theorem dX12_act_45 : decode cX12_act 45 = .ok (.getfield 9, 3) := by decide +kernel
theorem dX12_act_48 : decode cX12_act 48 = .ok (.sipush 250, 3) := by decide +kernel
theorem dX12_act_51 : decode cX12_act 51 = .ok (.iload_n 1, 1) := by decide +kernel
theorem dX12_act_52 : decode cX12_act 52 = .ok (.iadd, 1) := by decide +kernel
theorem dX12_act_53 : decode cX12_act 53 = .ok (.iaload, 1) := by decide +kernel
theorem dX12_act_54 : decode cX12_act 54 = .ok (.putfield 282, 3) := by decide +kernel
theorem dX12_act_57 : decode cX12_act 57 = .ok (.iload_n 2, 1) := by decide +kernel
theorem dX12_act_58 : decode cX12_act 58 = .ok (.ifCond .ne 11, 3) := by decide +kernel
theorem dX12_act_61 : decode cX12_act 61 = .ok (.aload_n 0, 1) := by decide +kernel
theorem dX12_act_62 : decode cX12_act 62 = .ok (.iload_n 3, 1) := by decide +kernel
theorem dX12_act_63 : decode cX12_act 63 = .ok (.invokevirtual 279, 3) := by decide +kernel
theorem dX12_act_66 : decode cX12_act 66 = .ok (.goto 21, 3) := by decide +kernel
theorem dX12_act_69 : decode cX12_act 69 = .ok (.iload_n 2, 1) := by decide +kernel
theorem dX12_act_70 : decode cX12_act 70 = .ok (.iconst 1, 1) := by decide +kernel
theorem dX12_act_71 : decode cX12_act 71 = .ok (.if_icmp .ne 11, 3) := by decide +kernel
theorem dX12_act_74 : decode cX12_act 74 = .ok (.aload_n 0, 1) := by decide +kernel
theorem dX12_act_75 : decode cX12_act 75 = .ok (.iload_n 3, 1) := by decide +kernel
theorem dX12_act_76 : decode cX12_act 76 = .ok (.invokevirtual 291, 3) := by decide +kernel
theorem dX12_act_79 : decode cX12_act 79 = .ok (.goto 8, 3) := by decide +kernel
theorem dX12_act_82 : decode cX12_act 82 = .ok (.aload_n 0, 1) := by decide +kernel
theorem dX12_act_83 : decode cX12_act 83 = .ok (.iload_n 3, 1) := by decide +kernel
theorem dX12_act_84 : decode cX12_act 84 = .ok (.invokevirtual 297, 3) := by decide +kernel
theorem dX12_act_87 : decode cX12_act 87 = .ok (.ireturn, 1) := by decide +kernel
def f_X12_act (S : HSt) (a0 : Nat) (a1 : Int32) (a2 : Int32) (a3 : Int32) : Option (Int32 × HSt) := (pV S a0 12 16 (.int 0)).bind fun S1 => if gC S1 a0 = some 12 then (bd2 (f_X12_isTry S1 a0 a1) fun v6 S5 => if v6 = 0 then (some (0, S5)) else (bd2 (f_X12_in S5 a2 0 2) fun v10 S9 => if v10 = 0 then (some (0, S9)) else ((gR S9 a0 12 1).bind fun b12 => (aI S9 b12 0 (190 + a1)).bind fun v15 => (pV S9 a0 12 17 (.int v15)).bind fun S16 => (pV S16 a0 12 18 (.int a1)).bind fun S18 => (gR S18 a0 12 1).bind fun b20 => (aI S18 b20 0 (250 + a1)).bind fun v23 => (pV S18 a0 12 19 (.int v23)).bind fun S24 => if a2 = 0 then (if gC S24 a0 = some 12 then (bd2 (f_X12_saysActs S24 a0 a3) fun v39 S38 => some (v39, S38)) else none) else (if a2 = 1 then (if gC S24 a0 = some 12 then (bd2 (f_X12_knowsActs S24 a0 a3) fun v35 S34 => some (v35, S34)) else none) else (if gC S24 a0 = some 12 then (bd2 (f_X12_tellsActs S24 a0 a3) fun v31 S30 => some (v31, S30)) else none))))) else none
abbrev rm_X12_act : Room := { frames := 7, cells := 0, slots := 0, locals := 148 }
abbrev w_X12_act : List Cond := Cond.code yX12_act cX12_act 4 (Option.some FieldType.int) :: lwG
theorem yd_X12_act : yX12_act.cls ≠ "java/lang/invoke/MethodHandle" ∧ yX12_act.cls ≠ "java/lang/invoke/VarHandle" ∧ (parseMethodDescriptor yX12_act.desc).map (fun d => d.parameters.length) = some 3 := by decide +kernel
theorem ye_X12_act : yX12_act.cls = RX12 ∧ yX12_act.cls ≠ "java/lang/invoke/MethodHandle" ∧ yX12_act.cls ≠ "java/lang/invoke/VarHandle" ∧ (parseMethodDescriptor yX12_act.desc).map (fun d => d.parameters.length) = some 3 := by decide +kernel
set_option maxHeartbeats 4000000 in
set_option maxRecDepth 100000 in
theorem c_X12_act (l : Launch) (D : va_G) (kA ρ : Nat → Nat) (HB : Heap) (S : HSt) (a0 : Nat) (a1 : Int32) (a2 : Int32) (a3 : Int32) (res : Int32 × HSt) (h : f_X12_act S a0 a1 a2 a3 = some res) : Met l yX12_act w_X12_act rm_X12_act (hPc D kA ρ HB S [.ref a0, .int a1, .int a2, .int a3]) (hQi D kA HB S res) 0 0 (hFree HB) := by
  refine Met.ofW (cc := cX12_act) (maxL := 4) (ret := (Option.some FieldType.int)) (by decide) rfl ?_
  intro p e s m args below meth c s₁ B hml hv
  obtain ⟨rfl, hE, h0⟩ := hv
  have hx := B.exec
  have hb := B.bytes
  have hr := B.returns
  have hts0 := atoms_spec (ws := w_X12_act) B.pre
  have hts : ∀ w ∈ lwG, w.before _ s = true := fun w hw => hts0 w (List.mem_cons_of_mem _ hw)
  have hown : s.vm.findClass RX12 = some m.cls := findClass_of_methodNamed B.named
  have hlocks := B.notSynchronized
  have hI : hqX D kA HB S.2 S s.heap [] := ⟨h0, Nat.le_refl _, fun _ q => absurd q List.not_mem_nil⟩
  have hl := lv_entry ([.ref a0, .int a1, .int a2, .int a3]) (n := 4) (Nat.le_of_ble_eq_true rfl)
  rw [lg_entry_eq]
  generalize (lg_sl ([.ref a0, .int a1, .int a2, .int a3]) ++ List.replicate (4 - (lg_sl ([.ref a0, .int a1, .int a2, .int a3])).length) Slot.unset).toArray = ls at hl ⊢
  have hl : lv_has ls 4 [(0, .ref a0), (1, .int a1), (2, .int a2), (3, .int a3)] := hl
  unfold f_X12_act at h
  refine lv_aload_n hx hb dX12_act_0 rfl (lv_at hl 0 rfl) ?_
  refine lv_iconst (v := 0) hx hb dX12_act_1 (by decide) ?_
  obtain ⟨S1, g2, h⟩ := hq_bind h
  obtain ⟨fs_g2, hs_g2, hl_g2, e_g2⟩ := pV_at g2
  refine hq_put hx hb hts hown hE hI hs_g2 inG12 tyX12 tyX12_ok nmX12 rfl 16 (by decide) kw_960 rfl (v := .int 0) rfl rfl rfl hl_g2 e_g2 dX12_act_2 (fun H locs hI => ?_)
  refine lv_aload_n hx hb dX12_act_5 rfl (lv_at hl 0 rfl) ?_
  refine lv_iload_n hx hb dX12_act_6 rfl (lv_at hl 1 rfl) ?_
  obtain ⟨g4, h⟩ := hq_g h
  obtain ⟨v6, S5, g3, h⟩ := hq_bd2 h
  refine hq_calli hI (va_runV (As := [.int a1]) (rest := []) ⟨hx, hb, hml, hown, hts⟩ (c_X12_isTry l D kA ρ HB S1 a0 a1 _ g3) (cwV 1 hts (gdIn (List.forall_mem_cons.mpr ⟨kw_1028, (List.forall_mem_cons.mpr ⟨kw_1030, (List.forall_mem_cons.mpr ⟨ks_31, (List.forall_mem_cons.mpr ⟨kw_6, (fun _ h => absurd h List.not_mem_nil)⟩)⟩)⟩)⟩) kw_1031) rfl rfl rfl ye_X12_isTry ⟨Nat.le_of_ble_eq_true rfl, Nat.le_of_ble_eq_true rfl⟩) (hq_preC hE hI g4 rfl _) rfl rfl hl.1 rfl (lv_room (Nat.le_of_ble_eq_true rfl)) dX12_act_7 ⟨Nat.le_of_ble_eq_true rfl, Nat.le_of_ble_eq_true rfl⟩) (fun H locs hI => ?_)
  refine lv_if_eq (tgt := 22) hx hb dX12_act_10 (by decide) (fun c7 => ?_) (fun c7 => ?_)
  · have h := hq_t h c7
    refine lv_iconst (v := 0) hx hb dX12_act_22 (by decide) ?_
    exact hq_iret hx hb hr hlocks h0 hI h dX12_act_23
  · have h := hq_f h c7
    refine lv_iload_n hx hb dX12_act_13 rfl (lv_at hl 2 rfl) ?_
    refine lv_iconst (v := 0) hx hb dX12_act_14 (by decide) ?_
    refine lv_iconst (v := 2) hx hb dX12_act_15 (by decide) ?_
    obtain ⟨v10, S9, g8, h⟩ := hq_bd2 h
    refine hq_calli hI (va_runS (As := [.int a2, .int 0, .int 2]) (rest := []) ⟨hx, hb, hml, hown, hts⟩ (c_X12_in l D kA ρ HB S5 a2 0 2 _ g8) (va_cwS 3 hts (gdIn (List.forall_mem_cons.mpr ⟨kw_1010, (List.forall_mem_cons.mpr ⟨kw_1011, (List.forall_mem_cons.mpr ⟨kw_6, (fun _ h => absurd h List.not_mem_nil)⟩)⟩)⟩) kw_1012) rfl rfl rfl yd_X12_in ⟨Nat.le_of_ble_eq_true rfl, Nat.le_of_ble_eq_true rfl⟩) (hq_preS hE hI _) rfl rfl hl.1 rfl (lv_room (Nat.le_of_ble_eq_true rfl)) dX12_act_16 ⟨Nat.le_of_ble_eq_true rfl, Nat.le_of_ble_eq_true rfl⟩) (fun H locs hI => ?_)
    refine lv_if_ne (tgt := 24) hx hb dX12_act_19 (by decide) (fun c11 => ?_) (fun c11 => ?_)
    · have h := hq_f h c11
      refine lv_aload_n hx hb dX12_act_24 rfl (lv_at hl 0 rfl) ?_
      refine lv_aload_n hx hb dX12_act_25 rfl (lv_at hl 0 rfl) ?_
      obtain ⟨b12, g13, h⟩ := hq_bind h
      obtain ⟨fs_g13, hs_g13, hv_g13⟩ := gR_at g13
      refine hq_get hx hb hts hown hE hI hs_g13 inG12 rfl 1 (by decide) kw_945 hv_g13 dX12_act_26 ?_
      refine lv_sipush (v := 190) hx hb dX12_act_29 (by decide) ?_
      refine lv_iload_n hx hb dX12_act_32 rfl (lv_at hl 1 rfl) ?_
      refine lv_iadd hx hb dX12_act_33 ?_
      obtain ⟨v15, g14, h⟩ := hq_bind h
      refine hq_iald hx hb hE hI g14 dX12_act_34 ?_
      obtain ⟨S16, g17, h⟩ := hq_bind h
      obtain ⟨fs_g17, hs_g17, hl_g17, e_g17⟩ := pV_at g17
      refine hq_put hx hb hts hown hE hI hs_g17 inG12 tyX12 tyX12_ok nmX12 rfl 17 (by decide) kw_961 rfl (v := .int v15) rfl rfl rfl hl_g17 e_g17 dX12_act_35 (fun H locs hI => ?_)
      refine lv_aload_n hx hb dX12_act_38 rfl (lv_at hl 0 rfl) ?_
      refine lv_iload_n hx hb dX12_act_39 rfl (lv_at hl 1 rfl) ?_
      obtain ⟨S18, g19, h⟩ := hq_bind h
      obtain ⟨fs_g19, hs_g19, hl_g19, e_g19⟩ := pV_at g19
      refine hq_put hx hb hts hown hE hI hs_g19 inG12 tyX12 tyX12_ok nmX12 rfl 18 (by decide) kw_962 rfl (v := .int a1) rfl rfl rfl hl_g19 e_g19 dX12_act_40 (fun H locs hI => ?_)
      refine lv_aload_n hx hb dX12_act_43 rfl (lv_at hl 0 rfl) ?_
      refine lv_aload_n hx hb dX12_act_44 rfl (lv_at hl 0 rfl) ?_
      obtain ⟨b20, g21, h⟩ := hq_bind h
      obtain ⟨fs_g21, hs_g21, hv_g21⟩ := gR_at g21
      refine hq_get hx hb hts hown hE hI hs_g21 inG12 rfl 1 (by decide) kw_945 hv_g21 dX12_act_45 ?_
      refine lv_sipush (v := 250) hx hb dX12_act_48 (by decide) ?_
      refine lv_iload_n hx hb dX12_act_51 rfl (lv_at hl 1 rfl) ?_
      refine lv_iadd hx hb dX12_act_52 ?_
      obtain ⟨v23, g22, h⟩ := hq_bind h
      refine hq_iald hx hb hE hI g22 dX12_act_53 ?_
      obtain ⟨S24, g25, h⟩ := hq_bind h
      obtain ⟨fs_g25, hs_g25, hl_g25, e_g25⟩ := pV_at g25
      refine hq_put hx hb hts hown hE hI hs_g25 inG12 tyX12 tyX12_ok nmX12 rfl 19 (by decide) kw_963 rfl (v := .int v23) rfl rfl rfl hl_g25 e_g25 dX12_act_54 (fun H locs hI => ?_)
      refine lv_iload_n hx hb dX12_act_57 rfl (lv_at hl 2 rfl) ?_
      refine lv_if_ne (tgt := 69) hx hb dX12_act_58 (by decide) (fun c26 => ?_) (fun c26 => ?_)
      · have h := hq_f h c26
        refine lv_iload_n hx hb dX12_act_69 rfl (lv_at hl 2 rfl) ?_
        refine lv_iconst (v := 1) hx hb dX12_act_70 (by decide) ?_
        refine lv_icmp_ne (tgt := 82) hx hb dX12_act_71 (by decide) (fun c27 => ?_) (fun c27 => ?_)
        · have h := hq_f h c27
          refine lv_aload_n hx hb dX12_act_82 rfl (lv_at hl 0 rfl) ?_
          refine lv_iload_n hx hb dX12_act_83 rfl (lv_at hl 3 rfl) ?_
          obtain ⟨g29, h⟩ := hq_g h
          obtain ⟨v31, S30, g28, h⟩ := hq_bd2 h
          refine hq_calli hI (va_runV (As := [.int a3]) (rest := []) ⟨hx, hb, hml, hown, hts⟩ (c_X12_tellsActs l D kA ρ HB S24 a0 a3 _ g28) (cwV 1 hts (gdIn (List.forall_mem_cons.mpr ⟨kw_1337, (List.forall_mem_cons.mpr ⟨kw_1339, (List.forall_mem_cons.mpr ⟨ks_74, (List.forall_mem_cons.mpr ⟨kw_6, (fun _ h => absurd h List.not_mem_nil)⟩)⟩)⟩)⟩) kw_1340) rfl rfl rfl ye_X12_tellsActs ⟨Nat.le_of_ble_eq_true rfl, Nat.le_of_ble_eq_true rfl⟩) (hq_preC hE hI g29 rfl _) rfl rfl hl.1 rfl (lv_room (Nat.le_of_ble_eq_true rfl)) dX12_act_84 ⟨Nat.le_of_ble_eq_true rfl, Nat.le_of_ble_eq_true rfl⟩) (fun H locs hI => ?_)
          exact hq_iret hx hb hr hlocks h0 hI h dX12_act_87
        · have h := hq_t h c27
          refine lv_aload_n hx hb dX12_act_74 rfl (lv_at hl 0 rfl) ?_
          refine lv_iload_n hx hb dX12_act_75 rfl (lv_at hl 3 rfl) ?_
          obtain ⟨g33, h⟩ := hq_g h
          obtain ⟨v35, S34, g32, h⟩ := hq_bd2 h
          refine hq_calli hI (va_runV (As := [.int a3]) (rest := []) ⟨hx, hb, hml, hown, hts⟩ (c_X12_knowsActs l D kA ρ HB S24 a0 a3 _ g32) (cwV 1 hts (gdIn (List.forall_mem_cons.mpr ⟨kw_1326, (List.forall_mem_cons.mpr ⟨kw_1328, (List.forall_mem_cons.mpr ⟨ks_72, (List.forall_mem_cons.mpr ⟨kw_6, (fun _ h => absurd h List.not_mem_nil)⟩)⟩)⟩)⟩) kw_1329) rfl rfl rfl ye_X12_knowsActs ⟨Nat.le_of_ble_eq_true rfl, Nat.le_of_ble_eq_true rfl⟩) (hq_preC hE hI g33 rfl _) rfl rfl hl.1 rfl (lv_room (Nat.le_of_ble_eq_true rfl)) dX12_act_76 ⟨Nat.le_of_ble_eq_true rfl, Nat.le_of_ble_eq_true rfl⟩) (fun H locs hI => ?_)
          refine lv_goto (tgt := 87) hx hb dX12_act_79 (by decide) ?_
          exact hq_iret hx hb hr hlocks h0 hI h dX12_act_87
      · have h := hq_t h c26
        refine lv_aload_n hx hb dX12_act_61 rfl (lv_at hl 0 rfl) ?_
        refine lv_iload_n hx hb dX12_act_62 rfl (lv_at hl 3 rfl) ?_
        obtain ⟨g37, h⟩ := hq_g h
        obtain ⟨v39, S38, g36, h⟩ := hq_bd2 h
        refine hq_calli hI (va_runV (As := [.int a3]) (rest := []) ⟨hx, hb, hml, hown, hts⟩ (c_X12_saysActs l D kA ρ HB S24 a0 a3 _ g36) (cwV 1 hts (gdIn (List.forall_mem_cons.mpr ⟨kw_1314, (List.forall_mem_cons.mpr ⟨kw_1316, (List.forall_mem_cons.mpr ⟨ks_69, (List.forall_mem_cons.mpr ⟨kw_6, (fun _ h => absurd h List.not_mem_nil)⟩)⟩)⟩)⟩) kw_1317) rfl rfl rfl ye_X12_saysActs ⟨Nat.le_of_ble_eq_true rfl, Nat.le_of_ble_eq_true rfl⟩) (hq_preC hE hI g37 rfl _) rfl rfl hl.1 rfl (lv_room (Nat.le_of_ble_eq_true rfl)) dX12_act_63 ⟨Nat.le_of_ble_eq_true rfl, Nat.le_of_ble_eq_true rfl⟩) (fun H locs hI => ?_)
        refine lv_goto (tgt := 87) hx hb dX12_act_66 (by decide) ?_
        exact hq_iret hx hb hr hlocks h0 hI h dX12_act_87
    · have h := hq_t h c11
      refine lv_iconst (v := 0) hx hb dX12_act_22 (by decide) ?_
      exact hq_iret hx hb hr hlocks h0 hI h dX12_act_23
-- RodDipsModel.trace(I)I
theorem dX12_trace_0 : decode cX12_trace 0 = .ok (.iload_n 1, 1) := by decide +kernel
theorem dX12_trace_1 : decode cX12_trace 1 = .ok (.iconst 0, 1) := by decide +kernel
theorem dX12_trace_2 : decode cX12_trace 2 = .ok (.aload_n 0, 1) := by decide +kernel
theorem dX12_trace_3 : decode cX12_trace 3 = .ok (.getfield 264, 3) := by decide +kernel
theorem dX12_trace_6 : decode cX12_trace 6 = .ok (.bipush 20, 2) := by decide +kernel
theorem dX12_trace_8 : decode cX12_trace 8 = .ok (.if_icmp .ge 10, 3) := by decide +kernel
theorem dX12_trace_11 : decode cX12_trace 11 = .ok (.aload_n 0, 1) := by decide +kernel
theorem dX12_trace_12 : decode cX12_trace 12 = .ok (.getfield 264, 3) := by decide +kernel
theorem dX12_trace_15 : decode cX12_trace 15 = .ok (.goto 5, 3) := by decide +kernel
theorem dX12_trace_18 : decode cX12_trace 18 = .ok (.bipush 20, 2) := by decide +kernel
theorem dX12_trace_20 : decode cX12_trace 20 = .ok (.iconst 1, 1) := by decide +kernel
theorem dX12_trace_21 : decode cX12_trace 21 = .ok (.isub, 1) := by decide +kernel
theorem dX12_trace_22 : decode cX12_trace 22 = .ok (.invokestatic 39, 3) := by decide +kernel
theorem dX12_trace_25 : decode cX12_trace 25 = .ok (.ifCond .eq 12, 3) := by decide +kernel
theorem dX12_trace_28 : decode cX12_trace 28 = .ok (.aload_n 0, 1) := by decide +kernel
theorem dX12_trace_29 : decode cX12_trace 29 = .ok (.getfield 32, 3) := by decide +kernel
theorem dX12_trace_32 : decode cX12_trace 32 = .ok (.iload_n 1, 1) := by decide +kernel
theorem dX12_trace_33 : decode cX12_trace 33 = .ok (.iaload, 1) := by decide +kernel
theorem dX12_trace_34 : decode cX12_trace 34 = .ok (.goto 4, 3) := by decide +kernel
theorem dX12_trace_37 : decode cX12_trace 37 = .ok (.iconst (-1), 1) := by decide +kernel
theorem dX12_trace_38 : decode cX12_trace 38 = .ok (.ireturn, 1) := by decide +kernel
def f_X12_trace_J20 (a0 : Nat) (a1 : Int32) (y3 : Int32) (S4 : HSt) : Option (Int32 × HSt) := bd2 (f_X12_in S4 a1 0 (y3 - 1)) fun v7 S6 => if v7 = 0 then (some ((-1), S6)) else ((gR S6 a0 12 15).bind fun b9 => (aI S6 b9 0 a1).bind fun v12 => some (v12, S6))
def f_X12_trace (S : HSt) (a0 : Nat) (a1 : Int32) : Option (Int32 × HSt) := (gI S a0 12 16).bind fun v1 => if 20 ≤ v1 then ((f_X12_trace_J20 a0 a1) 20 S) else ((gI S a0 12 16).bind fun v14 => (f_X12_trace_J20 a0 a1) v14 S)
abbrev rm_X12_trace : Room := { frames := 1, cells := 0, slots := 0, locals := 22 }
abbrev w_X12_trace : List Cond := Cond.code yX12_trace cX12_trace 2 (Option.some FieldType.int) :: lwG
theorem yd_X12_trace : yX12_trace.cls ≠ "java/lang/invoke/MethodHandle" ∧ yX12_trace.cls ≠ "java/lang/invoke/VarHandle" ∧ (parseMethodDescriptor yX12_trace.desc).map (fun d => d.parameters.length) = some 1 := by decide +kernel
theorem ye_X12_trace : yX12_trace.cls = RX12 ∧ yX12_trace.cls ≠ "java/lang/invoke/MethodHandle" ∧ yX12_trace.cls ≠ "java/lang/invoke/VarHandle" ∧ (parseMethodDescriptor yX12_trace.desc).map (fun d => d.parameters.length) = some 1 := by decide +kernel
set_option maxHeartbeats 4000000 in
set_option maxRecDepth 100000 in
theorem c_X12_trace (l : Launch) (D : va_G) (kA ρ : Nat → Nat) (HB : Heap) (S : HSt) (a0 : Nat) (a1 : Int32) (res : Int32 × HSt) (h : f_X12_trace S a0 a1 = some res) : Met l yX12_trace w_X12_trace rm_X12_trace (hPc D kA ρ HB S [.ref a0, .int a1]) (hQi D kA HB S res) 0 0 (hFree HB) := by
  refine Met.ofW (cc := cX12_trace) (maxL := 2) (ret := (Option.some FieldType.int)) (by decide) rfl ?_
  intro p e s m args below meth c s₁ B hml hv
  obtain ⟨rfl, hE, h0⟩ := hv
  have hx := B.exec
  have hb := B.bytes
  have hr := B.returns
  have hts0 := atoms_spec (ws := w_X12_trace) B.pre
  have hts : ∀ w ∈ lwG, w.before _ s = true := fun w hw => hts0 w (List.mem_cons_of_mem _ hw)
  have hown : s.vm.findClass RX12 = some m.cls := findClass_of_methodNamed B.named
  have hlocks := B.notSynchronized
  have hI : hqX D kA HB S.2 S s.heap [] := ⟨h0, Nat.le_refl _, fun _ q => absurd q List.not_mem_nil⟩
  have hl := lv_entry ([.ref a0, .int a1]) (n := 2) (Nat.le_of_ble_eq_true rfl)
  rw [lg_entry_eq]
  generalize (lg_sl ([.ref a0, .int a1]) ++ List.replicate (2 - (lg_sl ([.ref a0, .int a1])).length) Slot.unset).toArray = ls at hl ⊢
  have hl : lv_has ls 2 [(0, .ref a0), (1, .int a1)] := hl
  unfold f_X12_trace at h
  refine lv_iload_n hx hb dX12_trace_0 rfl (lv_at hl 1 rfl) ?_
  refine lv_iconst (v := 0) hx hb dX12_trace_1 (by decide) ?_
  refine lv_aload_n hx hb dX12_trace_2 rfl (lv_at hl 0 rfl) ?_
  obtain ⟨v1, g2, h⟩ := hq_bind h
  obtain ⟨fs_g2, hs_g2, hv_g2⟩ := gI_at g2
  refine hq_get hx hb hts hown hE hI hs_g2 inG12 rfl 16 (by decide) kw_960 hv_g2 dX12_trace_3 ?_
  refine lv_bipush (v := 20) hx hb dX12_trace_6 (by decide) ?_
  have hJ20 : ∀ (y3 : Int32) (S4 : HSt) (H : Heap) (locs : List Loc) (ls : Array Slot), (f_X12_trace_J20 a0 a1) y3 S4 = some res → hqX D kA HB S.2 S4 H locs → lv_has ls 2 [(0, .ref a0), (1, .int a1)] → W p l e rm_X12_trace s m ([.ref a0, .int a1] : List Value).toArray below meth c H locs 0 0 (MQ below (hQi D kA HB S res) ([.ref a0, .int a1] : List Value).toArray s 0 0 (hFree HB)) (F0 m 20 ls [.int y3, .int 0, .int a1]) := by
    intro y3 S4 H locs ls h hI hl
    unfold f_X12_trace_J20 at h
    refine lv_iconst (v := 1) hx hb dX12_trace_20 (by decide) ?_
    refine lv_isub hx hb dX12_trace_21 ?_
    obtain ⟨v7, S6, g5, h⟩ := hq_bd2 h
    refine hq_calli hI (va_runS (As := [.int a1, .int 0, .int (y3 - 1)]) (rest := []) ⟨hx, hb, hml, hown, hts⟩ (c_X12_in l D kA ρ HB S4 a1 0 (y3 - 1) _ g5) (va_cwS 3 hts (gdIn (List.forall_mem_cons.mpr ⟨kw_1010, (List.forall_mem_cons.mpr ⟨kw_1011, (List.forall_mem_cons.mpr ⟨kw_6, (fun _ h => absurd h List.not_mem_nil)⟩)⟩)⟩) kw_1012) rfl rfl rfl yd_X12_in ⟨Nat.le_of_ble_eq_true rfl, Nat.le_of_ble_eq_true rfl⟩) (hq_preS hE hI _) rfl rfl hl.1 rfl (lv_room (Nat.le_of_ble_eq_true rfl)) dX12_trace_22 ⟨Nat.le_of_ble_eq_true rfl, Nat.le_of_ble_eq_true rfl⟩) (fun H locs hI => ?_)
    refine lv_if_eq (tgt := 37) hx hb dX12_trace_25 (by decide) (fun c8 => ?_) (fun c8 => ?_)
    · have h := hq_t h c8
      refine lv_iconst (v := (-1)) hx hb dX12_trace_37 (by decide) ?_
      exact hq_iret hx hb hr hlocks h0 hI h dX12_trace_38
    · have h := hq_f h c8
      refine lv_aload_n hx hb dX12_trace_28 rfl (lv_at hl 0 rfl) ?_
      obtain ⟨b9, g10, h⟩ := hq_bind h
      obtain ⟨fs_g10, hs_g10, hv_g10⟩ := gR_at g10
      refine hq_get hx hb hts hown hE hI hs_g10 inG12 rfl 15 (by decide) kw_959 hv_g10 dX12_trace_29 ?_
      refine lv_iload_n hx hb dX12_trace_32 rfl (lv_at hl 1 rfl) ?_
      obtain ⟨v12, g11, h⟩ := hq_bind h
      refine hq_iald hx hb hE hI g11 dX12_trace_33 ?_
      refine lv_goto (tgt := 38) hx hb dX12_trace_34 (by decide) ?_
      exact hq_iret hx hb hr hlocks h0 hI h dX12_trace_38
  refine lv_icmp_ge (tgt := 18) hx hb dX12_trace_8 (by decide) (fun c13 => ?_) (fun c13 => ?_)
  · have h := hq_t h c13
    refine lv_bipush (v := 20) hx hb dX12_trace_18 (by decide) ?_
    exact hJ20 20 S _ _ _ h hI (lv_sub hl [0, 1] rfl)
  · have h := hq_f h c13
    refine lv_aload_n hx hb dX12_trace_11 rfl (lv_at hl 0 rfl) ?_
    obtain ⟨v14, g15, h⟩ := hq_bind h
    obtain ⟨fs_g15, hs_g15, hv_g15⟩ := gI_at g15
    refine hq_get hx hb hts hown hE hI hs_g15 inG12 rfl 16 (by decide) kw_960 hv_g15 dX12_trace_12 ?_
    refine lv_goto (tgt := 20) hx hb dX12_trace_15 (by decide) ?_
    exact hJ20 v14 S _ _ _ h hI (lv_sub hl [0, 1] rfl)
-- RodDipsModel.as(II)I
theorem dX12_as_0 : decode cX12_as 0 = .ok (.aload_n 0, 1) := by decide +kernel
theorem dX12_as_1 : decode cX12_as 1 = .ok (.iload_n 1, 1) := by decide +kernel
theorem dX12_as_2 : decode cX12_as 2 = .ok (.invokevirtual 50, 3) := by decide +kernel
theorem dX12_as_5 : decode cX12_as 5 = .ok (.ifCond .eq 13, 3) := by decide +kernel
theorem dX12_as_8 : decode cX12_as 8 = .ok (.iload_n 2, 1) := by decide +kernel
theorem dX12_as_9 : decode cX12_as 9 = .ok (.iconst 0, 1) := by decide +kernel
theorem dX12_as_10 : decode cX12_as 10 = .ok (.bipush 6, 2) := by decide +kernel
theorem dX12_as_12 : decode cX12_as 12 = .ok (.invokestatic 39, 3) := by decide +kernel
theorem dX12_as_15 : decode cX12_as 15 = .ok (.ifCond .ne 5, 3) := by decide +kernel
theorem dX12_as_18 : decode cX12_as 18 = .ok (.iconst (-1), 1) := by decide +kernel
theorem dX12_as_19 : decode cX12_as 19 = .ok (.ireturn, 1) := by decide +kernel
theorem dX12_as_20 : decode cX12_as 20 = .ok (.aload_n 0, 1) := by decide +kernel
theorem dX12_as_21 : decode cX12_as 21 = .ok (.getfield 9, 3) := by decide +kernel
theorem dX12_as_24 : decode cX12_as 24 = .ok (.sipush 190, 3) := by decide +kernel
theorem dX12_as_27 : decode cX12_as 27 = .ok (.iload_n 1, 1) := by decide +kernel
theorem dX12_as_28 : decode cX12_as 28 = .ok (.iadd, 1) := by decide +kernel
theorem dX12_as_29 : decode cX12_as 29 = .ok (.iaload, 1) := by decide +kernel
theorem dX12_as_30 : decode cX12_as 30 = .ok (.iload_n 2, 1) := by decide +kernel
theorem dX12_as_31 : decode cX12_as 31 = .ok (.invokestatic 288, 3) := by decide +kernel
theorem dX12_as_34 : decode cX12_as 34 = .ok (.ifCond .eq 11, 3) := by decide +kernel
theorem dX12_as_37 : decode cX12_as 37 = .ok (.aload_n 0, 1) := by decide +kernel
theorem dX12_as_38 : decode cX12_as 38 = .ok (.iload_n 1, 1) := by decide +kernel
theorem dX12_as_39 : decode cX12_as 39 = .ok (.invokevirtual 57, 3) := by decide +kernel
theorem dX12_as_42 : decode cX12_as 42 = .ok (.goto 5, 3) := by decide +kernel
theorem dX12_as_45 : decode cX12_as 45 = .ok (.bipush (-6), 2) := by decide +kernel
theorem dX12_as_47 : decode cX12_as 47 = .ok (.ireturn, 1) := by decide +kernel
def f_X12_as (S : HSt) (a0 : Nat) (a1 : Int32) (a2 : Int32) : Option (Int32 × HSt) := if gC S a0 = some 12 then (bd2 (f_X12_isTry S a0 a1) fun v4 S3 => if v4 = 0 then (some ((-1), S3)) else (bd2 (f_X12_in S3 a2 0 6) fun v8 S7 => if v8 = 0 then (some ((-1), S7)) else ((gR S7 a0 12 1).bind fun b10 => (aI S7 b10 0 (190 + a1)).bind fun v13 => bd2 (f_X12_isUnder S7 v13 a2) fun v16 S15 => if v16 = 0 then (some ((-6), S15)) else (if gC S15 a0 = some 12 then (bd2 (f_X12_nearOf S15 a0 a1) fun v21 S20 => some (v21, S20)) else none)))) else none
abbrev rm_X12_as : Room := { frames := 2, cells := 0, slots := 0, locals := 43 }
abbrev w_X12_as : List Cond := Cond.code yX12_as cX12_as 3 (Option.some FieldType.int) :: lwG
theorem yd_X12_as : yX12_as.cls ≠ "java/lang/invoke/MethodHandle" ∧ yX12_as.cls ≠ "java/lang/invoke/VarHandle" ∧ (parseMethodDescriptor yX12_as.desc).map (fun d => d.parameters.length) = some 2 := by decide +kernel
theorem ye_X12_as : yX12_as.cls = RX12 ∧ yX12_as.cls ≠ "java/lang/invoke/MethodHandle" ∧ yX12_as.cls ≠ "java/lang/invoke/VarHandle" ∧ (parseMethodDescriptor yX12_as.desc).map (fun d => d.parameters.length) = some 2 := by decide +kernel
set_option maxHeartbeats 4000000 in
set_option maxRecDepth 100000 in
theorem c_X12_as (l : Launch) (D : va_G) (kA ρ : Nat → Nat) (HB : Heap) (S : HSt) (a0 : Nat) (a1 : Int32) (a2 : Int32) (res : Int32 × HSt) (h : f_X12_as S a0 a1 a2 = some res) : Met l yX12_as w_X12_as rm_X12_as (hPc D kA ρ HB S [.ref a0, .int a1, .int a2]) (hQi D kA HB S res) 0 0 (hFree HB) := by
  refine Met.ofW (cc := cX12_as) (maxL := 3) (ret := (Option.some FieldType.int)) (by decide) rfl ?_
  intro p e s m args below meth c s₁ B hml hv
  obtain ⟨rfl, hE, h0⟩ := hv
  have hx := B.exec
  have hb := B.bytes
  have hr := B.returns
  have hts0 := atoms_spec (ws := w_X12_as) B.pre
  have hts : ∀ w ∈ lwG, w.before _ s = true := fun w hw => hts0 w (List.mem_cons_of_mem _ hw)
  have hown : s.vm.findClass RX12 = some m.cls := findClass_of_methodNamed B.named
  have hlocks := B.notSynchronized
  have hI : hqX D kA HB S.2 S s.heap [] := ⟨h0, Nat.le_refl _, fun _ q => absurd q List.not_mem_nil⟩
  have hl := lv_entry ([.ref a0, .int a1, .int a2]) (n := 3) (Nat.le_of_ble_eq_true rfl)
  rw [lg_entry_eq]
  generalize (lg_sl ([.ref a0, .int a1, .int a2]) ++ List.replicate (3 - (lg_sl ([.ref a0, .int a1, .int a2])).length) Slot.unset).toArray = ls at hl ⊢
  have hl : lv_has ls 3 [(0, .ref a0), (1, .int a1), (2, .int a2)] := hl
  unfold f_X12_as at h
  refine lv_aload_n hx hb dX12_as_0 rfl (lv_at hl 0 rfl) ?_
  refine lv_iload_n hx hb dX12_as_1 rfl (lv_at hl 1 rfl) ?_
  obtain ⟨g2, h⟩ := hq_g h
  obtain ⟨v4, S3, g1, h⟩ := hq_bd2 h
  refine hq_calli hI (va_runV (As := [.int a1]) (rest := []) ⟨hx, hb, hml, hown, hts⟩ (c_X12_isTry l D kA ρ HB S a0 a1 _ g1) (cwV 1 hts (gdIn (List.forall_mem_cons.mpr ⟨kw_1028, (List.forall_mem_cons.mpr ⟨kw_1030, (List.forall_mem_cons.mpr ⟨ks_31, (List.forall_mem_cons.mpr ⟨kw_6, (fun _ h => absurd h List.not_mem_nil)⟩)⟩)⟩)⟩) kw_1031) rfl rfl rfl ye_X12_isTry ⟨Nat.le_of_ble_eq_true rfl, Nat.le_of_ble_eq_true rfl⟩) (hq_preC hE hI g2 rfl _) rfl rfl hl.1 rfl (lv_room (Nat.le_of_ble_eq_true rfl)) dX12_as_2 ⟨Nat.le_of_ble_eq_true rfl, Nat.le_of_ble_eq_true rfl⟩) (fun H locs hI => ?_)
  refine lv_if_eq (tgt := 18) hx hb dX12_as_5 (by decide) (fun c5 => ?_) (fun c5 => ?_)
  · have h := hq_t h c5
    refine lv_iconst (v := (-1)) hx hb dX12_as_18 (by decide) ?_
    exact hq_iret hx hb hr hlocks h0 hI h dX12_as_19
  · have h := hq_f h c5
    refine lv_iload_n hx hb dX12_as_8 rfl (lv_at hl 2 rfl) ?_
    refine lv_iconst (v := 0) hx hb dX12_as_9 (by decide) ?_
    refine lv_bipush (v := 6) hx hb dX12_as_10 (by decide) ?_
    obtain ⟨v8, S7, g6, h⟩ := hq_bd2 h
    refine hq_calli hI (va_runS (As := [.int a2, .int 0, .int 6]) (rest := []) ⟨hx, hb, hml, hown, hts⟩ (c_X12_in l D kA ρ HB S3 a2 0 6 _ g6) (va_cwS 3 hts (gdIn (List.forall_mem_cons.mpr ⟨kw_1010, (List.forall_mem_cons.mpr ⟨kw_1011, (List.forall_mem_cons.mpr ⟨kw_6, (fun _ h => absurd h List.not_mem_nil)⟩)⟩)⟩) kw_1012) rfl rfl rfl yd_X12_in ⟨Nat.le_of_ble_eq_true rfl, Nat.le_of_ble_eq_true rfl⟩) (hq_preS hE hI _) rfl rfl hl.1 rfl (lv_room (Nat.le_of_ble_eq_true rfl)) dX12_as_12 ⟨Nat.le_of_ble_eq_true rfl, Nat.le_of_ble_eq_true rfl⟩) (fun H locs hI => ?_)
    refine lv_if_ne (tgt := 20) hx hb dX12_as_15 (by decide) (fun c9 => ?_) (fun c9 => ?_)
    · have h := hq_f h c9
      refine lv_aload_n hx hb dX12_as_20 rfl (lv_at hl 0 rfl) ?_
      obtain ⟨b10, g11, h⟩ := hq_bind h
      obtain ⟨fs_g11, hs_g11, hv_g11⟩ := gR_at g11
      refine hq_get hx hb hts hown hE hI hs_g11 inG12 rfl 1 (by decide) kw_945 hv_g11 dX12_as_21 ?_
      refine lv_sipush (v := 190) hx hb dX12_as_24 (by decide) ?_
      refine lv_iload_n hx hb dX12_as_27 rfl (lv_at hl 1 rfl) ?_
      refine lv_iadd hx hb dX12_as_28 ?_
      obtain ⟨v13, g12, h⟩ := hq_bind h
      refine hq_iald hx hb hE hI g12 dX12_as_29 ?_
      refine lv_iload_n hx hb dX12_as_30 rfl (lv_at hl 2 rfl) ?_
      obtain ⟨v16, S15, g14, h⟩ := hq_bd2 h
      refine hq_calli hI (va_runS (As := [.int v13, .int a2]) (rest := []) ⟨hx, hb, hml, hown, hts⟩ (c_X12_isUnder l D kA ρ HB S7 v13 a2 _ g14) (va_cwS 2 hts (gdIn (List.forall_mem_cons.mpr ⟨kw_1334, (List.forall_mem_cons.mpr ⟨kw_1335, (List.forall_mem_cons.mpr ⟨kw_6, (fun _ h => absurd h List.not_mem_nil)⟩)⟩)⟩) kw_1336) rfl rfl rfl yd_X12_isUnder ⟨Nat.le_of_ble_eq_true rfl, Nat.le_of_ble_eq_true rfl⟩) (hq_preS hE hI _) rfl rfl hl.1 rfl (lv_room (Nat.le_of_ble_eq_true rfl)) dX12_as_31 ⟨Nat.le_of_ble_eq_true rfl, Nat.le_of_ble_eq_true rfl⟩) (fun H locs hI => ?_)
      refine lv_if_eq (tgt := 45) hx hb dX12_as_34 (by decide) (fun c17 => ?_) (fun c17 => ?_)
      · have h := hq_t h c17
        refine lv_bipush (v := (-6)) hx hb dX12_as_45 (by decide) ?_
        exact hq_iret hx hb hr hlocks h0 hI h dX12_as_47
      · have h := hq_f h c17
        refine lv_aload_n hx hb dX12_as_37 rfl (lv_at hl 0 rfl) ?_
        refine lv_iload_n hx hb dX12_as_38 rfl (lv_at hl 1 rfl) ?_
        obtain ⟨g19, h⟩ := hq_g h
        obtain ⟨v21, S20, g18, h⟩ := hq_bd2 h
        refine hq_calli hI (va_runV (As := [.int a1]) (rest := []) ⟨hx, hb, hml, hown, hts⟩ (c_X12_nearOf l D kA ρ HB S15 a0 a1 _ g18) (cwV 1 hts (gdIn (List.forall_mem_cons.mpr ⟨kw_1036, (List.forall_mem_cons.mpr ⟨kw_1038, (List.forall_mem_cons.mpr ⟨ks_32, (List.forall_mem_cons.mpr ⟨kw_6, (fun _ h => absurd h List.not_mem_nil)⟩)⟩)⟩)⟩) kw_1039) rfl rfl rfl ye_X12_nearOf ⟨Nat.le_of_ble_eq_true rfl, Nat.le_of_ble_eq_true rfl⟩) (hq_preC hE hI g19 rfl _) rfl rfl hl.1 rfl (lv_room (Nat.le_of_ble_eq_true rfl)) dX12_as_39 ⟨Nat.le_of_ble_eq_true rfl, Nat.le_of_ble_eq_true rfl⟩) (fun H locs hI => ?_)
        refine lv_goto (tgt := 47) hx hb dX12_as_42 (by decide) ?_
        exact hq_iret hx hb hr hlocks h0 hI h dX12_as_47
    · have h := hq_t h c9
      refine lv_iconst (v := (-1)) hx hb dX12_as_18 (by decide) ?_
      exact hq_iret hx hb hr hlocks h0 hI h dX12_as_19
-- RodDipsModel.image()I
theorem dX12_image_0 : decode cX12_image 0 = .ok (.iconst 0, 1) := by decide +kernel
theorem dX12_image_1 : decode cX12_image 1 = .ok (.istore_n 1, 1) := by decide +kernel
theorem dX12_image_2 : decode cX12_image 2 = .ok (.iload_n 1, 1) := by decide +kernel
theorem dX12_image_3 : decode cX12_image 3 = .ok (.sipush 1735, 3) := by decide +kernel
theorem dX12_image_6 : decode cX12_image 6 = .ok (.if_icmp .ge 21, 3) := by decide +kernel
theorem dX12_image_9 : decode cX12_image 9 = .ok (.aload_n 0, 1) := by decide +kernel
theorem dX12_image_10 : decode cX12_image 10 = .ok (.getfield 15, 3) := by decide +kernel
theorem dX12_image_13 : decode cX12_image 13 = .ok (.iload_n 1, 1) := by decide +kernel
theorem dX12_image_14 : decode cX12_image 14 = .ok (.aload_n 0, 1) := by decide +kernel
theorem dX12_image_15 : decode cX12_image 15 = .ok (.getfield 9, 3) := by decide +kernel
theorem dX12_image_18 : decode cX12_image 18 = .ok (.iload_n 1, 1) := by decide +kernel
theorem dX12_image_19 : decode cX12_image 19 = .ok (.iaload, 1) := by decide +kernel
theorem dX12_image_20 : decode cX12_image 20 = .ok (.iastore, 1) := by decide +kernel
theorem dX12_image_21 : decode cX12_image 21 = .ok (.iinc 1 1, 3) := by decide +kernel
theorem dX12_image_24 : decode cX12_image 24 = .ok (.goto (-22), 3) := by decide +kernel
theorem dX12_image_27 : decode cX12_image 27 = .ok (.aload_n 0, 1) := by decide +kernel
theorem dX12_image_28 : decode cX12_image 28 = .ok (.iconst 1, 1) := by decide +kernel
theorem dX12_image_29 : decode cX12_image 29 = .ok (.putfield 300, 3) := by decide +kernel
theorem dX12_image_32 : decode cX12_image 32 = .ok (.aload_n 0, 1) := by decide +kernel
theorem dX12_image_33 : decode cX12_image 33 = .ok (.getfield 9, 3) := by decide +kernel
theorem dX12_image_36 : decode cX12_image 36 = .ok (.iconst 1, 1) := by decide +kernel
theorem dX12_image_37 : decode cX12_image 37 = .ok (.iaload, 1) := by decide +kernel
theorem dX12_image_38 : decode cX12_image 38 = .ok (.ireturn, 1) := by decide +kernel
def f_X12_image_K27 (a0 : Nat) (S1 : HSt) : Option (Int32 × HSt) := (pV S1 a0 12 3 (.int 1)).bind fun S2 => (gR S2 a0 12 1).bind fun b4 => (aI S2 b4 0 1).bind fun v7 => some (v7, S2)
def f_X12_image_B2 (a0 : Nat) (kx27 : (HSt → Option (Int32 × HSt))) (kb2 : (Int32 → HSt → Option (Int32 × HSt))) (x8 : Int32) (S9 : HSt) : Option (Int32 × HSt) := if 1735 ≤ x8 then (kx27 S9) else ((gR S9 a0 12 2).bind fun b11 => (gR S9 a0 12 1).bind fun b13 => (aI S9 b13 0 x8).bind fun v16 => (sI S9 b11 0 x8 v16).bind fun S18 => kb2 (x8 + 1) S18)
def f_X12_image_L2 (a0 : Nat) (kx27 : (HSt → Option (Int32 × HSt))) : Nat → Int32 → HSt → Option (Int32 × HSt)
  | 0, _, _ => none
  | n + 1, x8, S => f_X12_image_B2 a0 kx27 (f_X12_image_L2 a0 kx27 n) x8 S
def f_X12_image (S : HSt) (a0 : Nat) : Option (Int32 × HSt) := (f_X12_image_L2 a0 (f_X12_image_K27 a0) FU) 0 S
abbrev rm_X12_image : Room := { frames := 0, cells := 0, slots := 0, locals := 0 }
abbrev w_X12_image : List Cond := Cond.code yX12_image cX12_image 2 (Option.some FieldType.int) :: lwG
theorem yd_X12_image : yX12_image.cls ≠ "java/lang/invoke/MethodHandle" ∧ yX12_image.cls ≠ "java/lang/invoke/VarHandle" ∧ (parseMethodDescriptor yX12_image.desc).map (fun d => d.parameters.length) = some 0 := by decide +kernel
theorem ye_X12_image : yX12_image.cls = RX12 ∧ yX12_image.cls ≠ "java/lang/invoke/MethodHandle" ∧ yX12_image.cls ≠ "java/lang/invoke/VarHandle" ∧ (parseMethodDescriptor yX12_image.desc).map (fun d => d.parameters.length) = some 0 := by decide +kernel
set_option maxHeartbeats 4000000 in
set_option maxRecDepth 100000 in
theorem c_X12_image (l : Launch) (D : va_G) (kA ρ : Nat → Nat) (HB : Heap) (S : HSt) (a0 : Nat) (res : Int32 × HSt) (h : f_X12_image S a0 = some res) : Met l yX12_image w_X12_image rm_X12_image (hPc D kA ρ HB S [.ref a0]) (hQi D kA HB S res) 0 0 (hFree HB) := by
  refine Met.ofW (cc := cX12_image) (maxL := 2) (ret := (Option.some FieldType.int)) (by decide) rfl ?_
  intro p e s m args below meth c s₁ B hml hv
  obtain ⟨rfl, hE, h0⟩ := hv
  have hx := B.exec
  have hb := B.bytes
  have hr := B.returns
  have hts0 := atoms_spec (ws := w_X12_image) B.pre
  have hts : ∀ w ∈ lwG, w.before _ s = true := fun w hw => hts0 w (List.mem_cons_of_mem _ hw)
  have hown : s.vm.findClass RX12 = some m.cls := findClass_of_methodNamed B.named
  have hlocks := B.notSynchronized
  have hI : hqX D kA HB S.2 S s.heap [] := ⟨h0, Nat.le_refl _, fun _ q => absurd q List.not_mem_nil⟩
  have hl := lv_entry ([.ref a0]) (n := 2) (Nat.le_of_ble_eq_true rfl)
  rw [lg_entry_eq]
  generalize (lg_sl ([.ref a0]) ++ List.replicate (2 - (lg_sl ([.ref a0])).length) Slot.unset).toArray = ls at hl ⊢
  have hl : lv_has ls 2 [(0, .ref a0)] := hl
  unfold f_X12_image at h
  refine lv_iconst (v := 0) hx hb dX12_image_0 (by decide) ?_
  refine lv_istore_n (lv' := [(1, .int 0), (0, .ref a0)]) hx hb dX12_image_1 rfl hl (by decide) rfl (fun ls hl => ?_)
  have hK27 : ∀ (S1 : HSt) (H : Heap) (locs : List Loc) (ls : Array Slot), (f_X12_image_K27 a0) S1 = some res → hqX D kA HB S.2 S1 H locs → lv_has ls 2 [(0, .ref a0)] → W p l e rm_X12_image s m ([.ref a0] : List Value).toArray below meth c H locs 0 0 (MQ below (hQi D kA HB S res) ([.ref a0] : List Value).toArray s 0 0 (hFree HB)) (F0 m 27 ls []) := by
    intro S1 H locs ls h hI hl
    unfold f_X12_image_K27 at h
    refine lv_aload_n hx hb dX12_image_27 rfl (lv_at hl 0 rfl) ?_
    refine lv_iconst (v := 1) hx hb dX12_image_28 (by decide) ?_
    obtain ⟨S2, g3, h⟩ := hq_bind h
    obtain ⟨fs_g3, hs_g3, hl_g3, e_g3⟩ := pV_at g3
    refine hq_put hx hb hts hown hE hI hs_g3 inG12 tyX12 tyX12_ok nmX12 rfl 3 (by decide) kw_947 rfl (v := .int 1) rfl rfl rfl hl_g3 e_g3 dX12_image_29 (fun H locs hI => ?_)
    refine lv_aload_n hx hb dX12_image_32 rfl (lv_at hl 0 rfl) ?_
    obtain ⟨b4, g5, h⟩ := hq_bind h
    obtain ⟨fs_g5, hs_g5, hv_g5⟩ := gR_at g5
    refine hq_get hx hb hts hown hE hI hs_g5 inG12 rfl 1 (by decide) kw_945 hv_g5 dX12_image_33 ?_
    refine lv_iconst (v := 1) hx hb dX12_image_36 (by decide) ?_
    obtain ⟨v7, g6, h⟩ := hq_bind h
    refine hq_iald hx hb hE hI g6 dX12_image_37 ?_
    exact hq_iret hx hb hr hlocks h0 hI h dX12_image_38
  have hL2 : ∀ (n2 : Nat) (x8 : Int32) (S9 : HSt) (H : Heap) (locs : List Loc) (ls : Array Slot), (f_X12_image_L2 a0 (f_X12_image_K27 a0) n2) x8 S9 = some res → hqX D kA HB S.2 S9 H locs → lv_has ls 2 [(0, .ref a0), (1, .int x8)] → W p l e rm_X12_image s m ([.ref a0] : List Value).toArray below meth c H locs 0 0 (MQ below (hQi D kA HB S res) ([.ref a0] : List Value).toArray s 0 0 (hFree HB)) (F0 m 2 ls []) := by
    intro n2
    induction n2 with
    | zero =>
      intro x8 S9 H locs ls h
      have h : (none : Option (Int32 × HSt)) = some res := h
      cases h
    | succ n2 ih2 =>
      intro x8 S9 H locs ls h hI hl
      have h : f_X12_image_B2 a0 (f_X12_image_K27 a0) (f_X12_image_L2 a0 (f_X12_image_K27 a0) n2) x8 S9 = some res := h
      unfold f_X12_image_B2 at h
      refine lv_iload_n hx hb dX12_image_2 rfl (lv_at hl 1 rfl) ?_
      refine lv_sipush (v := 1735) hx hb dX12_image_3 (by decide) ?_
      refine lv_icmp_ge (tgt := 27) hx hb dX12_image_6 (by decide) (fun c10 => ?_) (fun c10 => ?_)
      · have h := hq_t h c10
        exact hK27 S9 _ _ _ h hI (lv_sub hl [0] rfl)
      · have h := hq_f h c10
        refine lv_aload_n hx hb dX12_image_9 rfl (lv_at hl 0 rfl) ?_
        obtain ⟨b11, g12, h⟩ := hq_bind h
        obtain ⟨fs_g12, hs_g12, hv_g12⟩ := gR_at g12
        refine hq_get hx hb hts hown hE hI hs_g12 inG12 rfl 2 (by decide) kw_946 hv_g12 dX12_image_10 ?_
        refine lv_iload_n hx hb dX12_image_13 rfl (lv_at hl 1 rfl) ?_
        refine lv_aload_n hx hb dX12_image_14 rfl (lv_at hl 0 rfl) ?_
        obtain ⟨b13, g14, h⟩ := hq_bind h
        obtain ⟨fs_g14, hs_g14, hv_g14⟩ := gR_at g14
        refine hq_get hx hb hts hown hE hI hs_g14 inG12 rfl 1 (by decide) kw_945 hv_g14 dX12_image_15 ?_
        refine lv_iload_n hx hb dX12_image_18 rfl (lv_at hl 1 rfl) ?_
        obtain ⟨v16, g15, h⟩ := hq_bind h
        refine hq_iald hx hb hE hI g15 dX12_image_19 ?_
        obtain ⟨S18, g17, h⟩ := hq_bind h
        refine hq_iast hx hb hE hI g17 dX12_image_20 (fun H locs hI => ?_)
        refine lv_iinc (v := (x8 + 1)) (lv' := [(1, .int (x8 + 1)), (0, .ref a0)]) hx hb dX12_image_21 hl (k := 1) rfl rfl (by decide) rfl (fun ls hl => ?_)
        refine lv_goto (tgt := 2) hx hb dX12_image_24 (by decide) ?_
        exact ih2 (x8 + 1) S18 _ _ _ h hI (lv_sub hl [1, 0] rfl)
  exact hL2 FU 0 S _ _ _ h hI (lv_sub hl [1, 0] rfl)
-- RodDipsModel.undo()I
theorem dX12_undo_0 : decode cX12_undo 0 = .ok (.aload_n 0, 1) := by decide +kernel
theorem dX12_undo_1 : decode cX12_undo 1 = .ok (.getfield 300, 3) := by decide +kernel
theorem dX12_undo_4 : decode cX12_undo 4 = .ok (.ifCond .ne 6, 3) := by decide +kernel
theorem dX12_undo_7 : decode cX12_undo 7 = .ok (.bipush (-3), 2) := by decide +kernel
theorem dX12_undo_9 : decode cX12_undo 9 = .ok (.ireturn, 1) := by decide +kernel
theorem dX12_undo_10 : decode cX12_undo 10 = .ok (.iconst 0, 1) := by decide +kernel
theorem dX12_undo_11 : decode cX12_undo 11 = .ok (.istore_n 1, 1) := by decide +kernel
theorem dX12_undo_12 : decode cX12_undo 12 = .ok (.iload_n 1, 1) := by decide +kernel
theorem dX12_undo_13 : decode cX12_undo 13 = .ok (.sipush 1735, 3) := by decide +kernel
theorem dX12_undo_16 : decode cX12_undo 16 = .ok (.if_icmp .ge 21, 3) := by decide +kernel
theorem dX12_undo_19 : decode cX12_undo 19 = .ok (.aload_n 0, 1) := by decide +kernel
theorem dX12_undo_20 : decode cX12_undo 20 = .ok (.getfield 9, 3) := by decide +kernel
theorem dX12_undo_23 : decode cX12_undo 23 = .ok (.iload_n 1, 1) := by decide +kernel
theorem dX12_undo_24 : decode cX12_undo 24 = .ok (.aload_n 0, 1) := by decide +kernel
theorem dX12_undo_25 : decode cX12_undo 25 = .ok (.getfield 15, 3) := by decide +kernel
theorem dX12_undo_28 : decode cX12_undo 28 = .ok (.iload_n 1, 1) := by decide +kernel
theorem dX12_undo_29 : decode cX12_undo 29 = .ok (.iaload, 1) := by decide +kernel
theorem dX12_undo_30 : decode cX12_undo 30 = .ok (.iastore, 1) := by decide +kernel
theorem dX12_undo_31 : decode cX12_undo 31 = .ok (.iinc 1 1, 3) := by decide +kernel
theorem dX12_undo_34 : decode cX12_undo 34 = .ok (.goto (-22), 3) := by decide +kernel
theorem dX12_undo_37 : decode cX12_undo 37 = .ok (.aload_n 0, 1) := by decide +kernel
theorem dX12_undo_38 : decode cX12_undo 38 = .ok (.getfield 9, 3) := by decide +kernel
theorem dX12_undo_41 : decode cX12_undo 41 = .ok (.iconst 1, 1) := by decide +kernel
theorem dX12_undo_42 : decode cX12_undo 42 = .ok (.iaload, 1) := by decide +kernel
theorem dX12_undo_43 : decode cX12_undo 43 = .ok (.ireturn, 1) := by decide +kernel
def f_X12_undo_K37 (a0 : Nat) (S4 : HSt) : Option (Int32 × HSt) := (gR S4 a0 12 1).bind fun b5 => (aI S4 b5 0 1).bind fun v8 => some (v8, S4)
def f_X12_undo_B12 (a0 : Nat) (kx37 : (HSt → Option (Int32 × HSt))) (kb12 : (Int32 → HSt → Option (Int32 × HSt))) (x9 : Int32) (S10 : HSt) : Option (Int32 × HSt) := if 1735 ≤ x9 then (kx37 S10) else ((gR S10 a0 12 1).bind fun b12 => (gR S10 a0 12 2).bind fun b14 => (aI S10 b14 0 x9).bind fun v17 => (sI S10 b12 0 x9 v17).bind fun S19 => kb12 (x9 + 1) S19)
def f_X12_undo_L12 (a0 : Nat) (kx37 : (HSt → Option (Int32 × HSt))) : Nat → Int32 → HSt → Option (Int32 × HSt)
  | 0, _, _ => none
  | n + 1, x9, S => f_X12_undo_B12 a0 kx37 (f_X12_undo_L12 a0 kx37 n) x9 S
def f_X12_undo (S : HSt) (a0 : Nat) : Option (Int32 × HSt) := (gI S a0 12 3).bind fun v1 => if v1 = 0 then (some ((-3), S)) else ((f_X12_undo_L12 a0 (f_X12_undo_K37 a0) FU) 0 S)
abbrev rm_X12_undo : Room := { frames := 0, cells := 0, slots := 0, locals := 0 }
abbrev w_X12_undo : List Cond := Cond.code yX12_undo cX12_undo 2 (Option.some FieldType.int) :: lwG
theorem yd_X12_undo : yX12_undo.cls ≠ "java/lang/invoke/MethodHandle" ∧ yX12_undo.cls ≠ "java/lang/invoke/VarHandle" ∧ (parseMethodDescriptor yX12_undo.desc).map (fun d => d.parameters.length) = some 0 := by decide +kernel
theorem ye_X12_undo : yX12_undo.cls = RX12 ∧ yX12_undo.cls ≠ "java/lang/invoke/MethodHandle" ∧ yX12_undo.cls ≠ "java/lang/invoke/VarHandle" ∧ (parseMethodDescriptor yX12_undo.desc).map (fun d => d.parameters.length) = some 0 := by decide +kernel
set_option maxHeartbeats 4000000 in
set_option maxRecDepth 100000 in
theorem c_X12_undo (l : Launch) (D : va_G) (kA ρ : Nat → Nat) (HB : Heap) (S : HSt) (a0 : Nat) (res : Int32 × HSt) (h : f_X12_undo S a0 = some res) : Met l yX12_undo w_X12_undo rm_X12_undo (hPc D kA ρ HB S [.ref a0]) (hQi D kA HB S res) 0 0 (hFree HB) := by
  refine Met.ofW (cc := cX12_undo) (maxL := 2) (ret := (Option.some FieldType.int)) (by decide) rfl ?_
  intro p e s m args below meth c s₁ B hml hv
  obtain ⟨rfl, hE, h0⟩ := hv
  have hx := B.exec
  have hb := B.bytes
  have hr := B.returns
  have hts0 := atoms_spec (ws := w_X12_undo) B.pre
  have hts : ∀ w ∈ lwG, w.before _ s = true := fun w hw => hts0 w (List.mem_cons_of_mem _ hw)
  have hown : s.vm.findClass RX12 = some m.cls := findClass_of_methodNamed B.named
  have hlocks := B.notSynchronized
  have hI : hqX D kA HB S.2 S s.heap [] := ⟨h0, Nat.le_refl _, fun _ q => absurd q List.not_mem_nil⟩
  have hl := lv_entry ([.ref a0]) (n := 2) (Nat.le_of_ble_eq_true rfl)
  rw [lg_entry_eq]
  generalize (lg_sl ([.ref a0]) ++ List.replicate (2 - (lg_sl ([.ref a0])).length) Slot.unset).toArray = ls at hl ⊢
  have hl : lv_has ls 2 [(0, .ref a0)] := hl
  unfold f_X12_undo at h
  refine lv_aload_n hx hb dX12_undo_0 rfl (lv_at hl 0 rfl) ?_
  obtain ⟨v1, g2, h⟩ := hq_bind h
  obtain ⟨fs_g2, hs_g2, hv_g2⟩ := gI_at g2
  refine hq_get hx hb hts hown hE hI hs_g2 inG12 rfl 3 (by decide) kw_947 hv_g2 dX12_undo_1 ?_
  refine lv_if_ne (tgt := 10) hx hb dX12_undo_4 (by decide) (fun c3 => ?_) (fun c3 => ?_)
  · have h := hq_f h c3
    refine lv_iconst (v := 0) hx hb dX12_undo_10 (by decide) ?_
    refine lv_istore_n (lv' := [(1, .int 0), (0, .ref a0)]) hx hb dX12_undo_11 rfl hl (by decide) rfl (fun ls hl => ?_)
    have hK37 : ∀ (S4 : HSt) (H : Heap) (locs : List Loc) (ls : Array Slot), (f_X12_undo_K37 a0) S4 = some res → hqX D kA HB S.2 S4 H locs → lv_has ls 2 [(0, .ref a0)] → W p l e rm_X12_undo s m ([.ref a0] : List Value).toArray below meth c H locs 0 0 (MQ below (hQi D kA HB S res) ([.ref a0] : List Value).toArray s 0 0 (hFree HB)) (F0 m 37 ls []) := by
      intro S4 H locs ls h hI hl
      unfold f_X12_undo_K37 at h
      refine lv_aload_n hx hb dX12_undo_37 rfl (lv_at hl 0 rfl) ?_
      obtain ⟨b5, g6, h⟩ := hq_bind h
      obtain ⟨fs_g6, hs_g6, hv_g6⟩ := gR_at g6
      refine hq_get hx hb hts hown hE hI hs_g6 inG12 rfl 1 (by decide) kw_945 hv_g6 dX12_undo_38 ?_
      refine lv_iconst (v := 1) hx hb dX12_undo_41 (by decide) ?_
      obtain ⟨v8, g7, h⟩ := hq_bind h
      refine hq_iald hx hb hE hI g7 dX12_undo_42 ?_
      exact hq_iret hx hb hr hlocks h0 hI h dX12_undo_43
    have hL12 : ∀ (n12 : Nat) (x9 : Int32) (S10 : HSt) (H : Heap) (locs : List Loc) (ls : Array Slot), (f_X12_undo_L12 a0 (f_X12_undo_K37 a0) n12) x9 S10 = some res → hqX D kA HB S.2 S10 H locs → lv_has ls 2 [(0, .ref a0), (1, .int x9)] → W p l e rm_X12_undo s m ([.ref a0] : List Value).toArray below meth c H locs 0 0 (MQ below (hQi D kA HB S res) ([.ref a0] : List Value).toArray s 0 0 (hFree HB)) (F0 m 12 ls []) := by
      intro n12
      induction n12 with
      | zero =>
        intro x9 S10 H locs ls h
        have h : (none : Option (Int32 × HSt)) = some res := h
        cases h
      | succ n12 ih12 =>
        intro x9 S10 H locs ls h hI hl
        have h : f_X12_undo_B12 a0 (f_X12_undo_K37 a0) (f_X12_undo_L12 a0 (f_X12_undo_K37 a0) n12) x9 S10 = some res := h
        unfold f_X12_undo_B12 at h
        refine lv_iload_n hx hb dX12_undo_12 rfl (lv_at hl 1 rfl) ?_
        refine lv_sipush (v := 1735) hx hb dX12_undo_13 (by decide) ?_
        refine lv_icmp_ge (tgt := 37) hx hb dX12_undo_16 (by decide) (fun c11 => ?_) (fun c11 => ?_)
        · have h := hq_t h c11
          exact hK37 S10 _ _ _ h hI (lv_sub hl [0] rfl)
        · have h := hq_f h c11
          refine lv_aload_n hx hb dX12_undo_19 rfl (lv_at hl 0 rfl) ?_
          obtain ⟨b12, g13, h⟩ := hq_bind h
          obtain ⟨fs_g13, hs_g13, hv_g13⟩ := gR_at g13
          refine hq_get hx hb hts hown hE hI hs_g13 inG12 rfl 1 (by decide) kw_945 hv_g13 dX12_undo_20 ?_
          refine lv_iload_n hx hb dX12_undo_23 rfl (lv_at hl 1 rfl) ?_
          refine lv_aload_n hx hb dX12_undo_24 rfl (lv_at hl 0 rfl) ?_
          obtain ⟨b14, g15, h⟩ := hq_bind h
          obtain ⟨fs_g15, hs_g15, hv_g15⟩ := gR_at g15
          refine hq_get hx hb hts hown hE hI hs_g15 inG12 rfl 2 (by decide) kw_946 hv_g15 dX12_undo_25 ?_
          refine lv_iload_n hx hb dX12_undo_28 rfl (lv_at hl 1 rfl) ?_
          obtain ⟨v17, g16, h⟩ := hq_bind h
          refine hq_iald hx hb hE hI g16 dX12_undo_29 ?_
          obtain ⟨S19, g18, h⟩ := hq_bind h
          refine hq_iast hx hb hE hI g18 dX12_undo_30 (fun H locs hI => ?_)
          refine lv_iinc (v := (x9 + 1)) (lv' := [(1, .int (x9 + 1)), (0, .ref a0)]) hx hb dX12_undo_31 hl (k := 1) rfl rfl (by decide) rfl (fun ls hl => ?_)
          refine lv_goto (tgt := 12) hx hb dX12_undo_34 (by decide) ?_
          exact ih12 (x9 + 1) S19 _ _ _ h hI (lv_sub hl [1, 0] rfl)
    exact hL12 FU 0 S _ _ _ h hI (lv_sub hl [1, 0] rfl)
  · have h := hq_t h c3
    refine lv_bipush (v := (-3)) hx hb dX12_undo_7 (by decide) ?_
    exact hq_iret hx hb hr hlocks h0 hI h dX12_undo_9
-- RodDipsModel.count(I)I
theorem dX12_count_0 : decode cX12_count 0 = .ok (.iload_n 1, 1) := by decide +kernel
theorem dX12_count_1 : decode cX12_count 1 = .ok (.tableswitch 79 0 5 #[39, 46, 53, 60, 67, 74], 39) := by decide +kernel
theorem dX12_count_40 : decode cX12_count 40 = .ok (.aload_n 0, 1) := by decide +kernel
theorem dX12_count_41 : decode cX12_count 41 = .ok (.getfield 9, 3) := by decide +kernel
theorem dX12_count_44 : decode cX12_count 44 = .ok (.iconst 0, 1) := by decide +kernel
theorem dX12_count_45 : decode cX12_count 45 = .ok (.iaload, 1) := by decide +kernel
theorem dX12_count_46 : decode cX12_count 46 = .ok (.ireturn, 1) := by decide +kernel
theorem dX12_count_47 : decode cX12_count 47 = .ok (.aload_n 0, 1) := by decide +kernel
theorem dX12_count_48 : decode cX12_count 48 = .ok (.getfield 9, 3) := by decide +kernel
theorem dX12_count_51 : decode cX12_count 51 = .ok (.iconst 1, 1) := by decide +kernel
theorem dX12_count_52 : decode cX12_count 52 = .ok (.iaload, 1) := by decide +kernel
theorem dX12_count_53 : decode cX12_count 53 = .ok (.ireturn, 1) := by decide +kernel
theorem dX12_count_54 : decode cX12_count 54 = .ok (.aload_n 0, 1) := by decide +kernel
theorem dX12_count_55 : decode cX12_count 55 = .ok (.getfield 9, 3) := by decide +kernel
theorem dX12_count_58 : decode cX12_count 58 = .ok (.iconst 2, 1) := by decide +kernel
theorem dX12_count_59 : decode cX12_count 59 = .ok (.iaload, 1) := by decide +kernel
theorem dX12_count_60 : decode cX12_count 60 = .ok (.ireturn, 1) := by decide +kernel
theorem dX12_count_61 : decode cX12_count 61 = .ok (.aload_n 0, 1) := by decide +kernel
theorem dX12_count_62 : decode cX12_count 62 = .ok (.getfield 9, 3) := by decide +kernel
theorem dX12_count_65 : decode cX12_count 65 = .ok (.iconst 3, 1) := by decide +kernel
theorem dX12_count_66 : decode cX12_count 66 = .ok (.iaload, 1) := by decide +kernel
theorem dX12_count_67 : decode cX12_count 67 = .ok (.ireturn, 1) := by decide +kernel
theorem dX12_count_68 : decode cX12_count 68 = .ok (.aload_n 0, 1) := by decide +kernel
theorem dX12_count_69 : decode cX12_count 69 = .ok (.getfield 9, 3) := by decide +kernel
theorem dX12_count_72 : decode cX12_count 72 = .ok (.iconst 4, 1) := by decide +kernel
theorem dX12_count_73 : decode cX12_count 73 = .ok (.iaload, 1) := by decide +kernel
theorem dX12_count_74 : decode cX12_count 74 = .ok (.ireturn, 1) := by decide +kernel
theorem dX12_count_75 : decode cX12_count 75 = .ok (.aload_n 0, 1) := by decide +kernel
theorem dX12_count_76 : decode cX12_count 76 = .ok (.getfield 264, 3) := by decide +kernel
theorem dX12_count_79 : decode cX12_count 79 = .ok (.ireturn, 1) := by decide +kernel
theorem dX12_count_80 : decode cX12_count 80 = .ok (.iconst (-1), 1) := by decide +kernel
theorem dX12_count_81 : decode cX12_count 81 = .ok (.ireturn, 1) := by decide +kernel
def f_X12_count (S : HSt) (a0 : Nat) (a1 : Int32) : Option (Int32 × HSt) := if a1 = 0 then ((gR S a0 12 1).bind fun b7 => (aI S b7 0 0).bind fun v10 => some (v10, S)) else (if a1 = 1 then ((gR S a0 12 1).bind fun b11 => (aI S b11 0 1).bind fun v14 => some (v14, S)) else (if a1 = 2 then ((gR S a0 12 1).bind fun b15 => (aI S b15 0 2).bind fun v18 => some (v18, S)) else (if a1 = 3 then ((gR S a0 12 1).bind fun b19 => (aI S b19 0 3).bind fun v22 => some (v22, S)) else (if a1 = 4 then ((gR S a0 12 1).bind fun b23 => (aI S b23 0 4).bind fun v26 => some (v26, S)) else (if a1 = 5 then ((gI S a0 12 16).bind fun v27 => some (v27, S)) else (some ((-1), S)))))))
abbrev rm_X12_count : Room := { frames := 0, cells := 0, slots := 0, locals := 0 }
abbrev w_X12_count : List Cond := Cond.code yX12_count cX12_count 2 (Option.some FieldType.int) :: lwG
theorem yd_X12_count : yX12_count.cls ≠ "java/lang/invoke/MethodHandle" ∧ yX12_count.cls ≠ "java/lang/invoke/VarHandle" ∧ (parseMethodDescriptor yX12_count.desc).map (fun d => d.parameters.length) = some 1 := by decide +kernel
theorem ye_X12_count : yX12_count.cls = RX12 ∧ yX12_count.cls ≠ "java/lang/invoke/MethodHandle" ∧ yX12_count.cls ≠ "java/lang/invoke/VarHandle" ∧ (parseMethodDescriptor yX12_count.desc).map (fun d => d.parameters.length) = some 1 := by decide +kernel
set_option maxHeartbeats 4000000 in
set_option maxRecDepth 100000 in
theorem c_X12_count (l : Launch) (D : va_G) (kA ρ : Nat → Nat) (HB : Heap) (S : HSt) (a0 : Nat) (a1 : Int32) (res : Int32 × HSt) (h : f_X12_count S a0 a1 = some res) : Met l yX12_count w_X12_count rm_X12_count (hPc D kA ρ HB S [.ref a0, .int a1]) (hQi D kA HB S res) 0 0 (hFree HB) := by
  refine Met.ofW (cc := cX12_count) (maxL := 2) (ret := (Option.some FieldType.int)) (by decide) rfl ?_
  intro p e s m args below meth c s₁ B hml hv
  obtain ⟨rfl, hE, h0⟩ := hv
  have hx := B.exec
  have hb := B.bytes
  have hr := B.returns
  have hts0 := atoms_spec (ws := w_X12_count) B.pre
  have hts : ∀ w ∈ lwG, w.before _ s = true := fun w hw => hts0 w (List.mem_cons_of_mem _ hw)
  have hown : s.vm.findClass RX12 = some m.cls := findClass_of_methodNamed B.named
  have hlocks := B.notSynchronized
  have hI : hqX D kA HB S.2 S s.heap [] := ⟨h0, Nat.le_refl _, fun _ q => absurd q List.not_mem_nil⟩
  have hl := lv_entry ([.ref a0, .int a1]) (n := 2) (Nat.le_of_ble_eq_true rfl)
  rw [lg_entry_eq]
  generalize (lg_sl ([.ref a0, .int a1]) ++ List.replicate (2 - (lg_sl ([.ref a0, .int a1])).length) Slot.unset).toArray = ls at hl ⊢
  have hl : lv_has ls 2 [(0, .ref a0), (1, .int a1)] := hl
  unfold f_X12_count at h
  refine lv_iload_n hx hb dX12_count_0 rfl (lv_at hl 1 rfl) ?_
  by_cases c1 : a1 = 0
  · have h := hq_t h c1
    refine lv_tableIn (tgt := 40) hx hb dX12_count_1 (by rw [c1]; decide) (by rw [c1]; decide) (by rw [c1]; rfl) (by decide) ?_
    refine lv_aload_n hx hb dX12_count_40 rfl (lv_at hl 0 rfl) ?_
    obtain ⟨b7, g8, h⟩ := hq_bind h
    obtain ⟨fs_g8, hs_g8, hv_g8⟩ := gR_at g8
    refine hq_get hx hb hts hown hE hI hs_g8 inG12 rfl 1 (by decide) kw_945 hv_g8 dX12_count_41 ?_
    refine lv_iconst (v := 0) hx hb dX12_count_44 (by decide) ?_
    obtain ⟨v10, g9, h⟩ := hq_bind h
    refine hq_iald hx hb hE hI g9 dX12_count_45 ?_
    exact hq_iret hx hb hr hlocks h0 hI h dX12_count_46
  have h := hq_f h c1
  by_cases c2 : a1 = 1
  · have h := hq_t h c2
    refine lv_tableIn (tgt := 47) hx hb dX12_count_1 (by rw [c2]; decide) (by rw [c2]; decide) (by rw [c2]; rfl) (by decide) ?_
    refine lv_aload_n hx hb dX12_count_47 rfl (lv_at hl 0 rfl) ?_
    obtain ⟨b11, g12, h⟩ := hq_bind h
    obtain ⟨fs_g12, hs_g12, hv_g12⟩ := gR_at g12
    refine hq_get hx hb hts hown hE hI hs_g12 inG12 rfl 1 (by decide) kw_945 hv_g12 dX12_count_48 ?_
    refine lv_iconst (v := 1) hx hb dX12_count_51 (by decide) ?_
    obtain ⟨v14, g13, h⟩ := hq_bind h
    refine hq_iald hx hb hE hI g13 dX12_count_52 ?_
    exact hq_iret hx hb hr hlocks h0 hI h dX12_count_53
  have h := hq_f h c2
  by_cases c3 : a1 = 2
  · have h := hq_t h c3
    refine lv_tableIn (tgt := 54) hx hb dX12_count_1 (by rw [c3]; decide) (by rw [c3]; decide) (by rw [c3]; rfl) (by decide) ?_
    refine lv_aload_n hx hb dX12_count_54 rfl (lv_at hl 0 rfl) ?_
    obtain ⟨b15, g16, h⟩ := hq_bind h
    obtain ⟨fs_g16, hs_g16, hv_g16⟩ := gR_at g16
    refine hq_get hx hb hts hown hE hI hs_g16 inG12 rfl 1 (by decide) kw_945 hv_g16 dX12_count_55 ?_
    refine lv_iconst (v := 2) hx hb dX12_count_58 (by decide) ?_
    obtain ⟨v18, g17, h⟩ := hq_bind h
    refine hq_iald hx hb hE hI g17 dX12_count_59 ?_
    exact hq_iret hx hb hr hlocks h0 hI h dX12_count_60
  have h := hq_f h c3
  by_cases c4 : a1 = 3
  · have h := hq_t h c4
    refine lv_tableIn (tgt := 61) hx hb dX12_count_1 (by rw [c4]; decide) (by rw [c4]; decide) (by rw [c4]; rfl) (by decide) ?_
    refine lv_aload_n hx hb dX12_count_61 rfl (lv_at hl 0 rfl) ?_
    obtain ⟨b19, g20, h⟩ := hq_bind h
    obtain ⟨fs_g20, hs_g20, hv_g20⟩ := gR_at g20
    refine hq_get hx hb hts hown hE hI hs_g20 inG12 rfl 1 (by decide) kw_945 hv_g20 dX12_count_62 ?_
    refine lv_iconst (v := 3) hx hb dX12_count_65 (by decide) ?_
    obtain ⟨v22, g21, h⟩ := hq_bind h
    refine hq_iald hx hb hE hI g21 dX12_count_66 ?_
    exact hq_iret hx hb hr hlocks h0 hI h dX12_count_67
  have h := hq_f h c4
  by_cases c5 : a1 = 4
  · have h := hq_t h c5
    refine lv_tableIn (tgt := 68) hx hb dX12_count_1 (by rw [c5]; decide) (by rw [c5]; decide) (by rw [c5]; rfl) (by decide) ?_
    refine lv_aload_n hx hb dX12_count_68 rfl (lv_at hl 0 rfl) ?_
    obtain ⟨b23, g24, h⟩ := hq_bind h
    obtain ⟨fs_g24, hs_g24, hv_g24⟩ := gR_at g24
    refine hq_get hx hb hts hown hE hI hs_g24 inG12 rfl 1 (by decide) kw_945 hv_g24 dX12_count_69 ?_
    refine lv_iconst (v := 4) hx hb dX12_count_72 (by decide) ?_
    obtain ⟨v26, g25, h⟩ := hq_bind h
    refine hq_iald hx hb hE hI g25 dX12_count_73 ?_
    exact hq_iret hx hb hr hlocks h0 hI h dX12_count_74
  have h := hq_f h c5
  by_cases c6 : a1 = 5
  · have h := hq_t h c6
    refine lv_tableIn (tgt := 75) hx hb dX12_count_1 (by rw [c6]; decide) (by rw [c6]; decide) (by rw [c6]; rfl) (by decide) ?_
    refine lv_aload_n hx hb dX12_count_75 rfl (lv_at hl 0 rfl) ?_
    obtain ⟨v27, g28, h⟩ := hq_bind h
    obtain ⟨fs_g28, hs_g28, hv_g28⟩ := gI_at g28
    refine hq_get hx hb hts hown hE hI hs_g28 inG12 rfl 16 (by decide) kw_960 hv_g28 dX12_count_76 ?_
    exact hq_iret hx hb hr hlocks h0 hI h dX12_count_79
  have h := hq_f h c6
  have t_c1 := lv_neT c1 (a := 0) (by decide)
  have t_c2 := lv_neT c2 (a := 1) (by decide)
  have t_c3 := lv_neT c3 (a := 2) (by decide)
  have t_c4 := lv_neT c4 (a := 3) (by decide)
  have t_c5 := lv_neT c5 (a := 4) (by decide)
  have t_c6 := lv_neT c6 (a := 5) (by decide)
  refine lv_tableOut (tgt := 80) hx hb dX12_count_1 (by omega) (by decide) ?_
  refine lv_iconst (v := (-1)) hx hb dX12_count_80 (by decide) ?_
  exact hq_iret hx hb hr hlocks h0 hI h dX12_count_81
