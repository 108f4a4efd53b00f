/-! the class's constructor: printed by wip/whole/gen.py -/
theorem dX11_init_0 : decode cX11_init 0 = .ok (.aload_n 0, 1) := by decide +kernel
theorem dX11_init_1 : decode cX11_init 1 = .ok (.invokespecial 3, 3) := by decide +kernel
theorem dX11_init_4 : decode cX11_init 4 = .ok (.aload_n 0, 1) := by decide +kernel
theorem dX11_init_5 : decode cX11_init 5 = .ok (.bipush 10, 2) := by decide +kernel
theorem dX11_init_7 : decode cX11_init 7 = .ok (.putfield 11, 3) := by decide +kernel
theorem dX11_init_10 : decode cX11_init 10 = .ok (.aload_n 0, 1) := by decide +kernel
theorem dX11_init_11 : decode cX11_init 11 = .ok (.bipush 30, 2) := by decide +kernel
theorem dX11_init_13 : decode cX11_init 13 = .ok (.anewarray 15, 3) := by decide +kernel
theorem dX11_init_16 : decode cX11_init 16 = .ok (.putfield 17, 3) := by decide +kernel
theorem dX11_init_19 : decode cX11_init 19 = .ok (.aload_n 0, 1) := by decide +kernel
theorem dX11_init_20 : decode cX11_init 20 = .ok (.iconst 0, 1) := by decide +kernel
theorem dX11_init_21 : decode cX11_init 21 = .ok (.putfield 21, 3) := by decide +kernel
theorem dX11_init_24 : decode cX11_init 24 = .ok (.aload_n 0, 1) := by decide +kernel
theorem dX11_init_25 : decode cX11_init 25 = .ok (.new 24, 3) := by decide +kernel
theorem dX11_init_28 : decode cX11_init 28 = .ok (.dup, 1) := by decide +kernel
theorem dX11_init_29 : decode cX11_init 29 = .ok (.invokespecial 26, 3) := by decide +kernel
theorem dX11_init_32 : decode cX11_init 32 = .ok (.putfield 27, 3) := by decide +kernel
theorem dX11_init_35 : decode cX11_init 35 = .ok (.aload_n 0, 1) := by decide +kernel
theorem dX11_init_36 : decode cX11_init 36 = .ok (.iconst 5, 1) := by decide +kernel
theorem dX11_init_37 : decode cX11_init 37 = .ok (.anewarray 31, 3) := by decide +kernel
theorem dX11_init_40 : decode cX11_init 40 = .ok (.putfield 33, 3) := by decide +kernel
theorem dX11_init_43 : decode cX11_init 43 = .ok (.aload_n 0, 1) := by decide +kernel
theorem dX11_init_44 : decode cX11_init 44 = .ok (.iconst 0, 1) := by decide +kernel
theorem dX11_init_45 : decode cX11_init 45 = .ok (.putfield 37, 3) := by decide +kernel
theorem dX11_init_48 : decode cX11_init 48 = .ok (.aload_n 0, 1) := by decide +kernel
theorem dX11_init_49 : decode cX11_init 49 = .ok (.iconst 5, 1) := by decide +kernel
theorem dX11_init_50 : decode cX11_init 50 = .ok (.anewarray 31, 3) := by decide +kernel
theorem dX11_init_53 : decode cX11_init 53 = .ok (.putfield 40, 3) := by decide +kernel
theorem dX11_init_56 : decode cX11_init 56 = .ok (.aload_n 0, 1) := by decide +kernel
theorem dX11_init_57 : decode cX11_init 57 = .ok (.iconst 0, 1) := by decide +kernel
theorem dX11_init_58 : decode cX11_init 58 = .ok (.putfield 43, 3) := by decide +kernel
theorem dX11_init_61 : decode cX11_init 61 = .ok (.aload_n 0, 1) := by decide +kernel
theorem dX11_init_62 : decode cX11_init 62 = .ok (.new 46, 3) := by decide +kernel
theorem dX11_init_65 : decode cX11_init 65 = .ok (.dup, 1) := by decide +kernel
theorem dX11_init_66 : decode cX11_init 66 = .ok (.invokespecial 48, 3) := by decide +kernel
theorem dX11_init_69 : decode cX11_init 69 = .ok (.putfield 49, 3) := by decide +kernel
theorem dX11_init_72 : decode cX11_init 72 = .ok (.aload_n 0, 1) := by decide +kernel
theorem dX11_init_73 : decode cX11_init 73 = .ok (.new 46, 3) := by decide +kernel
theorem dX11_init_76 : decode cX11_init 76 = .ok (.dup, 1) := by decide +kernel
theorem dX11_init_77 : decode cX11_init 77 = .ok (.invokespecial 48, 3) := by decide +kernel
theorem dX11_init_80 : decode cX11_init 80 = .ok (.putfield 53, 3) := by decide +kernel
theorem dX11_init_83 : decode cX11_init 83 = .ok (.aload_n 0, 1) := by decide +kernel
theorem dX11_init_84 : decode cX11_init 84 = .ok (.new 56, 3) := by decide +kernel
theorem dX11_init_87 : decode cX11_init 87 = .ok (.dup, 1) := by decide +kernel
theorem dX11_init_88 : decode cX11_init 88 = .ok (.invokespecial 58, 3) := by decide +kernel
theorem dX11_init_91 : decode cX11_init 91 = .ok (.putfield 59, 3) := by decide +kernel
theorem dX11_init_94 : decode cX11_init 94 = .ok (.aload_n 0, 1) := by decide +kernel
theorem dX11_init_95 : decode cX11_init 95 = .ok (.iconst 0, 1) := by decide +kernel
theorem dX11_init_96 : decode cX11_init 96 = .ok (.putfield 63, 3) := by decide +kernel
theorem dX11_init_99 : decode cX11_init 99 = .ok (.aload_n 0, 1) := by decide +kernel
theorem dX11_init_100 : decode cX11_init 100 = .ok (.bipush 10, 2) := by decide +kernel
theorem dX11_init_102 : decode cX11_init 102 = .ok (.putfield 67, 3) := by decide +kernel
theorem dX11_init_105 : decode cX11_init 105 = .ok (.aload_n 0, 1) := by decide +kernel
theorem dX11_init_106 : decode cX11_init 106 = .ok (.iconst 0, 1) := by decide +kernel
theorem dX11_init_107 : decode cX11_init 107 = .ok (.putfield 70, 3) := by decide +kernel
theorem dX11_init_110 : decode cX11_init 110 = .ok (.aload_n 0, 1) := by decide +kernel
theorem dX11_init_111 : decode cX11_init 111 = .ok (.iconst 0, 1) := by decide +kernel
theorem dX11_init_112 : decode cX11_init 112 = .ok (.putfield 73, 3) := by decide +kernel
theorem dX11_init_115 : decode cX11_init 115 = .ok (.aload_n 0, 1) := by decide +kernel
theorem dX11_init_116 : decode cX11_init 116 = .ok (.iconst 0, 1) := by decide +kernel
theorem dX11_init_117 : decode cX11_init 117 = .ok (.putfield 76, 3) := by decide +kernel
theorem dX11_init_120 : decode cX11_init 120 = .ok (.aload_n 0, 1) := by decide +kernel
theorem dX11_init_121 : decode cX11_init 121 = .ok (.bipush 30, 2) := by decide +kernel
theorem dX11_init_123 : decode cX11_init 123 = .ok (.newarray .int, 2) := by decide +kernel
theorem dX11_init_125 : decode cX11_init 125 = .ok (.putfield 79, 3) := by decide +kernel
theorem dX11_init_128 : decode cX11_init 128 = .ok (.aload_n 0, 1) := by decide +kernel
theorem dX11_init_129 : decode cX11_init 129 = .ok (.new 24, 3) := by decide +kernel
theorem dX11_init_132 : decode cX11_init 132 = .ok (.dup, 1) := by decide +kernel
theorem dX11_init_133 : decode cX11_init 133 = .ok (.invokespecial 26, 3) := by decide +kernel
theorem dX11_init_136 : decode cX11_init 136 = .ok (.putfield 83, 3) := by decide +kernel
theorem dX11_init_139 : decode cX11_init 139 = .ok (.iconst 0, 1) := by decide +kernel
theorem dX11_init_140 : decode cX11_init 140 = .ok (.istore_n 1, 1) := by decide +kernel
theorem dX11_init_141 : decode cX11_init 141 = .ok (.iload_n 1, 1) := by decide +kernel
theorem dX11_init_142 : decode cX11_init 142 = .ok (.iconst 5, 1) := by decide +kernel
theorem dX11_init_143 : decode cX11_init 143 = .ok (.if_icmp .ge 37, 3) := by decide +kernel
theorem dX11_init_146 : decode cX11_init 146 = .ok (.aload_n 0, 1) := by decide +kernel
theorem dX11_init_147 : decode cX11_init 147 = .ok (.getfield 33, 3) := by decide +kernel
theorem dX11_init_150 : decode cX11_init 150 = .ok (.iload_n 1, 1) := by decide +kernel
theorem dX11_init_151 : decode cX11_init 151 = .ok (.new 31, 3) := by decide +kernel
theorem dX11_init_154 : decode cX11_init 154 = .ok (.dup, 1) := by decide +kernel
theorem dX11_init_155 : decode cX11_init 155 = .ok (.iconst 0, 1) := by decide +kernel
theorem dX11_init_156 : decode cX11_init 156 = .ok (.invokespecial 86, 3) := by decide +kernel
theorem dX11_init_159 : decode cX11_init 159 = .ok (.aastore, 1) := by decide +kernel
theorem dX11_init_160 : decode cX11_init 160 = .ok (.aload_n 0, 1) := by decide +kernel
theorem dX11_init_161 : decode cX11_init 161 = .ok (.getfield 40, 3) := by decide +kernel
theorem dX11_init_164 : decode cX11_init 164 = .ok (.iload_n 1, 1) := by decide +kernel
theorem dX11_init_165 : decode cX11_init 165 = .ok (.new 31, 3) := by decide +kernel
theorem dX11_init_168 : decode cX11_init 168 = .ok (.dup, 1) := by decide +kernel
theorem dX11_init_169 : decode cX11_init 169 = .ok (.iconst 1, 1) := by decide +kernel
theorem dX11_init_170 : decode cX11_init 170 = .ok (.invokespecial 86, 3) := by decide +kernel
theorem dX11_init_173 : decode cX11_init 173 = .ok (.aastore, 1) := by decide +kernel
theorem dX11_init_174 : decode cX11_init 174 = .ok (.iinc 1 1, 3) := by decide +kernel
theorem dX11_init_177 : decode cX11_init 177 = .ok (.goto (-36), 3) := by decide +kernel
theorem dX11_init_180 : decode cX11_init 180 = .ok (.return_, 1) := by decide +kernel
def f_X11_init (ρ : Nat → Nat) (S : HSt) (a0 : Nat) : Option (HSt) := (pV S a0 11 0 (.int 10)).bind fun S1 => hqn (hNew S1 (.inl (4, 30, .inr (.inr (.inr (.inr (fun _ => none))))))) fun (S3 : HSt) => (pV S3 a0 11 1 (.ref S1.2)).bind fun S4 => (pV S4 a0 11 2 (.int 0)).bind fun S6 => hqn (hNew S6 (.inr (6, [.null, .int 0, .int 0]))) fun (S8 : HSt) => (f_X6_init S8 S6.2).bind fun S10 => (pV S10 a0 11 3 (.ref S6.2)).bind fun S11 => hqn (hNew S11 (.inl (5, 5, .inr (.inr (.inr (.inr (fun _ => none))))))) fun (S13 : HSt) => (pV S13 a0 11 4 (.ref S11.2)).bind fun S14 => (pV S14 a0 11 5 (.int 0)).bind fun S16 => hqn (hNew S16 (.inl (5, 5, .inr (.inr (.inr (.inr (fun _ => none))))))) fun (S18 : HSt) => (pV S18 a0 11 6 (.ref S16.2)).bind fun S19 => (pV S19 a0 11 7 (.int 0)).bind fun S21 => hqn (hNew S21 (.inr (4, [.null, .int 0, .long 0]))) fun (S23 : HSt) => (f_X4_init S23 S21.2).bind fun S25 => (pV S25 a0 11 8 (.ref S21.2)).bind fun S26 => hqn (hNew S26 (.inr (4, [.null, .int 0, .long 0]))) fun (S28 : HSt) => (f_X4_init S28 S26.2).bind fun S30 => (pV S30 a0 11 9 (.ref S26.2)).bind fun S31 => hqn (hNew S31 (.inr (8, [.null, .int 0]))) fun (S33 : HSt) => (f_X8_init S33 S31.2).bind fun S35 => (pV S35 a0 11 10 (.ref S31.2)).bind fun S36 => (pV S36 a0 11 11 (.int 0)).bind fun S38 => (pV S38 a0 11 12 (.int 10)).bind fun S40 => (pV S40 a0 11 13 (.int 0)).bind fun S42 => (pV S42 a0 11 14 (.int 0)).bind fun S44 => (pV S44 a0 11 15 (.int 0)).bind fun S46 => hqn (hNew S46 (.inl (0, 30, .inl (fun _ => 0)))) fun (S48 : HSt) => (pV S48 a0 11 16 (.ref S46.2)).bind fun S49 => hqn (hNew S49 (.inr (6, [.null, .int 0, .int 0]))) fun (S51 : HSt) => (f_X6_init S51 S49.2).bind fun S53 => (pV S53 a0 11 17 (.ref S49.2)).bind fun S54 => (gR S54 a0 11 4).bind fun b57 => hqn (hNew S54 (.inr (7, [.int 0, .null, .null, .null, .null, .null, .int 0, .int 0, .int 0, .int 0, .int 0]))) fun (S59 : HSt) => (f_X7_init ρ S59 S54.2 0).bind fun S61 => if gC S61 S54.2 = some 7 then ((sQ S61 b57 5 0 S54.2).bind fun S63 => (gR S63 a0 11 6).bind fun b65 => hqn (hNew S63 (.inr (7, [.int 0, .null, .null, .null, .null, .null, .int 0, .int 0, .int 0, .int 0, .int 0]))) fun (S67 : HSt) => (f_X7_init ρ S67 S63.2 1).bind fun S69 => if gC S69 S63.2 = some 7 then ((sQ S69 b65 5 0 S63.2).bind fun S71 => (gR S71 a0 11 4).bind fun b74 => hqn (hNew S71 (.inr (7, [.int 0, .null, .null, .null, .null, .null, .int 0, .int 0, .int 0, .int 0, .int 0]))) fun (S76 : HSt) => (f_X7_init ρ S76 S71.2 0).bind fun S78 => if gC S78 S71.2 = some 7 then ((sQ S78 b74 5 1 S71.2).bind fun S80 => (gR S80 a0 11 6).bind fun b82 => hqn (hNew S80 (.inr (7, [.int 0, .null, .null, .null, .null, .null, .int 0, .int 0, .int 0, .int 0, .int 0]))) fun (S84 : HSt) => (f_X7_init ρ S84 S80.2 1).bind fun S86 => if gC S86 S80.2 = some 7 then ((sQ S86 b82 5 1 S80.2).bind fun S88 => (gR S88 a0 11 4).bind fun b91 => hqn (hNew S88 (.inr (7, [.int 0, .null, .null, .null, .null, .null, .int 0, .int 0, .int 0, .int 0, .int 0]))) fun (S93 : HSt) => (f_X7_init ρ S93 S88.2 0).bind fun S95 => if gC S95 S88.2 = some 7 then ((sQ S95 b91 5 2 S88.2).bind fun S97 => (gR S97 a0 11 6).bind fun b99 => hqn (hNew S97 (.inr (7, [.int 0, .null, .null, .null, .null, .null, .int 0, .int 0, .int 0, .int 0, .int 0]))) fun (S101 : HSt) => (f_X7_init ρ S101 S97.2 1).bind fun S103 => if gC S103 S97.2 = some 7 then ((sQ S103 b99 5 2 S97.2).bind fun S105 => (gR S105 a0 11 4).bind fun b108 => hqn (hNew S105 (.inr (7, [.int 0, .null, .null, .null, .null, .null, .int 0, .int 0, .int 0, .int 0, .int 0]))) fun (S110 : HSt) => (f_X7_init ρ S110 S105.2 0).bind fun S112 => if gC S112 S105.2 = some 7 then ((sQ S112 b108 5 3 S105.2).bind fun S114 => (gR S114 a0 11 6).bind fun b116 => hqn (hNew S114 (.inr (7, [.int 0, .null, .null, .null, .null, .null, .int 0, .int 0, .int 0, .int 0, .int 0]))) fun (S118 : HSt) => (f_X7_init ρ S118 S114.2 1).bind fun S120 => if gC S120 S114.2 = some 7 then ((sQ S120 b116 5 3 S114.2).bind fun S122 => (gR S122 a0 11 4).bind fun b125 => hqn (hNew S122 (.inr (7, [.int 0, .null, .null, .null, .null, .null, .int 0, .int 0, .int 0, .int 0, .int 0]))) fun (S127 : HSt) => (f_X7_init ρ S127 S122.2 0).bind fun S129 => if gC S129 S122.2 = some 7 then ((sQ S129 b125 5 4 S122.2).bind fun S131 => (gR S131 a0 11 6).bind fun b133 => hqn (hNew S131 (.inr (7, [.int 0, .null, .null, .null, .null, .null, .int 0, .int 0, .int 0, .int 0, .int 0]))) fun (S135 : HSt) => (f_X7_init ρ S135 S131.2 1).bind fun S137 => if gC S137 S131.2 = some 7 then ((sQ S137 b133 5 4 S131.2).bind fun S139 => some S139) else none) else none) else none) else none) else none) else none) else none) else none) else none) else none
abbrev rm_X11_init : Room := { frames := 2, cells := 64, slots := 1914, locals := 33 }
abbrev w_X11_init : List Cond := Cond.code yX11_init cX11_init 2 none :: lwG
theorem yd_X11_init : yX11_init.cls ≠ "java/lang/invoke/MethodHandle" ∧ yX11_init.cls ≠ "java/lang/invoke/VarHandle" ∧ (parseMethodDescriptor yX11_init.desc).map (fun d => d.parameters.length) = some 0 := by decide +kernel
theorem ye_X11_init : yX11_init.cls = RX11 ∧ yX11_init.cls ≠ "java/lang/invoke/MethodHandle" ∧ yX11_init.cls ≠ "java/lang/invoke/VarHandle" ∧ (parseMethodDescriptor yX11_init.desc).map (fun d => d.parameters.length) = some 0 := by decide +kernel
set_option maxHeartbeats 4000000 in
set_option maxRecDepth 100000 in
theorem c_X11_init (l : Launch) (D : va_G) (kA ρ : Nat → Nat) (HB : Heap) (S : HSt) (a0 : Nat) (res : HSt) (h : f_X11_init ρ S a0 = some res) : Met l yX11_init w_X11_init rm_X11_init (hPc D kA ρ HB S [.ref a0]) (hQv D kA HB S res) 64 1914 (hFree HB) := by
  refine Met.ofW (cc := cX11_init) (maxL := 2) (ret := none) (by decide) rfl ?_
  intro p e s m args below meth c s₁ B hml hv
  obtain ⟨rfl, hE, h0⟩ := hv
  have hx := B.exec
  have hb := B.bytes
  have hr := B.returns
  have hts0 := atoms_spec (ws := w_X11_init) B.pre
  have hts : ∀ w ∈ lwG, w.before _ s = true := fun w hw => hts0 w (List.mem_cons_of_mem _ hw)
  have hown : s.vm.findClass RX11 = some m.cls := findClass_of_methodNamed B.named
  have hlocks := B.notSynchronized
  have hin : meth.name = "<init>" := (name_of_methodNamed B.named B.method).1
  have hI : hqX D kA HB S.2 S s.heap [] := ⟨h0, Nat.le_refl _, fun _ q => absurd q List.not_mem_nil⟩
  have hl := lv_entry ([.ref a0]) (n := 2) (Nat.le_of_ble_eq_true rfl)
  rw [lg_entry_eq]
  generalize (lg_sl ([.ref a0]) ++ List.replicate (2 - (lg_sl ([.ref a0])).length) Slot.unset).toArray = ls at hl ⊢
  have hl : lv_has ls 2 [(0, .ref a0)] := hl
  unfold f_X11_init at h
  refine lv_aload_n hx hb dX11_init_0 rfl (lv_at hl 0 rfl) ?_
  refine W.objInit hx hb hown (hts _ kw_28) (hts _ kw_29) (hts _ kw_30) rfl (by rw [hml]; exact hl.1) rfl dX11_init_1 (Nat.le_of_ble_eq_true rfl) (Nat.le_of_ble_eq_true rfl) ?_
  refine W.eq (g2 := F0 m 4 ls []) rfl ?_
  refine lv_aload_n hx hb dX11_init_4 rfl (lv_at hl 0 rfl) ?_
  refine lv_bipush (v := 10) hx hb dX11_init_5 (by decide) ?_
  obtain ⟨S1, g2, h⟩ := hq_bind h
  obtain ⟨fs_g2, hs_g2, hl_g2, e_g2⟩ := pV_at g2
  refine hq_put hx hb hts hown hE hI hs_g2 inG11 tyX11 tyX11_ok nmX11 rfl 0 (by decide) kw_132 rfl (v := .int 10) rfl rfl rfl hl_g2 e_g2 dX11_init_7 (fun H locs hI => ?_)
  refine lv_aload_n hx hb dX11_init_10 rfl (lv_at hl 0 rfl) ?_
  refine lv_bipush (v := 30) hx hb dX11_init_11 (by decide) ?_
  refine hq_newq hx hb 4 hts hown hE hI kw_31 hE.2.2.1 rfl (N' := 30) (by decide) (by decide) (Nat.le_of_ble_eq_true rfl) (Nat.le_of_ble_eq_true rfl) (Nat.le_of_ble_eq_true rfl) dX11_init_13 (fun H hI => ?_)
  obtain ⟨S3, e_S3⟩ : ∃ z, z = hNew S1 (.inl (4, 30, .inr (.inr (.inr (.inr (fun _ => none)))))) := ⟨_, rfl⟩
  rw [← e_S3] at hI
  have h := hq_nm h e_S3
  obtain ⟨S4, g5, h⟩ := hq_bind h
  obtain ⟨fs_g5, hs_g5, hl_g5, e_g5⟩ := pV_at g5
  refine hq_putF hx hb hts hown hE hI hs_g5 inG11 tyX11 tyX11_ok nmX11 rfl 1 (by decide) kw_133 rfl hin rfl (v := .ref S1.2) rfl rfl rfl hl_g5 e_g5 dX11_init_16 (fun H locs hI => ?_)
  refine lv_aload_n hx hb dX11_init_19 rfl (lv_at hl 0 rfl) ?_
  refine lv_iconst (v := 0) hx hb dX11_init_20 (by decide) ?_
  obtain ⟨S6, g7, h⟩ := hq_bind h
  obtain ⟨fs_g7, hs_g7, hl_g7, e_g7⟩ := pV_at g7
  refine hq_put hx hb hts hown hE hI hs_g7 inG11 tyX11 tyX11_ok nmX11 rfl 2 (by decide) kw_134 rfl (v := .int 0) rfl rfl rfl hl_g7 e_g7 dX11_init_21 (fun H locs hI => ?_)
  refine lv_aload_n hx hb dX11_init_24 rfl (lv_at hl 0 rfl) ?_
  refine hq_new (ci := 6) hx hb hts hown hE hI inG6 tyX6 tyX6_ok kw_33 kw_34 kw_2 rfl [.null, .int 0, .int 0] (hfs_6) (Nat.le_of_ble_eq_true rfl) (Nat.le_of_ble_eq_true rfl) dX11_init_25 (fun H hI => ?_)
  obtain ⟨S8, e_S8⟩ : ∃ z, z = hNew S6 (.inr (6, [.null, .int 0, .int 0])) := ⟨_, rfl⟩
  rw [← e_S8] at hI
  have h := hq_nm h e_S8
  refine lv_dup hx hb dX11_init_28 rfl ?_
  obtain ⟨S10, g9, h⟩ := hq_bind h
  refine hq_callv hI (va_runIN (As := []) (rest := [.ref S6.2, .ref a0]) ⟨hx, hb, hml, hown, hts⟩ (c_X6_init l D kA ρ HB S8 S6.2 _ g9) ⟨va_cnB 0 hts (gdIn (hd := []) (fun _ h => absurd h List.not_mem_nil) kw_37) rfl rfl rfl (hE.2.1 _ kn_35) (hts _ kw_2) yd_X6_init ⟨Nat.le_of_ble_eq_true rfl, Nat.le_of_ble_eq_true rfl⟩, rfl, hts _ kw_36⟩ (hq_preS hE hI _) rfl rfl hl.1 rfl (lv_room (Nat.le_of_ble_eq_true rfl)) dX11_init_29 ⟨Nat.le_of_ble_eq_true rfl, Nat.le_of_ble_eq_true rfl⟩) (fun H locs hI => ?_)
  obtain ⟨S11, g12, h⟩ := hq_bind h
  obtain ⟨fs_g12, hs_g12, hl_g12, e_g12⟩ := pV_at g12
  refine hq_putF hx hb hts hown hE hI hs_g12 inG11 tyX11 tyX11_ok nmX11 rfl 3 (by decide) kw_135 rfl hin rfl (v := .ref S6.2) rfl rfl rfl hl_g12 e_g12 dX11_init_32 (fun H locs hI => ?_)
  refine lv_aload_n hx hb dX11_init_35 rfl (lv_at hl 0 rfl) ?_
  refine lv_iconst (v := 5) hx hb dX11_init_36 (by decide) ?_
  refine hq_newq hx hb 5 hts hown hE hI kw_51 hE.2.2.2.1 rfl (N' := 5) (by decide) (by decide) (Nat.le_of_ble_eq_true rfl) (Nat.le_of_ble_eq_true rfl) (Nat.le_of_ble_eq_true rfl) dX11_init_37 (fun H hI => ?_)
  obtain ⟨S13, e_S13⟩ : ∃ z, z = hNew S11 (.inl (5, 5, .inr (.inr (.inr (.inr (fun _ => none)))))) := ⟨_, rfl⟩
  rw [← e_S13] at hI
  have h := hq_nm h e_S13
  obtain ⟨S14, g15, h⟩ := hq_bind h
  obtain ⟨fs_g15, hs_g15, hl_g15, e_g15⟩ := pV_at g15
  refine hq_putF hx hb hts hown hE hI hs_g15 inG11 tyX11 tyX11_ok nmX11 rfl 4 (by decide) kw_136 rfl hin rfl (v := .ref S11.2) rfl rfl rfl hl_g15 e_g15 dX11_init_40 (fun H locs hI => ?_)
  refine lv_aload_n hx hb dX11_init_43 rfl (lv_at hl 0 rfl) ?_
  refine lv_iconst (v := 0) hx hb dX11_init_44 (by decide) ?_
  obtain ⟨S16, g17, h⟩ := hq_bind h
  obtain ⟨fs_g17, hs_g17, hl_g17, e_g17⟩ := pV_at g17
  refine hq_put hx hb hts hown hE hI hs_g17 inG11 tyX11 tyX11_ok nmX11 rfl 5 (by decide) kw_137 rfl (v := .int 0) rfl rfl rfl hl_g17 e_g17 dX11_init_45 (fun H locs hI => ?_)
  refine lv_aload_n hx hb dX11_init_48 rfl (lv_at hl 0 rfl) ?_
  refine lv_iconst (v := 5) hx hb dX11_init_49 (by decide) ?_
  refine hq_newq hx hb 5 hts hown hE hI kw_51 hE.2.2.2.1 rfl (N' := 5) (by decide) (by decide) (Nat.le_of_ble_eq_true rfl) (Nat.le_of_ble_eq_true rfl) (Nat.le_of_ble_eq_true rfl) dX11_init_50 (fun H hI => ?_)
  obtain ⟨S18, e_S18⟩ : ∃ z, z = hNew S16 (.inl (5, 5, .inr (.inr (.inr (.inr (fun _ => none)))))) := ⟨_, rfl⟩
  rw [← e_S18] at hI
  have h := hq_nm h e_S18
  obtain ⟨S19, g20, h⟩ := hq_bind h
  obtain ⟨fs_g20, hs_g20, hl_g20, e_g20⟩ := pV_at g20
  refine hq_putF hx hb hts hown hE hI hs_g20 inG11 tyX11 tyX11_ok nmX11 rfl 6 (by decide) kw_138 rfl hin rfl (v := .ref S16.2) rfl rfl rfl hl_g20 e_g20 dX11_init_53 (fun H locs hI => ?_)
  refine lv_aload_n hx hb dX11_init_56 rfl (lv_at hl 0 rfl) ?_
  refine lv_iconst (v := 0) hx hb dX11_init_57 (by decide) ?_
  obtain ⟨S21, g22, h⟩ := hq_bind h
  obtain ⟨fs_g22, hs_g22, hl_g22, e_g22⟩ := pV_at g22
  refine hq_put hx hb hts hown hE hI hs_g22 inG11 tyX11 tyX11_ok nmX11 rfl 7 (by decide) kw_139 rfl (v := .int 0) rfl rfl rfl hl_g22 e_g22 dX11_init_58 (fun H locs hI => ?_)
  refine lv_aload_n hx hb dX11_init_61 rfl (lv_at hl 0 rfl) ?_
  refine hq_new (ci := 4) hx hb hts hown hE hI inG4 tyX4 tyX4_ok kw_53 kw_54 kw_3 rfl [.null, .int 0, .long 0] (hfs_4) (Nat.le_of_ble_eq_true rfl) (Nat.le_of_ble_eq_true rfl) dX11_init_62 (fun H hI => ?_)
  obtain ⟨S23, e_S23⟩ : ∃ z, z = hNew S21 (.inr (4, [.null, .int 0, .long 0])) := ⟨_, rfl⟩
  rw [← e_S23] at hI
  have h := hq_nm h e_S23
  refine lv_dup hx hb dX11_init_65 rfl ?_
  obtain ⟨S25, g24, h⟩ := hq_bind h
  refine hq_callv hI (va_runIN (As := []) (rest := [.ref S21.2, .ref a0]) ⟨hx, hb, hml, hown, hts⟩ (c_X4_init l D kA ρ HB S23 S21.2 _ g24) ⟨va_cnB 0 hts (gdIn (hd := []) (fun _ h => absurd h List.not_mem_nil) kw_57) rfl rfl rfl (hE.2.1 _ kn_55) (hts _ kw_3) yd_X4_init ⟨Nat.le_of_ble_eq_true rfl, Nat.le_of_ble_eq_true rfl⟩, rfl, hts _ kw_56⟩ (hq_preS hE hI _) rfl rfl hl.1 rfl (lv_room (Nat.le_of_ble_eq_true rfl)) dX11_init_66 ⟨Nat.le_of_ble_eq_true rfl, Nat.le_of_ble_eq_true rfl⟩) (fun H locs hI => ?_)
  obtain ⟨S26, g27, h⟩ := hq_bind h
  obtain ⟨fs_g27, hs_g27, hl_g27, e_g27⟩ := pV_at g27
  refine hq_putF hx hb hts hown hE hI hs_g27 inG11 tyX11 tyX11_ok nmX11 rfl 8 (by decide) kw_140 rfl hin rfl (v := .ref S21.2) rfl rfl rfl hl_g27 e_g27 dX11_init_69 (fun H locs hI => ?_)
  refine lv_aload_n hx hb dX11_init_72 rfl (lv_at hl 0 rfl) ?_
  refine hq_new (ci := 4) hx hb hts hown hE hI inG4 tyX4 tyX4_ok kw_53 kw_54 kw_3 rfl [.null, .int 0, .long 0] (hfs_4) (Nat.le_of_ble_eq_true rfl) (Nat.le_of_ble_eq_true rfl) dX11_init_73 (fun H hI => ?_)
  obtain ⟨S28, e_S28⟩ : ∃ z, z = hNew S26 (.inr (4, [.null, .int 0, .long 0])) := ⟨_, rfl⟩
  rw [← e_S28] at hI
  have h := hq_nm h e_S28
  refine lv_dup hx hb dX11_init_76 rfl ?_
  obtain ⟨S30, g29, h⟩ := hq_bind h
  refine hq_callv hI (va_runIN (As := []) (rest := [.ref S26.2, .ref a0]) ⟨hx, hb, hml, hown, hts⟩ (c_X4_init l D kA ρ HB S28 S26.2 _ g29) ⟨va_cnB 0 hts (gdIn (hd := []) (fun _ h => absurd h List.not_mem_nil) kw_57) rfl rfl rfl (hE.2.1 _ kn_55) (hts _ kw_3) yd_X4_init ⟨Nat.le_of_ble_eq_true rfl, Nat.le_of_ble_eq_true rfl⟩, rfl, hts _ kw_56⟩ (hq_preS hE hI _) rfl rfl hl.1 rfl (lv_room (Nat.le_of_ble_eq_true rfl)) dX11_init_77 ⟨Nat.le_of_ble_eq_true rfl, Nat.le_of_ble_eq_true rfl⟩) (fun H locs hI => ?_)
  obtain ⟨S31, g32, h⟩ := hq_bind h
  obtain ⟨fs_g32, hs_g32, hl_g32, e_g32⟩ := pV_at g32
  refine hq_putF hx hb hts hown hE hI hs_g32 inG11 tyX11 tyX11_ok nmX11 rfl 9 (by decide) kw_141 rfl hin rfl (v := .ref S26.2) rfl rfl rfl hl_g32 e_g32 dX11_init_80 (fun H locs hI => ?_)
  refine lv_aload_n hx hb dX11_init_83 rfl (lv_at hl 0 rfl) ?_
  refine hq_new (ci := 8) hx hb hts hown hE hI inG8 tyX8 tyX8_ok kw_71 kw_72 kw_4 rfl [.null, .int 0] (hfs_8) (Nat.le_of_ble_eq_true rfl) (Nat.le_of_ble_eq_true rfl) dX11_init_84 (fun H hI => ?_)
  obtain ⟨S33, e_S33⟩ : ∃ z, z = hNew S31 (.inr (8, [.null, .int 0])) := ⟨_, rfl⟩
  rw [← e_S33] at hI
  have h := hq_nm h e_S33
  refine lv_dup hx hb dX11_init_87 rfl ?_
  obtain ⟨S35, g34, h⟩ := hq_bind h
  refine hq_callv hI (va_runIN (As := []) (rest := [.ref S31.2, .ref a0]) ⟨hx, hb, hml, hown, hts⟩ (c_X8_init l D kA ρ HB S33 S31.2 _ g34) ⟨va_cnB 0 hts (gdIn (hd := []) (fun _ h => absurd h List.not_mem_nil) kw_75) rfl rfl rfl (hE.2.1 _ kn_73) (hts _ kw_4) yd_X8_init ⟨Nat.le_of_ble_eq_true rfl, Nat.le_of_ble_eq_true rfl⟩, rfl, hts _ kw_74⟩ (hq_preS hE hI _) rfl rfl hl.1 rfl (lv_room (Nat.le_of_ble_eq_true rfl)) dX11_init_88 ⟨Nat.le_of_ble_eq_true rfl, Nat.le_of_ble_eq_true rfl⟩) (fun H locs hI => ?_)
  obtain ⟨S36, g37, h⟩ := hq_bind h
  obtain ⟨fs_g37, hs_g37, hl_g37, e_g37⟩ := pV_at g37
  refine hq_putF hx hb hts hown hE hI hs_g37 inG11 tyX11 tyX11_ok nmX11 rfl 10 (by decide) kw_142 rfl hin rfl (v := .ref S31.2) rfl rfl rfl hl_g37 e_g37 dX11_init_91 (fun H locs hI => ?_)
  refine lv_aload_n hx hb dX11_init_94 rfl (lv_at hl 0 rfl) ?_
  refine lv_iconst (v := 0) hx hb dX11_init_95 (by decide) ?_
  obtain ⟨S38, g39, h⟩ := hq_bind h
  obtain ⟨fs_g39, hs_g39, hl_g39, e_g39⟩ := pV_at g39
  refine hq_put hx hb hts hown hE hI hs_g39 inG11 tyX11 tyX11_ok nmX11 rfl 11 (by decide) kw_143 rfl (v := .int 0) rfl rfl rfl hl_g39 e_g39 dX11_init_96 (fun H locs hI => ?_)
  refine lv_aload_n hx hb dX11_init_99 rfl (lv_at hl 0 rfl) ?_
  refine lv_bipush (v := 10) hx hb dX11_init_100 (by decide) ?_
  obtain ⟨S40, g41, h⟩ := hq_bind h
  obtain ⟨fs_g41, hs_g41, hl_g41, e_g41⟩ := pV_at g41
  refine hq_put hx hb hts hown hE hI hs_g41 inG11 tyX11 tyX11_ok nmX11 rfl 12 (by decide) kw_144 rfl (v := .int 10) rfl rfl rfl hl_g41 e_g41 dX11_init_102 (fun H locs hI => ?_)
  refine lv_aload_n hx hb dX11_init_105 rfl (lv_at hl 0 rfl) ?_
  refine lv_iconst (v := 0) hx hb dX11_init_106 (by decide) ?_
  obtain ⟨S42, g43, h⟩ := hq_bind h
  obtain ⟨fs_g43, hs_g43, hl_g43, e_g43⟩ := pV_at g43
  refine hq_put hx hb hts hown hE hI hs_g43 inG11 tyX11 tyX11_ok nmX11 rfl 13 (by decide) kw_145 rfl (v := .int 0) rfl rfl rfl hl_g43 e_g43 dX11_init_107 (fun H locs hI => ?_)
  refine lv_aload_n hx hb dX11_init_110 rfl (lv_at hl 0 rfl) ?_
  refine lv_iconst (v := 0) hx hb dX11_init_111 (by decide) ?_
  obtain ⟨S44, g45, h⟩ := hq_bind h
  obtain ⟨fs_g45, hs_g45, hl_g45, e_g45⟩ := pV_at g45
  refine hq_put hx hb hts hown hE hI hs_g45 inG11 tyX11 tyX11_ok nmX11 rfl 14 (by decide) kw_146 rfl (v := .int 0) rfl rfl rfl hl_g45 e_g45 dX11_init_112 (fun H locs hI => ?_)
  refine lv_aload_n hx hb dX11_init_115 rfl (lv_at hl 0 rfl) ?_
  refine lv_iconst (v := 0) hx hb dX11_init_116 (by decide) ?_
  obtain ⟨S46, g47, h⟩ := hq_bind h
  obtain ⟨fs_g47, hs_g47, hl_g47, e_g47⟩ := pV_at g47
  refine hq_put hx hb hts hown hE hI hs_g47 inG11 tyX11 tyX11_ok nmX11 rfl 15 (by decide) kw_147 rfl (v := .int 0) rfl rfl rfl hl_g47 e_g47 dX11_init_117 (fun H locs hI => ?_)
  refine lv_aload_n hx hb dX11_init_120 rfl (lv_at hl 0 rfl) ?_
  refine lv_bipush (v := 30) hx hb dX11_init_121 (by decide) ?_
  refine hq_newa (atype := .int) hx hb 0 (by decide) hts hE hI kw_85 rfl (fun q => q) (N' := 30) (a0 := (30, .inl (fun _ => 0))) (fun _ => rfl) (by decide) (by decide) (Nat.le_of_ble_eq_true rfl) (Nat.le_of_ble_eq_true rfl) (Nat.le_of_ble_eq_true rfl) dX11_init_123 (fun H hI => ?_)
  obtain ⟨S48, e_S48⟩ : ∃ z, z = hNew S46 (.inl (0, 30, .inl (fun _ => 0))) := ⟨_, rfl⟩
  rw [← e_S48] at hI
  have h := hq_nm h e_S48
  obtain ⟨S49, g50, h⟩ := hq_bind h
  obtain ⟨fs_g50, hs_g50, hl_g50, e_g50⟩ := pV_at g50
  refine hq_putF hx hb hts hown hE hI hs_g50 inG11 tyX11 tyX11_ok nmX11 rfl 16 (by decide) kw_148 rfl hin rfl (v := .ref S46.2) rfl rfl rfl hl_g50 e_g50 dX11_init_125 (fun H locs hI => ?_)
  refine lv_aload_n hx hb dX11_init_128 rfl (lv_at hl 0 rfl) ?_
  refine hq_new (ci := 6) hx hb hts hown hE hI inG6 tyX6 tyX6_ok kw_33 kw_34 kw_2 rfl [.null, .int 0, .int 0] (hfs_6) (Nat.le_of_ble_eq_true rfl) (Nat.le_of_ble_eq_true rfl) dX11_init_129 (fun H hI => ?_)
  obtain ⟨S51, e_S51⟩ : ∃ z, z = hNew S49 (.inr (6, [.null, .int 0, .int 0])) := ⟨_, rfl⟩
  rw [← e_S51] at hI
  have h := hq_nm h e_S51
  refine lv_dup hx hb dX11_init_132 rfl ?_
  obtain ⟨S53, g52, h⟩ := hq_bind h
  refine hq_callv hI (va_runIN (As := []) (rest := [.ref S49.2, .ref a0]) ⟨hx, hb, hml, hown, hts⟩ (c_X6_init l D kA ρ HB S51 S49.2 _ g52) ⟨va_cnB 0 hts (gdIn (hd := []) (fun _ h => absurd h List.not_mem_nil) kw_37) rfl rfl rfl (hE.2.1 _ kn_35) (hts _ kw_2) yd_X6_init ⟨Nat.le_of_ble_eq_true rfl, Nat.le_of_ble_eq_true rfl⟩, rfl, hts _ kw_36⟩ (hq_preS hE hI _) rfl rfl hl.1 rfl (lv_room (Nat.le_of_ble_eq_true rfl)) dX11_init_133 ⟨Nat.le_of_ble_eq_true rfl, Nat.le_of_ble_eq_true rfl⟩) (fun H locs hI => ?_)
  obtain ⟨S54, g55, h⟩ := hq_bind h
  obtain ⟨fs_g55, hs_g55, hl_g55, e_g55⟩ := pV_at g55
  refine hq_putF hx hb hts hown hE hI hs_g55 inG11 tyX11 tyX11_ok nmX11 rfl 17 (by decide) kw_149 rfl hin rfl (v := .ref S49.2) rfl rfl rfl hl_g55 e_g55 dX11_init_136 (fun H locs hI => ?_)
  refine lv_iconst (v := 0) hx hb dX11_init_139 (by decide) ?_
  refine lv_istore_n (lv' := [(1, .int 0), (0, .ref a0)]) hx hb dX11_init_140 rfl hl (by decide) rfl (fun ls hl => ?_)
  refine lv_iload_n hx hb dX11_init_141 rfl (lv_at hl 0 rfl) ?_
  refine lv_iconst (v := 5) hx hb dX11_init_142 (by decide) ?_
  refine lv_icmp_ge (tgt := 180) hx hb dX11_init_143 (by decide) (fun z => absurd z (by decide)) (fun _ => ?_)
  refine lv_aload_n hx hb dX11_init_146 rfl (lv_at hl 1 rfl) ?_
  obtain ⟨b57, g58, h⟩ := hq_bind h
  obtain ⟨fs_g58, hs_g58, hv_g58⟩ := gR_at g58
  refine hq_get hx hb hts hown hE hI hs_g58 inG11 rfl 4 (by decide) kw_136 hv_g58 dX11_init_147 ?_
  refine lv_iload_n hx hb dX11_init_150 rfl (lv_at hl 0 rfl) ?_
  refine hq_new (ci := 7) hx hb hts hown hE hI inG7 tyX7 tyX7_ok kw_51 kw_86 kw_5 rfl [.int 0, .null, .null, .null, .null, .null, .int 0, .int 0, .int 0, .int 0, .int 0] (hfs_7) (Nat.le_of_ble_eq_true rfl) (Nat.le_of_ble_eq_true rfl) dX11_init_151 (fun H hI => ?_)
  obtain ⟨S59, e_S59⟩ : ∃ z, z = hNew S54 (.inr (7, [.int 0, .null, .null, .null, .null, .null, .int 0, .int 0, .int 0, .int 0, .int 0])) := ⟨_, rfl⟩
  rw [← e_S59] at hI
  have h := hq_nm h e_S59
  refine lv_dup hx hb dX11_init_154 rfl ?_
  refine lv_iconst (v := 0) hx hb dX11_init_155 (by decide) ?_
  obtain ⟨S61, g60, h⟩ := hq_bind h
  refine hq_callv hI (va_runIN (As := [.int 0]) (rest := [.ref S54.2, .int 0, .ref b57]) ⟨hx, hb, hml, hown, hts⟩ (c_X7_init l D kA ρ HB S59 S54.2 0 _ g60) ⟨va_cnB 1 hts (gdIn (hd := []) (fun _ h => absurd h List.not_mem_nil) kw_89) rfl rfl rfl (hE.2.1 _ kn_87) (hts _ kw_5) yd_X7_init ⟨Nat.le_of_ble_eq_true rfl, Nat.le_of_ble_eq_true rfl⟩, rfl, hts _ kw_88⟩ (hq_preS hE hI _) rfl rfl hl.1 rfl (lv_room (Nat.le_of_ble_eq_true rfl)) dX11_init_156 ⟨Nat.le_of_ble_eq_true rfl, Nat.le_of_ble_eq_true rfl⟩) (fun H locs hI => ?_)
  obtain ⟨g64, h⟩ := hq_g h
  obtain ⟨S63, g62, h⟩ := hq_bind h
  obtain ⟨fs_g64, he_g64⟩ := gC_at g64
  refine hq_aast hx hb (E := "RodDips$Text") 5 rfl hE hI he_g64 (q := (RX7, TX7, 11)) rfl (hq_asgX hE) g62 dX11_init_159 (fun H locs hI => ?_)
  refine lv_aload_n hx hb dX11_init_160 rfl (lv_at hl 1 rfl) ?_
  obtain ⟨b65, g66, h⟩ := hq_bind h
  obtain ⟨fs_g66, hs_g66, hv_g66⟩ := gR_at g66
  refine hq_get hx hb hts hown hE hI hs_g66 inG11 rfl 6 (by decide) kw_138 hv_g66 dX11_init_161 ?_
  refine lv_iload_n hx hb dX11_init_164 rfl (lv_at hl 0 rfl) ?_
  refine hq_new (ci := 7) hx hb hts hown hE hI inG7 tyX7 tyX7_ok kw_51 kw_86 kw_5 rfl [.int 0, .null, .null, .null, .null, .null, .int 0, .int 0, .int 0, .int 0, .int 0] (hfs_7) (Nat.le_of_ble_eq_true rfl) (Nat.le_of_ble_eq_true rfl) dX11_init_165 (fun H hI => ?_)
  obtain ⟨S67, e_S67⟩ : ∃ z, z = hNew S63 (.inr (7, [.int 0, .null, .null, .null, .null, .null, .int 0, .int 0, .int 0, .int 0, .int 0])) := ⟨_, rfl⟩
  rw [← e_S67] at hI
  have h := hq_nm h e_S67
  refine lv_dup hx hb dX11_init_168 rfl ?_
  refine lv_iconst (v := 1) hx hb dX11_init_169 (by decide) ?_
  obtain ⟨S69, g68, h⟩ := hq_bind h
  refine hq_callv hI (va_runIN (As := [.int 1]) (rest := [.ref S63.2, .int 0, .ref b65]) ⟨hx, hb, hml, hown, hts⟩ (c_X7_init l D kA ρ HB S67 S63.2 1 _ g68) ⟨va_cnB 1 hts (gdIn (hd := []) (fun _ h => absurd h List.not_mem_nil) kw_89) rfl rfl rfl (hE.2.1 _ kn_87) (hts _ kw_5) yd_X7_init ⟨Nat.le_of_ble_eq_true rfl, Nat.le_of_ble_eq_true rfl⟩, rfl, hts _ kw_88⟩ (hq_preS hE hI _) rfl rfl hl.1 rfl (lv_room (Nat.le_of_ble_eq_true rfl)) dX11_init_170 ⟨Nat.le_of_ble_eq_true rfl, Nat.le_of_ble_eq_true rfl⟩) (fun H locs hI => ?_)
  obtain ⟨g72, h⟩ := hq_g h
  obtain ⟨S71, g70, h⟩ := hq_bind h
  obtain ⟨fs_g72, he_g72⟩ := gC_at g72
  refine hq_aast hx hb (E := "RodDips$Text") 5 rfl hE hI he_g72 (q := (RX7, TX7, 11)) rfl (hq_asgX hE) g70 dX11_init_173 (fun H locs hI => ?_)
  refine lv_iinc (v := 1) (lv' := [(1, .int 1), (0, .ref a0)]) hx hb dX11_init_174 hl (k := 0) rfl rfl (by decide) rfl (fun ls hl => ?_)
  refine lv_goto (tgt := 141) hx hb dX11_init_177 (by decide) ?_
  refine lv_iload_n hx hb dX11_init_141 rfl (lv_at hl 0 rfl) ?_
  refine lv_iconst (v := 5) hx hb dX11_init_142 (by decide) ?_
  refine lv_icmp_ge (tgt := 180) hx hb dX11_init_143 (by decide) (fun z => absurd z (by decide)) (fun _ => ?_)
  refine lv_aload_n hx hb dX11_init_146 rfl (lv_at hl 1 rfl) ?_
  obtain ⟨b74, g75, h⟩ := hq_bind h
  obtain ⟨fs_g75, hs_g75, hv_g75⟩ := gR_at g75
  refine hq_get hx hb hts hown hE hI hs_g75 inG11 rfl 4 (by decide) kw_136 hv_g75 dX11_init_147 ?_
  refine lv_iload_n hx hb dX11_init_150 rfl (lv_at hl 0 rfl) ?_
  refine hq_new (ci := 7) hx hb hts hown hE hI inG7 tyX7 tyX7_ok kw_51 kw_86 kw_5 rfl [.int 0, .null, .null, .null, .null, .null, .int 0, .int 0, .int 0, .int 0, .int 0] (hfs_7) (Nat.le_of_ble_eq_true rfl) (Nat.le_of_ble_eq_true rfl) dX11_init_151 (fun H hI => ?_)
  obtain ⟨S76, e_S76⟩ : ∃ z, z = hNew S71 (.inr (7, [.int 0, .null, .null, .null, .null, .null, .int 0, .int 0, .int 0, .int 0, .int 0])) := ⟨_, rfl⟩
  rw [← e_S76] at hI
  have h := hq_nm h e_S76
  refine lv_dup hx hb dX11_init_154 rfl ?_
  refine lv_iconst (v := 0) hx hb dX11_init_155 (by decide) ?_
  obtain ⟨S78, g77, h⟩ := hq_bind h
  refine hq_callv hI (va_runIN (As := [.int 0]) (rest := [.ref S71.2, .int 1, .ref b74]) ⟨hx, hb, hml, hown, hts⟩ (c_X7_init l D kA ρ HB S76 S71.2 0 _ g77) ⟨va_cnB 1 hts (gdIn (hd := []) (fun _ h => absurd h List.not_mem_nil) kw_89) rfl rfl rfl (hE.2.1 _ kn_87) (hts _ kw_5) yd_X7_init ⟨Nat.le_of_ble_eq_true rfl, Nat.le_of_ble_eq_true rfl⟩, rfl, hts _ kw_88⟩ (hq_preS hE hI _) rfl rfl hl.1 rfl (lv_room (Nat.le_of_ble_eq_true rfl)) dX11_init_156 ⟨Nat.le_of_ble_eq_true rfl, Nat.le_of_ble_eq_true rfl⟩) (fun H locs hI => ?_)
  obtain ⟨g81, h⟩ := hq_g h
  obtain ⟨S80, g79, h⟩ := hq_bind h
  obtain ⟨fs_g81, he_g81⟩ := gC_at g81
  refine hq_aast hx hb (E := "RodDips$Text") 5 rfl hE hI he_g81 (q := (RX7, TX7, 11)) rfl (hq_asgX hE) g79 dX11_init_159 (fun H locs hI => ?_)
  refine lv_aload_n hx hb dX11_init_160 rfl (lv_at hl 1 rfl) ?_
  obtain ⟨b82, g83, h⟩ := hq_bind h
  obtain ⟨fs_g83, hs_g83, hv_g83⟩ := gR_at g83
  refine hq_get hx hb hts hown hE hI hs_g83 inG11 rfl 6 (by decide) kw_138 hv_g83 dX11_init_161 ?_
  refine lv_iload_n hx hb dX11_init_164 rfl (lv_at hl 0 rfl) ?_
  refine hq_new (ci := 7) hx hb hts hown hE hI inG7 tyX7 tyX7_ok kw_51 kw_86 kw_5 rfl [.int 0, .null, .null, .null, .null, .null, .int 0, .int 0, .int 0, .int 0, .int 0] (hfs_7) (Nat.le_of_ble_eq_true rfl) (Nat.le_of_ble_eq_true rfl) dX11_init_165 (fun H hI => ?_)
  obtain ⟨S84, e_S84⟩ : ∃ z, z = hNew S80 (.inr (7, [.int 0, .null, .null, .null, .null, .null, .int 0, .int 0, .int 0, .int 0, .int 0])) := ⟨_, rfl⟩
  rw [← e_S84] at hI
  have h := hq_nm h e_S84
  refine lv_dup hx hb dX11_init_168 rfl ?_
  refine lv_iconst (v := 1) hx hb dX11_init_169 (by decide) ?_
  obtain ⟨S86, g85, h⟩ := hq_bind h
  refine hq_callv hI (va_runIN (As := [.int 1]) (rest := [.ref S80.2, .int 1, .ref b82]) ⟨hx, hb, hml, hown, hts⟩ (c_X7_init l D kA ρ HB S84 S80.2 1 _ g85) ⟨va_cnB 1 hts (gdIn (hd := []) (fun _ h => absurd h List.not_mem_nil) kw_89) rfl rfl rfl (hE.2.1 _ kn_87) (hts _ kw_5) yd_X7_init ⟨Nat.le_of_ble_eq_true rfl, Nat.le_of_ble_eq_true rfl⟩, rfl, hts _ kw_88⟩ (hq_preS hE hI _) rfl rfl hl.1 rfl (lv_room (Nat.le_of_ble_eq_true rfl)) dX11_init_170 ⟨Nat.le_of_ble_eq_true rfl, Nat.le_of_ble_eq_true rfl⟩) (fun H locs hI => ?_)
  obtain ⟨g89, h⟩ := hq_g h
  obtain ⟨S88, g87, h⟩ := hq_bind h
  obtain ⟨fs_g89, he_g89⟩ := gC_at g89
  refine hq_aast hx hb (E := "RodDips$Text") 5 rfl hE hI he_g89 (q := (RX7, TX7, 11)) rfl (hq_asgX hE) g87 dX11_init_173 (fun H locs hI => ?_)
  refine lv_iinc (v := 2) (lv' := [(1, .int 2), (0, .ref a0)]) hx hb dX11_init_174 hl (k := 0) rfl rfl (by decide) rfl (fun ls hl => ?_)
  refine lv_goto (tgt := 141) hx hb dX11_init_177 (by decide) ?_
  refine lv_iload_n hx hb dX11_init_141 rfl (lv_at hl 0 rfl) ?_
  refine lv_iconst (v := 5) hx hb dX11_init_142 (by decide) ?_
  refine lv_icmp_ge (tgt := 180) hx hb dX11_init_143 (by decide) (fun z => absurd z (by decide)) (fun _ => ?_)
  refine lv_aload_n hx hb dX11_init_146 rfl (lv_at hl 1 rfl) ?_
  obtain ⟨b91, g92, h⟩ := hq_bind h
  obtain ⟨fs_g92, hs_g92, hv_g92⟩ := gR_at g92
  refine hq_get hx hb hts hown hE hI hs_g92 inG11 rfl 4 (by decide) kw_136 hv_g92 dX11_init_147 ?_
  refine lv_iload_n hx hb dX11_init_150 rfl (lv_at hl 0 rfl) ?_
  refine hq_new (ci := 7) hx hb hts hown hE hI inG7 tyX7 tyX7_ok kw_51 kw_86 kw_5 rfl [.int 0, .null, .null, .null, .null, .null, .int 0, .int 0, .int 0, .int 0, .int 0] (hfs_7) (Nat.le_of_ble_eq_true rfl) (Nat.le_of_ble_eq_true rfl) dX11_init_151 (fun H hI => ?_)
  obtain ⟨S93, e_S93⟩ : ∃ z, z = hNew S88 (.inr (7, [.int 0, .null, .null, .null, .null, .null, .int 0, .int 0, .int 0, .int 0, .int 0])) := ⟨_, rfl⟩
  rw [← e_S93] at hI
  have h := hq_nm h e_S93
  refine lv_dup hx hb dX11_init_154 rfl ?_
  refine lv_iconst (v := 0) hx hb dX11_init_155 (by decide) ?_
  obtain ⟨S95, g94, h⟩ := hq_bind h
  refine hq_callv hI (va_runIN (As := [.int 0]) (rest := [.ref S88.2, .int 2, .ref b91]) ⟨hx, hb, hml, hown, hts⟩ (c_X7_init l D kA ρ HB S93 S88.2 0 _ g94) ⟨va_cnB 1 hts (gdIn (hd := []) (fun _ h => absurd h List.not_mem_nil) kw_89) rfl rfl rfl (hE.2.1 _ kn_87) (hts _ kw_5) yd_X7_init ⟨Nat.le_of_ble_eq_true rfl, Nat.le_of_ble_eq_true rfl⟩, rfl, hts _ kw_88⟩ (hq_preS hE hI _) rfl rfl hl.1 rfl (lv_room (Nat.le_of_ble_eq_true rfl)) dX11_init_156 ⟨Nat.le_of_ble_eq_true rfl, Nat.le_of_ble_eq_true rfl⟩) (fun H locs hI => ?_)
  obtain ⟨g98, h⟩ := hq_g h
  obtain ⟨S97, g96, h⟩ := hq_bind h
  obtain ⟨fs_g98, he_g98⟩ := gC_at g98
  refine hq_aast hx hb (E := "RodDips$Text") 5 rfl hE hI he_g98 (q := (RX7, TX7, 11)) rfl (hq_asgX hE) g96 dX11_init_159 (fun H locs hI => ?_)
  refine lv_aload_n hx hb dX11_init_160 rfl (lv_at hl 1 rfl) ?_
  obtain ⟨b99, g100, h⟩ := hq_bind h
  obtain ⟨fs_g100, hs_g100, hv_g100⟩ := gR_at g100
  refine hq_get hx hb hts hown hE hI hs_g100 inG11 rfl 6 (by decide) kw_138 hv_g100 dX11_init_161 ?_
  refine lv_iload_n hx hb dX11_init_164 rfl (lv_at hl 0 rfl) ?_
  refine hq_new (ci := 7) hx hb hts hown hE hI inG7 tyX7 tyX7_ok kw_51 kw_86 kw_5 rfl [.int 0, .null, .null, .null, .null, .null, .int 0, .int 0, .int 0, .int 0, .int 0] (hfs_7) (Nat.le_of_ble_eq_true rfl) (Nat.le_of_ble_eq_true rfl) dX11_init_165 (fun H hI => ?_)
  obtain ⟨S101, e_S101⟩ : ∃ z, z = hNew S97 (.inr (7, [.int 0, .null, .null, .null, .null, .null, .int 0, .int 0, .int 0, .int 0, .int 0])) := ⟨_, rfl⟩
  rw [← e_S101] at hI
  have h := hq_nm h e_S101
  refine lv_dup hx hb dX11_init_168 rfl ?_
  refine lv_iconst (v := 1) hx hb dX11_init_169 (by decide) ?_
  obtain ⟨S103, g102, h⟩ := hq_bind h
  refine hq_callv hI (va_runIN (As := [.int 1]) (rest := [.ref S97.2, .int 2, .ref b99]) ⟨hx, hb, hml, hown, hts⟩ (c_X7_init l D kA ρ HB S101 S97.2 1 _ g102) ⟨va_cnB 1 hts (gdIn (hd := []) (fun _ h => absurd h List.not_mem_nil) kw_89) rfl rfl rfl (hE.2.1 _ kn_87) (hts _ kw_5) yd_X7_init ⟨Nat.le_of_ble_eq_true rfl, Nat.le_of_ble_eq_true rfl⟩, rfl, hts _ kw_88⟩ (hq_preS hE hI _) rfl rfl hl.1 rfl (lv_room (Nat.le_of_ble_eq_true rfl)) dX11_init_170 ⟨Nat.le_of_ble_eq_true rfl, Nat.le_of_ble_eq_true rfl⟩) (fun H locs hI => ?_)
  obtain ⟨g106, h⟩ := hq_g h
  obtain ⟨S105, g104, h⟩ := hq_bind h
  obtain ⟨fs_g106, he_g106⟩ := gC_at g106
  refine hq_aast hx hb (E := "RodDips$Text") 5 rfl hE hI he_g106 (q := (RX7, TX7, 11)) rfl (hq_asgX hE) g104 dX11_init_173 (fun H locs hI => ?_)
  refine lv_iinc (v := 3) (lv' := [(1, .int 3), (0, .ref a0)]) hx hb dX11_init_174 hl (k := 0) rfl rfl (by decide) rfl (fun ls hl => ?_)
  refine lv_goto (tgt := 141) hx hb dX11_init_177 (by decide) ?_
  refine lv_iload_n hx hb dX11_init_141 rfl (lv_at hl 0 rfl) ?_
  refine lv_iconst (v := 5) hx hb dX11_init_142 (by decide) ?_
  refine lv_icmp_ge (tgt := 180) hx hb dX11_init_143 (by decide) (fun z => absurd z (by decide)) (fun _ => ?_)
  refine lv_aload_n hx hb dX11_init_146 rfl (lv_at hl 1 rfl) ?_
  obtain ⟨b108, g109, h⟩ := hq_bind h
  obtain ⟨fs_g109, hs_g109, hv_g109⟩ := gR_at g109
  refine hq_get hx hb hts hown hE hI hs_g109 inG11 rfl 4 (by decide) kw_136 hv_g109 dX11_init_147 ?_
  refine lv_iload_n hx hb dX11_init_150 rfl (lv_at hl 0 rfl) ?_
  refine hq_new (ci := 7) hx hb hts hown hE hI inG7 tyX7 tyX7_ok kw_51 kw_86 kw_5 rfl [.int 0, .null, .null, .null, .null, .null, .int 0, .int 0, .int 0, .int 0, .int 0] (hfs_7) (Nat.le_of_ble_eq_true rfl) (Nat.le_of_ble_eq_true rfl) dX11_init_151 (fun H hI => ?_)
  obtain ⟨S110, e_S110⟩ : ∃ z, z = hNew S105 (.inr (7, [.int 0, .null, .null, .null, .null, .null, .int 0, .int 0, .int 0, .int 0, .int 0])) := ⟨_, rfl⟩
  rw [← e_S110] at hI
  have h := hq_nm h e_S110
  refine lv_dup hx hb dX11_init_154 rfl ?_
  refine lv_iconst (v := 0) hx hb dX11_init_155 (by decide) ?_
  obtain ⟨S112, g111, h⟩ := hq_bind h
  refine hq_callv hI (va_runIN (As := [.int 0]) (rest := [.ref S105.2, .int 3, .ref b108]) ⟨hx, hb, hml, hown, hts⟩ (c_X7_init l D kA ρ HB S110 S105.2 0 _ g111) ⟨va_cnB 1 hts (gdIn (hd := []) (fun _ h => absurd h List.not_mem_nil) kw_89) rfl rfl rfl (hE.2.1 _ kn_87) (hts _ kw_5) yd_X7_init ⟨Nat.le_of_ble_eq_true rfl, Nat.le_of_ble_eq_true rfl⟩, rfl, hts _ kw_88⟩ (hq_preS hE hI _) rfl rfl hl.1 rfl (lv_room (Nat.le_of_ble_eq_true rfl)) dX11_init_156 ⟨Nat.le_of_ble_eq_true rfl, Nat.le_of_ble_eq_true rfl⟩) (fun H locs hI => ?_)
  obtain ⟨g115, h⟩ := hq_g h
  obtain ⟨S114, g113, h⟩ := hq_bind h
  obtain ⟨fs_g115, he_g115⟩ := gC_at g115
  refine hq_aast hx hb (E := "RodDips$Text") 5 rfl hE hI he_g115 (q := (RX7, TX7, 11)) rfl (hq_asgX hE) g113 dX11_init_159 (fun H locs hI => ?_)
  refine lv_aload_n hx hb dX11_init_160 rfl (lv_at hl 1 rfl) ?_
  obtain ⟨b116, g117, h⟩ := hq_bind h
  obtain ⟨fs_g117, hs_g117, hv_g117⟩ := gR_at g117
  refine hq_get hx hb hts hown hE hI hs_g117 inG11 rfl 6 (by decide) kw_138 hv_g117 dX11_init_161 ?_
  refine lv_iload_n hx hb dX11_init_164 rfl (lv_at hl 0 rfl) ?_
  refine hq_new (ci := 7) hx hb hts hown hE hI inG7 tyX7 tyX7_ok kw_51 kw_86 kw_5 rfl [.int 0, .null, .null, .null, .null, .null, .int 0, .int 0, .int 0, .int 0, .int 0] (hfs_7) (Nat.le_of_ble_eq_true rfl) (Nat.le_of_ble_eq_true rfl) dX11_init_165 (fun H hI => ?_)
  obtain ⟨S118, e_S118⟩ : ∃ z, z = hNew S114 (.inr (7, [.int 0, .null, .null, .null, .null, .null, .int 0, .int 0, .int 0, .int 0, .int 0])) := ⟨_, rfl⟩
  rw [← e_S118] at hI
  have h := hq_nm h e_S118
  refine lv_dup hx hb dX11_init_168 rfl ?_
  refine lv_iconst (v := 1) hx hb dX11_init_169 (by decide) ?_
  obtain ⟨S120, g119, h⟩ := hq_bind h
  refine hq_callv hI (va_runIN (As := [.int 1]) (rest := [.ref S114.2, .int 3, .ref b116]) ⟨hx, hb, hml, hown, hts⟩ (c_X7_init l D kA ρ HB S118 S114.2 1 _ g119) ⟨va_cnB 1 hts (gdIn (hd := []) (fun _ h => absurd h List.not_mem_nil) kw_89) rfl rfl rfl (hE.2.1 _ kn_87) (hts _ kw_5) yd_X7_init ⟨Nat.le_of_ble_eq_true rfl, Nat.le_of_ble_eq_true rfl⟩, rfl, hts _ kw_88⟩ (hq_preS hE hI _) rfl rfl hl.1 rfl (lv_room (Nat.le_of_ble_eq_true rfl)) dX11_init_170 ⟨Nat.le_of_ble_eq_true rfl, Nat.le_of_ble_eq_true rfl⟩) (fun H locs hI => ?_)
  obtain ⟨g123, h⟩ := hq_g h
  obtain ⟨S122, g121, h⟩ := hq_bind h
  obtain ⟨fs_g123, he_g123⟩ := gC_at g123
  refine hq_aast hx hb (E := "RodDips$Text") 5 rfl hE hI he_g123 (q := (RX7, TX7, 11)) rfl (hq_asgX hE) g121 dX11_init_173 (fun H locs hI => ?_)
  refine lv_iinc (v := 4) (lv' := [(1, .int 4), (0, .ref a0)]) hx hb dX11_init_174 hl (k := 0) rfl rfl (by decide) rfl (fun ls hl => ?_)
  refine lv_goto (tgt := 141) hx hb dX11_init_177 (by decide) ?_
  refine lv_iload_n hx hb dX11_init_141 rfl (lv_at hl 0 rfl) ?_
  refine lv_iconst (v := 5) hx hb dX11_init_142 (by decide) ?_
  refine lv_icmp_ge (tgt := 180) hx hb dX11_init_143 (by decide) (fun z => absurd z (by decide)) (fun _ => ?_)
  refine lv_aload_n hx hb dX11_init_146 rfl (lv_at hl 1 rfl) ?_
  obtain ⟨b125, g126, h⟩ := hq_bind h
  obtain ⟨fs_g126, hs_g126, hv_g126⟩ := gR_at g126
  refine hq_get hx hb hts hown hE hI hs_g126 inG11 rfl 4 (by decide) kw_136 hv_g126 dX11_init_147 ?_
  refine lv_iload_n hx hb dX11_init_150 rfl (lv_at hl 0 rfl) ?_
  refine hq_new (ci := 7) hx hb hts hown hE hI inG7 tyX7 tyX7_ok kw_51 kw_86 kw_5 rfl [.int 0, .null, .null, .null, .null, .null, .int 0, .int 0, .int 0, .int 0, .int 0] (hfs_7) (Nat.le_of_ble_eq_true rfl) (Nat.le_of_ble_eq_true rfl) dX11_init_151 (fun H hI => ?_)
  obtain ⟨S127, e_S127⟩ : ∃ z, z = hNew S122 (.inr (7, [.int 0, .null, .null, .null, .null, .null, .int 0, .int 0, .int 0, .int 0, .int 0])) := ⟨_, rfl⟩
  rw [← e_S127] at hI
  have h := hq_nm h e_S127
  refine lv_dup hx hb dX11_init_154 rfl ?_
  refine lv_iconst (v := 0) hx hb dX11_init_155 (by decide) ?_
  obtain ⟨S129, g128, h⟩ := hq_bind h
  refine hq_callv hI (va_runIN (As := [.int 0]) (rest := [.ref S122.2, .int 4, .ref b125]) ⟨hx, hb, hml, hown, hts⟩ (c_X7_init l D kA ρ HB S127 S122.2 0 _ g128) ⟨va_cnB 1 hts (gdIn (hd := []) (fun _ h => absurd h List.not_mem_nil) kw_89) rfl rfl rfl (hE.2.1 _ kn_87) (hts _ kw_5) yd_X7_init ⟨Nat.le_of_ble_eq_true rfl, Nat.le_of_ble_eq_true rfl⟩, rfl, hts _ kw_88⟩ (hq_preS hE hI _) rfl rfl hl.1 rfl (lv_room (Nat.le_of_ble_eq_true rfl)) dX11_init_156 ⟨Nat.le_of_ble_eq_true rfl, Nat.le_of_ble_eq_true rfl⟩) (fun H locs hI => ?_)
  obtain ⟨g132, h⟩ := hq_g h
  obtain ⟨S131, g130, h⟩ := hq_bind h
  obtain ⟨fs_g132, he_g132⟩ := gC_at g132
  refine hq_aast hx hb (E := "RodDips$Text") 5 rfl hE hI he_g132 (q := (RX7, TX7, 11)) rfl (hq_asgX hE) g130 dX11_init_159 (fun H locs hI => ?_)
  refine lv_aload_n hx hb dX11_init_160 rfl (lv_at hl 1 rfl) ?_
  obtain ⟨b133, g134, h⟩ := hq_bind h
  obtain ⟨fs_g134, hs_g134, hv_g134⟩ := gR_at g134
  refine hq_get hx hb hts hown hE hI hs_g134 inG11 rfl 6 (by decide) kw_138 hv_g134 dX11_init_161 ?_
  refine lv_iload_n hx hb dX11_init_164 rfl (lv_at hl 0 rfl) ?_
  refine hq_new (ci := 7) hx hb hts hown hE hI inG7 tyX7 tyX7_ok kw_51 kw_86 kw_5 rfl [.int 0, .null, .null, .null, .null, .null, .int 0, .int 0, .int 0, .int 0, .int 0] (hfs_7) (Nat.le_of_ble_eq_true rfl) (Nat.le_of_ble_eq_true rfl) dX11_init_165 (fun H hI => ?_)
  obtain ⟨S135, e_S135⟩ : ∃ z, z = hNew S131 (.inr (7, [.int 0, .null, .null, .null, .null, .null, .int 0, .int 0, .int 0, .int 0, .int 0])) := ⟨_, rfl⟩
  rw [← e_S135] at hI
  have h := hq_nm h e_S135
  refine lv_dup hx hb dX11_init_168 rfl ?_
  refine lv_iconst (v := 1) hx hb dX11_init_169 (by decide) ?_
  obtain ⟨S137, g136, h⟩ := hq_bind h
  refine hq_callv hI (va_runIN (As := [.int 1]) (rest := [.ref S131.2, .int 4, .ref b133]) ⟨hx, hb, hml, hown, hts⟩ (c_X7_init l D kA ρ HB S135 S131.2 1 _ g136) ⟨va_cnB 1 hts (gdIn (hd := []) (fun _ h => absurd h List.not_mem_nil) kw_89) rfl rfl rfl (hE.2.1 _ kn_87) (hts _ kw_5) yd_X7_init ⟨Nat.le_of_ble_eq_true rfl, Nat.le_of_ble_eq_true rfl⟩, rfl, hts _ kw_88⟩ (hq_preS hE hI _) rfl rfl hl.1 rfl (lv_room (Nat.le_of_ble_eq_true rfl)) dX11_init_170 ⟨Nat.le_of_ble_eq_true rfl, Nat.le_of_ble_eq_true rfl⟩) (fun H locs hI => ?_)
  obtain ⟨g140, h⟩ := hq_g h
  obtain ⟨S139, g138, h⟩ := hq_bind h
  obtain ⟨fs_g140, he_g140⟩ := gC_at g140
  refine hq_aast hx hb (E := "RodDips$Text") 5 rfl hE hI he_g140 (q := (RX7, TX7, 11)) rfl (hq_asgX hE) g138 dX11_init_173 (fun H locs hI => ?_)
  refine lv_iinc (v := 5) (lv' := [(1, .int 5), (0, .ref a0)]) hx hb dX11_init_174 hl (k := 0) rfl rfl (by decide) rfl (fun ls hl => ?_)
  refine lv_goto (tgt := 141) hx hb dX11_init_177 (by decide) ?_
  refine lv_iload_n hx hb dX11_init_141 rfl (lv_at hl 0 rfl) ?_
  refine lv_iconst (v := 5) hx hb dX11_init_142 (by decide) ?_
  refine lv_icmp_ge (tgt := 180) hx hb dX11_init_143 (by decide) (fun _ => ?_) (fun z => absurd z (by decide))
  refine W.widen (k := 64) (n := 1914) (Nat.le_of_ble_eq_true rfl) (Nat.le_of_ble_eq_true rfl) ?_
  exact hq_vret hx hb hr hlocks h0 hI h dX11_init_180
