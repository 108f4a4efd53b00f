/-! the class reads Es: printed by wip/whole/gen.py -/
-- RodDips$Text.wordThatBegins(I)Ljava/lang/String;
theorem dX7_wordThatBegins_0 : decode cX7_wordThatBegins 0 = .ok (.iload_n 1, 1) := by decide +kernel
theorem dX7_wordThatBegins_1 : decode cX7_wordThatBegins 1 = .ok (.tableswitch 200 97 116 #[155, 170, 200, 140, 200, 200, 200, 95, 200, 200, 200, 200, 200, 110, 185, 200, 200, 200, 200, 125], 95) := by decide +kernel
theorem dX7_wordThatBegins_96 : decode cX7_wordThatBegins 96 = .ok (.aload_n 0, 1) := by decide +kernel
theorem dX7_wordThatBegins_97 : decode cX7_wordThatBegins 97 = .ok (.getfield 24, 3) := by decide +kernel
theorem dX7_wordThatBegins_100 : decode cX7_wordThatBegins 100 = .ok (.ifCond .eq 8, 3) := by decide +kernel
theorem dX7_wordThatBegins_103 : decode cX7_wordThatBegins 103 = .ok (.ldc 52, 2) := by decide +kernel
theorem dX7_wordThatBegins_105 : decode cX7_wordThatBegins 105 = .ok (.goto 5, 3) := by decide +kernel
theorem dX7_wordThatBegins_108 : decode cX7_wordThatBegins 108 = .ok (.ldc 54, 2) := by decide +kernel
theorem dX7_wordThatBegins_110 : decode cX7_wordThatBegins 110 = .ok (.areturn, 1) := by decide +kernel
theorem dX7_wordThatBegins_111 : decode cX7_wordThatBegins 111 = .ok (.aload_n 0, 1) := by decide +kernel
theorem dX7_wordThatBegins_112 : decode cX7_wordThatBegins 112 = .ok (.getfield 24, 3) := by decide +kernel
theorem dX7_wordThatBegins_115 : decode cX7_wordThatBegins 115 = .ok (.ifCond .eq 8, 3) := by decide +kernel
theorem dX7_wordThatBegins_118 : decode cX7_wordThatBegins 118 = .ok (.ldc 56, 2) := by decide +kernel
theorem dX7_wordThatBegins_120 : decode cX7_wordThatBegins 120 = .ok (.goto 5, 3) := by decide +kernel
theorem dX7_wordThatBegins_123 : decode cX7_wordThatBegins 123 = .ok (.ldc 58, 2) := by decide +kernel
theorem dX7_wordThatBegins_125 : decode cX7_wordThatBegins 125 = .ok (.areturn, 1) := by decide +kernel
theorem dX7_wordThatBegins_126 : decode cX7_wordThatBegins 126 = .ok (.aload_n 0, 1) := by decide +kernel
theorem dX7_wordThatBegins_127 : decode cX7_wordThatBegins 127 = .ok (.getfield 24, 3) := by decide +kernel
theorem dX7_wordThatBegins_130 : decode cX7_wordThatBegins 130 = .ok (.ifCond .eq 8, 3) := by decide +kernel
theorem dX7_wordThatBegins_133 : decode cX7_wordThatBegins 133 = .ok (.ldc 52, 2) := by decide +kernel
theorem dX7_wordThatBegins_135 : decode cX7_wordThatBegins 135 = .ok (.goto 5, 3) := by decide +kernel
theorem dX7_wordThatBegins_138 : decode cX7_wordThatBegins 138 = .ok (.ldc 60, 2) := by decide +kernel
theorem dX7_wordThatBegins_140 : decode cX7_wordThatBegins 140 = .ok (.areturn, 1) := by decide +kernel
theorem dX7_wordThatBegins_141 : decode cX7_wordThatBegins 141 = .ok (.aload_n 0, 1) := by decide +kernel
theorem dX7_wordThatBegins_142 : decode cX7_wordThatBegins 142 = .ok (.getfield 24, 3) := by decide +kernel
theorem dX7_wordThatBegins_145 : decode cX7_wordThatBegins 145 = .ok (.ifCond .eq 8, 3) := by decide +kernel
theorem dX7_wordThatBegins_148 : decode cX7_wordThatBegins 148 = .ok (.ldc 52, 2) := by decide +kernel
theorem dX7_wordThatBegins_150 : decode cX7_wordThatBegins 150 = .ok (.goto 5, 3) := by decide +kernel
theorem dX7_wordThatBegins_153 : decode cX7_wordThatBegins 153 = .ok (.ldc 62, 2) := by decide +kernel
theorem dX7_wordThatBegins_155 : decode cX7_wordThatBegins 155 = .ok (.areturn, 1) := by decide +kernel
theorem dX7_wordThatBegins_156 : decode cX7_wordThatBegins 156 = .ok (.aload_n 0, 1) := by decide +kernel
theorem dX7_wordThatBegins_157 : decode cX7_wordThatBegins 157 = .ok (.getfield 24, 3) := by decide +kernel
theorem dX7_wordThatBegins_160 : decode cX7_wordThatBegins 160 = .ok (.ifCond .eq 8, 3) := by decide +kernel
theorem dX7_wordThatBegins_163 : decode cX7_wordThatBegins 163 = .ok (.ldc 64, 2) := by decide +kernel
theorem dX7_wordThatBegins_165 : decode cX7_wordThatBegins 165 = .ok (.goto 5, 3) := by decide +kernel
theorem dX7_wordThatBegins_168 : decode cX7_wordThatBegins 168 = .ok (.ldc 52, 2) := by decide +kernel
theorem dX7_wordThatBegins_170 : decode cX7_wordThatBegins 170 = .ok (.areturn, 1) := by decide +kernel
theorem dX7_wordThatBegins_171 : decode cX7_wordThatBegins 171 = .ok (.aload_n 0, 1) := by decide +kernel
theorem dX7_wordThatBegins_172 : decode cX7_wordThatBegins 172 = .ok (.getfield 24, 3) := by decide +kernel
theorem dX7_wordThatBegins_175 : decode cX7_wordThatBegins 175 = .ok (.ifCond .eq 8, 3) := by decide +kernel
theorem dX7_wordThatBegins_178 : decode cX7_wordThatBegins 178 = .ok (.ldc 66, 2) := by decide +kernel
theorem dX7_wordThatBegins_180 : decode cX7_wordThatBegins 180 = .ok (.goto 5, 3) := by decide +kernel
theorem dX7_wordThatBegins_183 : decode cX7_wordThatBegins 183 = .ok (.ldc 52, 2) := by decide +kernel
theorem dX7_wordThatBegins_185 : decode cX7_wordThatBegins 185 = .ok (.areturn, 1) := by decide +kernel
theorem dX7_wordThatBegins_186 : decode cX7_wordThatBegins 186 = .ok (.aload_n 0, 1) := by decide +kernel
theorem dX7_wordThatBegins_187 : decode cX7_wordThatBegins 187 = .ok (.getfield 24, 3) := by decide +kernel
theorem dX7_wordThatBegins_190 : decode cX7_wordThatBegins 190 = .ok (.ifCond .eq 8, 3) := by decide +kernel
theorem dX7_wordThatBegins_193 : decode cX7_wordThatBegins 193 = .ok (.ldc 68, 2) := by decide +kernel
theorem dX7_wordThatBegins_195 : decode cX7_wordThatBegins 195 = .ok (.goto 5, 3) := by decide +kernel
theorem dX7_wordThatBegins_198 : decode cX7_wordThatBegins 198 = .ok (.ldc 52, 2) := by decide +kernel
theorem dX7_wordThatBegins_200 : decode cX7_wordThatBegins 200 = .ok (.areturn, 1) := by decide +kernel
theorem dX7_wordThatBegins_201 : decode cX7_wordThatBegins 201 = .ok (.ldc 52, 2) := by decide +kernel
theorem dX7_wordThatBegins_203 : decode cX7_wordThatBegins 203 = .ok (.areturn, 1) := by decide +kernel
def f_X7_wordThatBegins (ρ : Nat → Nat) (S : HSt) (a0 : Nat) (a1 : Int32) : Option (Option Nat × HSt) := if a1 = 97 then ((gI S a0 7 0).bind fun v8 => if v8 = 0 then (some (some (ρ 2), S)) else (some (some (ρ 8), S))) else (if a1 = 98 then ((gI S a0 7 0).bind fun v11 => if v11 = 0 then (some (some (ρ 2), S)) else (some (some (ρ 9), S))) else (if a1 = 100 then ((gI S a0 7 0).bind fun v14 => if v14 = 0 then (some (some (ρ 7), S)) else (some (some (ρ 2), S))) else (if a1 = 104 then ((gI S a0 7 0).bind fun v17 => if v17 = 0 then (some (some (ρ 3), S)) else (some (some (ρ 2), S))) else (if a1 = 110 then ((gI S a0 7 0).bind fun v20 => if v20 = 0 then (some (some (ρ 5), S)) else (some (some (ρ 4), S))) else (if a1 = 111 then ((gI S a0 7 0).bind fun v23 => if v23 = 0 then (some (some (ρ 2), S)) else (some (some (ρ 10), S))) else (if a1 = 116 then ((gI S a0 7 0).bind fun v26 => if v26 = 0 then (some (some (ρ 6), S)) else (some (some (ρ 2), S))) else (some (some (ρ 2), S))))))))
abbrev rm_X7_wordThatBegins : Room := { frames := 0, cells := 0, slots := 0, locals := 0 }
abbrev w_X7_wordThatBegins : List Cond := Cond.code yX7_wordThatBegins cX7_wordThatBegins 2 (Option.some (FieldType.object "java/lang/String")) :: lwG
theorem yd_X7_wordThatBegins : yX7_wordThatBegins.cls ≠ "java/lang/invoke/MethodHandle" ∧ yX7_wordThatBegins.cls ≠ "java/lang/invoke/VarHandle" ∧ (parseMethodDescriptor yX7_wordThatBegins.desc).map (fun d => d.parameters.length) = some 1 := by decide +kernel
theorem ye_X7_wordThatBegins : yX7_wordThatBegins.cls = RX7 ∧ yX7_wordThatBegins.cls ≠ "java/lang/invoke/MethodHandle" ∧ yX7_wordThatBegins.cls ≠ "java/lang/invoke/VarHandle" ∧ (parseMethodDescriptor yX7_wordThatBegins.desc).map (fun d => d.parameters.length) = some 1 := by decide +kernel
set_option maxHeartbeats 4000000 in
set_option maxRecDepth 100000 in
theorem c_X7_wordThatBegins (l : Launch) (D : va_G) (kA ρ : Nat → Nat) (HB : Heap) (S : HSt) (a0 : Nat) (a1 : Int32) (res : Option Nat × HSt) (h : f_X7_wordThatBegins ρ S a0 a1 = some res) : Met l yX7_wordThatBegins w_X7_wordThatBegins rm_X7_wordThatBegins (hPc D kA ρ HB S [.ref a0, .int a1]) (hQq D kA HB S res) 0 0 (hFree HB) := by
  refine Met.ofW (cc := cX7_wordThatBegins) (maxL := 2) (ret := (Option.some (FieldType.object "java/lang/String"))) (by decide) rfl ?_
  intro p e s m args below meth c s₁ B hml hv
  obtain ⟨rfl, hE, h0⟩ := hv
  have hx := B.exec
  have hb := B.bytes
  have hr := B.returns
  have hts0 := atoms_spec (ws := w_X7_wordThatBegins) B.pre
  have hts : ∀ w ∈ lwG, w.before _ s = true := fun w hw => hts0 w (List.mem_cons_of_mem _ hw)
  have hown : s.vm.findClass RX7 = some m.cls := findClass_of_methodNamed B.named
  have hlocks := B.notSynchronized
  have hI : hqX D kA HB S.2 S s.heap [] := ⟨h0, Nat.le_refl _, fun _ q => absurd q List.not_mem_nil⟩
  have hl := lv_entry ([.ref a0, .int a1]) (n := 2) (Nat.le_of_ble_eq_true rfl)
  rw [lg_entry_eq]
  generalize (lg_sl ([.ref a0, .int a1]) ++ List.replicate (2 - (lg_sl ([.ref a0, .int a1])).length) Slot.unset).toArray = ls at hl ⊢
  have hl : lv_has ls 2 [(0, .ref a0), (1, .int a1)] := hl
  unfold f_X7_wordThatBegins at h
  refine lv_iload_n hx hb dX7_wordThatBegins_0 rfl (lv_at hl 1 rfl) ?_
  by_cases c1 : a1 = 97
  · have h := hq_t h c1
    refine lv_tableIn (tgt := 156) hx hb dX7_wordThatBegins_1 (by rw [c1]; decide) (by rw [c1]; decide) (by rw [c1]; rfl) (by decide) ?_
    refine lv_aload_n hx hb dX7_wordThatBegins_156 rfl (lv_at hl 0 rfl) ?_
    obtain ⟨v8, g9, h⟩ := hq_bind h
    obtain ⟨fs_g9, hs_g9, hv_g9⟩ := gI_at g9
    refine hq_get hx hb hts hown hE hI hs_g9 inG7 rfl 0 (by decide) kw_93 hv_g9 dX7_wordThatBegins_157 ?_
    refine lv_if_eq (tgt := 168) hx hb dX7_wordThatBegins_160 (by decide) (fun c10 => ?_) (fun c10 => ?_)
    · have h := hq_t h c10
      refine hq_ldcS (k := 2) hx hb hown hE (List.mem_of_getElem? (i := 2) rfl) dX7_wordThatBegins_168 ?_
      exact hq_aret (v := some (ρ 2)) hx hb hr hlocks h0 hI h dX7_wordThatBegins_170
    · have h := hq_f h c10
      refine hq_ldcS (k := 8) hx hb hown hE (List.mem_of_getElem? (i := 8) rfl) dX7_wordThatBegins_163 ?_
      refine lv_goto (tgt := 170) hx hb dX7_wordThatBegins_165 (by decide) ?_
      exact hq_aret (v := some (ρ 8)) hx hb hr hlocks h0 hI h dX7_wordThatBegins_170
  have h := hq_f h c1
  by_cases c2 : a1 = 98
  · have h := hq_t h c2
    refine lv_tableIn (tgt := 171) hx hb dX7_wordThatBegins_1 (by rw [c2]; decide) (by rw [c2]; decide) (by rw [c2]; rfl) (by decide) ?_
    refine lv_aload_n hx hb dX7_wordThatBegins_171 rfl (lv_at hl 0 rfl) ?_
    obtain ⟨v11, g12, h⟩ := hq_bind h
    obtain ⟨fs_g12, hs_g12, hv_g12⟩ := gI_at g12
    refine hq_get hx hb hts hown hE hI hs_g12 inG7 rfl 0 (by decide) kw_93 hv_g12 dX7_wordThatBegins_172 ?_
    refine lv_if_eq (tgt := 183) hx hb dX7_wordThatBegins_175 (by decide) (fun c13 => ?_) (fun c13 => ?_)
    · have h := hq_t h c13
      refine hq_ldcS (k := 2) hx hb hown hE (List.mem_of_getElem? (i := 2) rfl) dX7_wordThatBegins_183 ?_
      exact hq_aret (v := some (ρ 2)) hx hb hr hlocks h0 hI h dX7_wordThatBegins_185
    · have h := hq_f h c13
      refine hq_ldcS (k := 9) hx hb hown hE (List.mem_of_getElem? (i := 9) rfl) dX7_wordThatBegins_178 ?_
      refine lv_goto (tgt := 185) hx hb dX7_wordThatBegins_180 (by decide) ?_
      exact hq_aret (v := some (ρ 9)) hx hb hr hlocks h0 hI h dX7_wordThatBegins_185
  have h := hq_f h c2
  by_cases c3 : a1 = 100
  · have h := hq_t h c3
    refine lv_tableIn (tgt := 141) hx hb dX7_wordThatBegins_1 (by rw [c3]; decide) (by rw [c3]; decide) (by rw [c3]; rfl) (by decide) ?_
    refine lv_aload_n hx hb dX7_wordThatBegins_141 rfl (lv_at hl 0 rfl) ?_
    obtain ⟨v14, g15, h⟩ := hq_bind h
    obtain ⟨fs_g15, hs_g15, hv_g15⟩ := gI_at g15
    refine hq_get hx hb hts hown hE hI hs_g15 inG7 rfl 0 (by decide) kw_93 hv_g15 dX7_wordThatBegins_142 ?_
    refine lv_if_eq (tgt := 153) hx hb dX7_wordThatBegins_145 (by decide) (fun c16 => ?_) (fun c16 => ?_)
    · have h := hq_t h c16
      refine hq_ldcS (k := 7) hx hb hown hE (List.mem_of_getElem? (i := 7) rfl) dX7_wordThatBegins_153 ?_
      exact hq_aret (v := some (ρ 7)) hx hb hr hlocks h0 hI h dX7_wordThatBegins_155
    · have h := hq_f h c16
      refine hq_ldcS (k := 2) hx hb hown hE (List.mem_of_getElem? (i := 2) rfl) dX7_wordThatBegins_148 ?_
      refine lv_goto (tgt := 155) hx hb dX7_wordThatBegins_150 (by decide) ?_
      exact hq_aret (v := some (ρ 2)) hx hb hr hlocks h0 hI h dX7_wordThatBegins_155
  have h := hq_f h c3
  by_cases c4 : a1 = 104
  · have h := hq_t h c4
    refine lv_tableIn (tgt := 96) hx hb dX7_wordThatBegins_1 (by rw [c4]; decide) (by rw [c4]; decide) (by rw [c4]; rfl) (by decide) ?_
    refine lv_aload_n hx hb dX7_wordThatBegins_96 rfl (lv_at hl 0 rfl) ?_
    obtain ⟨v17, g18, h⟩ := hq_bind h
    obtain ⟨fs_g18, hs_g18, hv_g18⟩ := gI_at g18
    refine hq_get hx hb hts hown hE hI hs_g18 inG7 rfl 0 (by decide) kw_93 hv_g18 dX7_wordThatBegins_97 ?_
    refine lv_if_eq (tgt := 108) hx hb dX7_wordThatBegins_100 (by decide) (fun c19 => ?_) (fun c19 => ?_)
    · have h := hq_t h c19
      refine hq_ldcS (k := 3) hx hb hown hE (List.mem_of_getElem? (i := 3) rfl) dX7_wordThatBegins_108 ?_
      exact hq_aret (v := some (ρ 3)) hx hb hr hlocks h0 hI h dX7_wordThatBegins_110
    · have h := hq_f h c19
      refine hq_ldcS (k := 2) hx hb hown hE (List.mem_of_getElem? (i := 2) rfl) dX7_wordThatBegins_103 ?_
      refine lv_goto (tgt := 110) hx hb dX7_wordThatBegins_105 (by decide) ?_
      exact hq_aret (v := some (ρ 2)) hx hb hr hlocks h0 hI h dX7_wordThatBegins_110
  have h := hq_f h c4
  by_cases c5 : a1 = 110
  · have h := hq_t h c5
    refine lv_tableIn (tgt := 111) hx hb dX7_wordThatBegins_1 (by rw [c5]; decide) (by rw [c5]; decide) (by rw [c5]; rfl) (by decide) ?_
    refine lv_aload_n hx hb dX7_wordThatBegins_111 rfl (lv_at hl 0 rfl) ?_
    obtain ⟨v20, g21, h⟩ := hq_bind h
    obtain ⟨fs_g21, hs_g21, hv_g21⟩ := gI_at g21
    refine hq_get hx hb hts hown hE hI hs_g21 inG7 rfl 0 (by decide) kw_93 hv_g21 dX7_wordThatBegins_112 ?_
    refine lv_if_eq (tgt := 123) hx hb dX7_wordThatBegins_115 (by decide) (fun c22 => ?_) (fun c22 => ?_)
    · have h := hq_t h c22
      refine hq_ldcS (k := 5) hx hb hown hE (List.mem_of_getElem? (i := 5) rfl) dX7_wordThatBegins_123 ?_
      exact hq_aret (v := some (ρ 5)) hx hb hr hlocks h0 hI h dX7_wordThatBegins_125
    · have h := hq_f h c22
      refine hq_ldcS (k := 4) hx hb hown hE (List.mem_of_getElem? (i := 4) rfl) dX7_wordThatBegins_118 ?_
      refine lv_goto (tgt := 125) hx hb dX7_wordThatBegins_120 (by decide) ?_
      exact hq_aret (v := some (ρ 4)) hx hb hr hlocks h0 hI h dX7_wordThatBegins_125
  have h := hq_f h c5
  by_cases c6 : a1 = 111
  · have h := hq_t h c6
    refine lv_tableIn (tgt := 186) hx hb dX7_wordThatBegins_1 (by rw [c6]; decide) (by rw [c6]; decide) (by rw [c6]; rfl) (by decide) ?_
    refine lv_aload_n hx hb dX7_wordThatBegins_186 rfl (lv_at hl 0 rfl) ?_
    obtain ⟨v23, g24, h⟩ := hq_bind h
    obtain ⟨fs_g24, hs_g24, hv_g24⟩ := gI_at g24
    refine hq_get hx hb hts hown hE hI hs_g24 inG7 rfl 0 (by decide) kw_93 hv_g24 dX7_wordThatBegins_187 ?_
    refine lv_if_eq (tgt := 198) hx hb dX7_wordThatBegins_190 (by decide) (fun c25 => ?_) (fun c25 => ?_)
    · have h := hq_t h c25
      refine hq_ldcS (k := 2) hx hb hown hE (List.mem_of_getElem? (i := 2) rfl) dX7_wordThatBegins_198 ?_
      exact hq_aret (v := some (ρ 2)) hx hb hr hlocks h0 hI h dX7_wordThatBegins_200
    · have h := hq_f h c25
      refine hq_ldcS (k := 10) hx hb hown hE (List.mem_of_getElem? (i := 10) rfl) dX7_wordThatBegins_193 ?_
      refine lv_goto (tgt := 200) hx hb dX7_wordThatBegins_195 (by decide) ?_
      exact hq_aret (v := some (ρ 10)) hx hb hr hlocks h0 hI h dX7_wordThatBegins_200
  have h := hq_f h c6
  by_cases c7 : a1 = 116
  · have h := hq_t h c7
    refine lv_tableIn (tgt := 126) hx hb dX7_wordThatBegins_1 (by rw [c7]; decide) (by rw [c7]; decide) (by rw [c7]; rfl) (by decide) ?_
    refine lv_aload_n hx hb dX7_wordThatBegins_126 rfl (lv_at hl 0 rfl) ?_
    obtain ⟨v26, g27, h⟩ := hq_bind h
    obtain ⟨fs_g27, hs_g27, hv_g27⟩ := gI_at g27
    refine hq_get hx hb hts hown hE hI hs_g27 inG7 rfl 0 (by decide) kw_93 hv_g27 dX7_wordThatBegins_127 ?_
    refine lv_if_eq (tgt := 138) hx hb dX7_wordThatBegins_130 (by decide) (fun c28 => ?_) (fun c28 => ?_)
    · have h := hq_t h c28
      refine hq_ldcS (k := 6) hx hb hown hE (List.mem_of_getElem? (i := 6) rfl) dX7_wordThatBegins_138 ?_
      exact hq_aret (v := some (ρ 6)) hx hb hr hlocks h0 hI h dX7_wordThatBegins_140
    · have h := hq_f h c28
      refine hq_ldcS (k := 2) hx hb hown hE (List.mem_of_getElem? (i := 2) rfl) dX7_wordThatBegins_133 ?_
      refine lv_goto (tgt := 140) hx hb dX7_wordThatBegins_135 (by decide) ?_
      exact hq_aret (v := some (ρ 2)) hx hb hr hlocks h0 hI h dX7_wordThatBegins_140
  have h := hq_f h c7
  have t_c1 := lv_neT c1 (a := 97) (by decide)
  have t_c2 := lv_neT c2 (a := 98) (by decide)
  have t_c3 := lv_neT c3 (a := 100) (by decide)
  have t_c4 := lv_neT c4 (a := 104) (by decide)
  have t_c5 := lv_neT c5 (a := 110) (by decide)
  have t_c6 := lv_neT c6 (a := 111) (by decide)
  have t_c7 := lv_neT c7 (a := 116) (by decide)
  have hz : Int32.toInt a1 < 97 ∨ 116 < Int32.toInt a1 ∨ Int32.toInt a1 = 99 ∨ Int32.toInt a1 = 101 ∨ Int32.toInt a1 = 102 ∨ Int32.toInt a1 = 103 ∨ Int32.toInt a1 = 105 ∨ Int32.toInt a1 = 106 ∨ Int32.toInt a1 = 107 ∨ Int32.toInt a1 = 108 ∨ Int32.toInt a1 = 109 ∨ Int32.toInt a1 = 112 ∨ Int32.toInt a1 = 113 ∨ Int32.toInt a1 = 114 ∨ Int32.toInt a1 = 115 := by omega
  refine hq_table (tgt := 201) hx hb dX7_wordThatBegins_1 (by rcases hz with q | q | q | q | q | q | q | q | q | q | q | q | q | q | q <;> first | exact Or.inl ⟨Or.inl q, by decide⟩ | exact Or.inl ⟨Or.inr q, by decide⟩ | exact Or.inr ⟨by rw [q]; decide, by rw [q]; decide, _, by rw [q]; rfl, by decide⟩) ?_
  refine hq_ldcS (k := 2) hx hb hown hE (List.mem_of_getElem? (i := 2) rfl) dX7_wordThatBegins_201 ?_
  exact hq_aret (v := some (ρ 2)) hx hb hr hlocks h0 hI h dX7_wordThatBegins_203
-- RodDips$Tape.readWord(Ljava/lang/String;)Z
theorem dX6_readWord_0 : decode cX6_readWord 0 = .ok (.iconst 0, 1) := by decide +kernel
theorem dX6_readWord_1 : decode cX6_readWord 1 = .ok (.istore_n 2, 1) := by decide +kernel
theorem dX6_readWord_2 : decode cX6_readWord 2 = .ok (.iload_n 2, 1) := by decide +kernel
theorem dX6_readWord_3 : decode cX6_readWord 3 = .ok (.aload_n 1, 1) := by decide +kernel
theorem dX6_readWord_4 : decode cX6_readWord 4 = .ok (.invokevirtual 85, 3) := by decide +kernel
theorem dX6_readWord_7 : decode cX6_readWord 7 = .ok (.if_icmp .ge 33, 3) := by decide +kernel
theorem dX6_readWord_10 : decode cX6_readWord 10 = .ok (.aload_n 0, 1) := by decide +kernel
theorem dX6_readWord_11 : decode cX6_readWord 11 = .ok (.invokevirtual 43, 3) := by decide +kernel
theorem dX6_readWord_14 : decode cX6_readWord 14 = .ok (.aload_n 1, 1) := by decide +kernel
theorem dX6_readWord_15 : decode cX6_readWord 15 = .ok (.iload_n 2, 1) := by decide +kernel
theorem dX6_readWord_16 : decode cX6_readWord 16 = .ok (.invokevirtual 88, 3) := by decide +kernel
theorem dX6_readWord_19 : decode cX6_readWord 19 = .ok (.if_icmp .eq 5, 3) := by decide +kernel
theorem dX6_readWord_22 : decode cX6_readWord 22 = .ok (.iconst 0, 1) := by decide +kernel
theorem dX6_readWord_23 : decode cX6_readWord 23 = .ok (.ireturn, 1) := by decide +kernel
theorem dX6_readWord_24 : decode cX6_readWord 24 = .ok (.aload_n 0, 1) := by decide +kernel
theorem dX6_readWord_25 : decode cX6_readWord 25 = .ok (.dup, 1) := by decide +kernel
theorem dX6_readWord_26 : decode cX6_readWord 26 = .ok (.getfield 19, 3) := by decide +kernel
theorem dX6_readWord_29 : decode cX6_readWord 29 = .ok (.iconst 1, 1) := by decide +kernel
theorem dX6_readWord_30 : decode cX6_readWord 30 = .ok (.iadd, 1) := by decide +kernel
theorem dX6_readWord_31 : decode cX6_readWord 31 = .ok (.putfield 19, 3) := by decide +kernel
theorem dX6_readWord_34 : decode cX6_readWord 34 = .ok (.iinc 2 1, 3) := by decide +kernel
theorem dX6_readWord_37 : decode cX6_readWord 37 = .ok (.goto (-35), 3) := by decide +kernel
theorem dX6_readWord_40 : decode cX6_readWord 40 = .ok (.iconst 1, 1) := by decide +kernel
theorem dX6_readWord_41 : decode cX6_readWord 41 = .ok (.ireturn, 1) := by decide +kernel
def f_X6_readWord_K40 (S1 : HSt) : Option (Int32 × HSt) := some (1, S1)
def f_X6_readWord_B2 (ρ : Nat → Nat) (a0 : Nat) (a1 : Nat) (kx40 : (HSt → Option (Int32 × HSt))) (kb2 : (Int32 → HSt → Option (Int32 × HSt))) (x2 : Int32) (S3 : HSt) : Option (Int32 × HSt) := if (sX ρ a1).isSome = true then (bd2 (f_J0_length_8abf5 ρ S3 a1) fun v7 S6 => if v7 ≤ x2 then (kx40 S6) else (if gC S6 a0 = some 6 then (bd2 (f_X6_look S6 a0) fun v12 S11 => if (sX ρ a1).isSome = true then (bd2 (f_J0_charAt_5068e ρ S11 a1 x2) fun v16 S15 => if v12 = v16 then ((gI S15 a0 6 2).bind fun v18 => (pV S15 a0 6 2 (.int (v18 + 1))).bind fun S20 => kb2 (x2 + 1) S20) else (some (0, S15))) else none) else none)) else none
def f_X6_readWord_L2 (ρ : Nat → Nat) (a0 : Nat) (a1 : Nat) (kx40 : (HSt → Option (Int32 × HSt))) : Nat → Int32 → HSt → Option (Int32 × HSt)
  | 0, _, _ => none
  | n + 1, x2, S => f_X6_readWord_B2 ρ a0 a1 kx40 (f_X6_readWord_L2 ρ a0 a1 kx40 n) x2 S
def f_X6_readWord (ρ : Nat → Nat) (S : HSt) (a0 : Nat) (a1 : Nat) : Option (Int32 × HSt) := (f_X6_readWord_L2 ρ a0 a1 f_X6_readWord_K40 FU) 0 S
abbrev rm_X6_readWord : Room := { frames := 4, cells := 0, slots := 0, locals := 85 }
abbrev w_X6_readWord : List Cond := Cond.code yX6_readWord cX6_readWord 3 (Option.some FieldType.boolean) :: lwG
theorem yd_X6_readWord : yX6_readWord.cls ≠ "java/lang/invoke/MethodHandle" ∧ yX6_readWord.cls ≠ "java/lang/invoke/VarHandle" ∧ (parseMethodDescriptor yX6_readWord.desc).map (fun d => d.parameters.length) = some 1 := by decide +kernel
theorem ye_X6_readWord : yX6_readWord.cls = RX6 ∧ yX6_readWord.cls ≠ "java/lang/invoke/MethodHandle" ∧ yX6_readWord.cls ≠ "java/lang/invoke/VarHandle" ∧ (parseMethodDescriptor yX6_readWord.desc).map (fun d => d.parameters.length) = some 1 := by decide +kernel
set_option maxHeartbeats 4000000 in
set_option maxRecDepth 100000 in
theorem c_X6_readWord (l : Launch) (D : va_G) (kA ρ : Nat → Nat) (HB : Heap) (S : HSt) (a0 : Nat) (a1 : Nat) (res : Int32 × HSt) (h : f_X6_readWord ρ S a0 a1 = some res) : Met l yX6_readWord w_X6_readWord rm_X6_readWord (hPc D kA ρ HB S [.ref a0, .ref a1]) (hQi D kA HB S res) 0 0 (hFree HB) := by
  refine Met.ofW (cc := cX6_readWord) (maxL := 3) (ret := (Option.some FieldType.boolean)) (by decide) rfl ?_
  intro p e s m args below meth c s₁ B hml hv
  obtain ⟨rfl, hE, h0⟩ := hv
  have hx := B.exec
  have hb := B.bytes
  have hr := B.returns
  have hts0 := atoms_spec (ws := w_X6_readWord) B.pre
  have hts : ∀ w ∈ lwG, w.before _ s = true := fun w hw => hts0 w (List.mem_cons_of_mem _ hw)
  have hown : s.vm.findClass RX6 = some m.cls := findClass_of_methodNamed B.named
  have hlocks := B.notSynchronized
  have hI : hqX D kA HB S.2 S s.heap [] := ⟨h0, Nat.le_refl _, fun _ q => absurd q List.not_mem_nil⟩
  have hl := lv_entry ([.ref a0, .ref a1]) (n := 3) (Nat.le_of_ble_eq_true rfl)
  rw [lg_entry_eq]
  generalize (lg_sl ([.ref a0, .ref a1]) ++ List.replicate (3 - (lg_sl ([.ref a0, .ref a1])).length) Slot.unset).toArray = ls at hl ⊢
  have hl : lv_has ls 3 [(0, .ref a0), (1, .ref a1)] := hl
  unfold f_X6_readWord at h
  refine lv_iconst (v := 0) hx hb dX6_readWord_0 (by decide) ?_
  refine lv_istore_n (lv' := [(2, .int 0), (0, .ref a0), (1, .ref a1)]) hx hb dX6_readWord_1 rfl hl (by decide) rfl (fun ls hl => ?_)
  have hK40 : ∀ (S1 : HSt) (H : Heap) (locs : List Loc) (ls : Array Slot), f_X6_readWord_K40 S1 = some res → hqX D kA HB S.2 S1 H locs → lv_has ls 3 [] → W p l e rm_X6_readWord s m ([.ref a0, .ref a1] : List Value).toArray below meth c H locs 0 0 (MQ below (hQi D kA HB S res) ([.ref a0, .ref a1] : List Value).toArray s 0 0 (hFree HB)) (F0 m 40 ls []) := by
    intro S1 H locs ls h hI hl
    unfold f_X6_readWord_K40 at h
    refine lv_iconst (v := 1) hx hb dX6_readWord_40 (by decide) ?_
    exact hq_zret hx hb hr hlocks h0 hI (by decide) h dX6_readWord_41
  have hL2 : ∀ (n2 : Nat) (x2 : Int32) (S3 : HSt) (H : Heap) (locs : List Loc) (ls : Array Slot), (f_X6_readWord_L2 ρ a0 a1 f_X6_readWord_K40 n2) x2 S3 = some res → hqX D kA HB S.2 S3 H locs → lv_has ls 3 [(0, .ref a0), (1, .ref a1), (2, .int x2)] → W p l e rm_X6_readWord s m ([.ref a0, .ref a1] : List Value).toArray below meth c H locs 0 0 (MQ below (hQi D kA HB S res) ([.ref a0, .ref a1] : List Value).toArray s 0 0 (hFree HB)) (F0 m 2 ls []) := by
    intro n2
    induction n2 with
    | zero =>
      intro x2 S3 H locs ls h
      have h : (none : Option (Int32 × HSt)) = some res := h
      cases h
    | succ n2 ih2 =>
      intro x2 S3 H locs ls h hI hl
      have h : f_X6_readWord_B2 ρ a0 a1 f_X6_readWord_K40 (f_X6_readWord_L2 ρ a0 a1 f_X6_readWord_K40 n2) x2 S3 = some res := h
      unfold f_X6_readWord_B2 at h
      refine lv_iload_n hx hb dX6_readWord_2 rfl (lv_at hl 2 rfl) ?_
      refine lv_aload_n hx hb dX6_readWord_3 rfl (lv_at hl 1 rfl) ?_
      obtain ⟨g5, h⟩ := hq_g h
      obtain ⟨v7, S6, g4, h⟩ := hq_bd2 h
      refine hq_calli hI (va_runV (As := []) (rest := [.int x2]) ⟨hx, hb, hml, hown, hts⟩ (c_J0_length_8abf5 l D kA ρ HB S3 a1 _ g4) (cwV 0 hts (gdIn (List.forall_mem_cons.mpr ⟨kw_411, (List.forall_mem_cons.mpr ⟨kw_412, (List.forall_mem_cons.mpr ⟨kw_413, (List.forall_mem_cons.mpr ⟨kw_15, (fun _ h => absurd h List.not_mem_nil)⟩)⟩)⟩)⟩) kw_414) rfl rfl rfl ye_J0_length_8abf5 ⟨Nat.le_of_ble_eq_true rfl, Nat.le_of_ble_eq_true rfl⟩) (hq_preT hE h0 hI g5 _) rfl rfl hl.1 rfl (lv_room (Nat.le_of_ble_eq_true rfl)) dX6_readWord_4 ⟨Nat.le_of_ble_eq_true rfl, Nat.le_of_ble_eq_true rfl⟩) (fun H locs hI => ?_)
      refine lv_icmp_ge (tgt := 40) hx hb dX6_readWord_7 (by decide) (fun c8 => ?_) (fun c8 => ?_)
      · have h := hq_t h c8
        exact hK40 S6 _ _ _ h hI (lv_sub hl [] rfl)
      · have h := hq_f h c8
        refine lv_aload_n hx hb dX6_readWord_10 rfl (lv_at hl 0 rfl) ?_
        obtain ⟨g10, h⟩ := hq_g h
        obtain ⟨v12, S11, g9, h⟩ := hq_bd2 h
        refine hq_calli hI (va_runV (As := []) (rest := []) ⟨hx, hb, hml, hown, hts⟩ (c_X6_look l D kA ρ HB S6 a0 _ g9) (cwV 0 hts (gdIn (List.forall_mem_cons.mpr ⟨kw_386, (List.forall_mem_cons.mpr ⟨kw_388, (List.forall_mem_cons.mpr ⟨ks_4, (List.forall_mem_cons.mpr ⟨kw_2, (fun _ h => absurd h List.not_mem_nil)⟩)⟩)⟩)⟩) kw_389) rfl rfl rfl ye_X6_look ⟨Nat.le_of_ble_eq_true rfl, Nat.le_of_ble_eq_true rfl⟩) (hq_preC hE hI g10 rfl _) rfl rfl hl.1 rfl (lv_room (Nat.le_of_ble_eq_true rfl)) dX6_readWord_11 ⟨Nat.le_of_ble_eq_true rfl, Nat.le_of_ble_eq_true rfl⟩) (fun H locs hI => ?_)
        refine lv_aload_n hx hb dX6_readWord_14 rfl (lv_at hl 1 rfl) ?_
        refine lv_iload_n hx hb dX6_readWord_15 rfl (lv_at hl 2 rfl) ?_
        obtain ⟨g14, h⟩ := hq_g h
        obtain ⟨v16, S15, g13, h⟩ := hq_bd2 h
        refine hq_calli hI (va_runV (As := [.int x2]) (rest := [.int v12]) ⟨hx, hb, hml, hown, hts⟩ (c_J0_charAt_5068e l D kA ρ HB S11 a1 x2 _ g13) (cwV 1 hts (gdIn (List.forall_mem_cons.mpr ⟨kw_421, (List.forall_mem_cons.mpr ⟨kw_422, (List.forall_mem_cons.mpr ⟨kw_423, (List.forall_mem_cons.mpr ⟨kw_15, (fun _ h => absurd h List.not_mem_nil)⟩)⟩)⟩)⟩) kw_424) rfl rfl rfl ye_J0_charAt_5068e ⟨Nat.le_of_ble_eq_true rfl, Nat.le_of_ble_eq_true rfl⟩) (hq_preT hE h0 hI g14 _) rfl rfl hl.1 rfl (lv_room (Nat.le_of_ble_eq_true rfl)) dX6_readWord_16 ⟨Nat.le_of_ble_eq_true rfl, Nat.le_of_ble_eq_true rfl⟩) (fun H locs hI => ?_)
        refine lv_icmp_eq (tgt := 24) hx hb dX6_readWord_19 (by decide) (fun c17 => ?_) (fun c17 => ?_)
        · have h := hq_t h c17
          refine lv_aload_n hx hb dX6_readWord_24 rfl (lv_at hl 0 rfl) ?_
          refine lv_dup hx hb dX6_readWord_25 rfl ?_
          obtain ⟨v18, g19, h⟩ := hq_bind h
          obtain ⟨fs_g19, hs_g19, hv_g19⟩ := gI_at g19
          refine hq_get hx hb hts hown hE hI hs_g19 inG6 rfl 2 (by decide) kw_42 hv_g19 dX6_readWord_26 ?_
          refine lv_iconst (v := 1) hx hb dX6_readWord_29 (by decide) ?_
          refine lv_iadd hx hb dX6_readWord_30 ?_
          obtain ⟨S20, g21, h⟩ := hq_bind h
          obtain ⟨fs_g21, hs_g21, hl_g21, e_g21⟩ := pV_at g21
          refine hq_put hx hb hts hown hE hI hs_g21 inG6 tyX6 tyX6_ok nmX6 rfl 2 (by decide) kw_42 rfl (v := .int (v18 + 1)) rfl rfl rfl hl_g21 e_g21 dX6_readWord_31 (fun H locs hI => ?_)
          refine lv_iinc (v := (x2 + 1)) (lv' := [(2, .int (x2 + 1)), (0, .ref a0), (1, .ref a1)]) hx hb dX6_readWord_34 hl (k := 2) rfl rfl (by decide) rfl (fun ls hl => ?_)
          refine lv_goto (tgt := 2) hx hb dX6_readWord_37 (by decide) ?_
          exact ih2 (x2 + 1) S20 _ _ _ h hI (lv_sub hl [1, 2, 0] rfl)
        · have h := hq_f h c17
          refine lv_iconst (v := 0) hx hb dX6_readWord_22 (by decide) ?_
          exact hq_zret hx hb hr hlocks h0 hI (by decide) h dX6_readWord_23
  exact hL2 FU 0 S _ _ _ h hI (lv_sub hl [1, 2, 0] rfl)
-- RodDips$Tape.readTest(LRodDips$Text;)Z
theorem dX6_readTest_0 : decode cX6_readTest 0 = .ok (.aload_n 0, 1) := by decide +kernel
theorem dX6_readTest_1 : decode cX6_readTest 1 = .ok (.invokevirtual 43, 3) := by decide +kernel
theorem dX6_readTest_4 : decode cX6_readTest 4 = .ok (.istore_n 2, 1) := by decide +kernel
theorem dX6_readTest_5 : decode cX6_readTest 5 = .ok (.iload_n 2, 1) := by decide +kernel
theorem dX6_readTest_6 : decode cX6_readTest 6 = .ok (.iconst (-1), 1) := by decide +kernel
theorem dX6_readTest_7 : decode cX6_readTest 7 = .ok (.if_icmp .eq 15, 3) := by decide +kernel
theorem dX6_readTest_10 : decode cX6_readTest 10 = .ok (.aload_n 1, 1) := by decide +kernel
theorem dX6_readTest_11 : decode cX6_readTest 11 = .ok (.getfield 104, 3) := by decide +kernel
theorem dX6_readTest_14 : decode cX6_readTest 14 = .ok (.iload_n 2, 1) := by decide +kernel
theorem dX6_readTest_15 : decode cX6_readTest 15 = .ok (.i2c, 1) := by decide +kernel
theorem dX6_readTest_16 : decode cX6_readTest 16 = .ok (.invokevirtual 108, 3) := by decide +kernel
theorem dX6_readTest_19 : decode cX6_readTest 19 = .ok (.ifCond .ge 5, 3) := by decide +kernel
theorem dX6_readTest_22 : decode cX6_readTest 22 = .ok (.iconst 0, 1) := by decide +kernel
theorem dX6_readTest_23 : decode cX6_readTest 23 = .ok (.ireturn, 1) := by decide +kernel
theorem dX6_readTest_24 : decode cX6_readTest 24 = .ok (.aload_n 0, 1) := by decide +kernel
theorem dX6_readTest_25 : decode cX6_readTest 25 = .ok (.dup, 1) := by decide +kernel
theorem dX6_readTest_26 : decode cX6_readTest 26 = .ok (.getfield 19, 3) := by decide +kernel
theorem dX6_readTest_29 : decode cX6_readTest 29 = .ok (.iconst 1, 1) := by decide +kernel
theorem dX6_readTest_30 : decode cX6_readTest 30 = .ok (.iadd, 1) := by decide +kernel
theorem dX6_readTest_31 : decode cX6_readTest 31 = .ok (.putfield 19, 3) := by decide +kernel
theorem dX6_readTest_34 : decode cX6_readTest 34 = .ok (.aload_n 0, 1) := by decide +kernel
theorem dX6_readTest_35 : decode cX6_readTest 35 = .ok (.invokevirtual 43, 3) := by decide +kernel
theorem dX6_readTest_38 : decode cX6_readTest 38 = .ok (.iconst (-1), 1) := by decide +kernel
theorem dX6_readTest_39 : decode cX6_readTest 39 = .ok (.if_icmp .ne 7, 3) := by decide +kernel
theorem dX6_readTest_42 : decode cX6_readTest 42 = .ok (.iconst (-1), 1) := by decide +kernel
theorem dX6_readTest_43 : decode cX6_readTest 43 = .ok (.goto 13, 3) := by decide +kernel
theorem dX6_readTest_46 : decode cX6_readTest 46 = .ok (.ldc 112, 2) := by decide +kernel
theorem dX6_readTest_48 : decode cX6_readTest 48 = .ok (.aload_n 0, 1) := by decide +kernel
theorem dX6_readTest_49 : decode cX6_readTest 49 = .ok (.invokevirtual 43, 3) := by decide +kernel
theorem dX6_readTest_52 : decode cX6_readTest 52 = .ok (.i2c, 1) := by decide +kernel
theorem dX6_readTest_53 : decode cX6_readTest 53 = .ok (.invokevirtual 108, 3) := by decide +kernel
theorem dX6_readTest_56 : decode cX6_readTest 56 = .ok (.istore_n 3, 1) := by decide +kernel
theorem dX6_readTest_57 : decode cX6_readTest 57 = .ok (.iload_n 3, 1) := by decide +kernel
theorem dX6_readTest_58 : decode cX6_readTest 58 = .ok (.ifCond .ge 5, 3) := by decide +kernel
theorem dX6_readTest_61 : decode cX6_readTest 61 = .ok (.iconst 0, 1) := by decide +kernel
theorem dX6_readTest_62 : decode cX6_readTest 62 = .ok (.ireturn, 1) := by decide +kernel
theorem dX6_readTest_63 : decode cX6_readTest 63 = .ok (.aload_n 0, 1) := by decide +kernel
theorem dX6_readTest_64 : decode cX6_readTest 64 = .ok (.dup, 1) := by decide +kernel
theorem dX6_readTest_65 : decode cX6_readTest 65 = .ok (.getfield 19, 3) := by decide +kernel
theorem dX6_readTest_68 : decode cX6_readTest 68 = .ok (.iconst 1, 1) := by decide +kernel
theorem dX6_readTest_69 : decode cX6_readTest 69 = .ok (.iadd, 1) := by decide +kernel
theorem dX6_readTest_70 : decode cX6_readTest 70 = .ok (.putfield 19, 3) := by decide +kernel
theorem dX6_readTest_73 : decode cX6_readTest 73 = .ok (.aload_n 0, 1) := by decide +kernel
theorem dX6_readTest_74 : decode cX6_readTest 74 = .ok (.invokevirtual 65, 3) := by decide +kernel
theorem dX6_readTest_77 : decode cX6_readTest 77 = .ok (.istore 4, 2) := by decide +kernel
theorem dX6_readTest_79 : decode cX6_readTest 79 = .ok (.iload 4, 2) := by decide +kernel
theorem dX6_readTest_81 : decode cX6_readTest 81 = .ok (.ifCond .ge 5, 3) := by decide +kernel
theorem dX6_readTest_84 : decode cX6_readTest 84 = .ok (.iconst 0, 1) := by decide +kernel
theorem dX6_readTest_85 : decode cX6_readTest 85 = .ok (.ireturn, 1) := by decide +kernel
theorem dX6_readTest_86 : decode cX6_readTest 86 = .ok (.aload_n 1, 1) := by decide +kernel
theorem dX6_readTest_87 : decode cX6_readTest 87 = .ok (.iload_n 2, 1) := by decide +kernel
theorem dX6_readTest_88 : decode cX6_readTest 88 = .ok (.bipush 9, 2) := by decide +kernel
theorem dX6_readTest_90 : decode cX6_readTest 90 = .ok (.ishl, 1) := by decide +kernel
theorem dX6_readTest_91 : decode cX6_readTest 91 = .ok (.iload_n 3, 1) := by decide +kernel
theorem dX6_readTest_92 : decode cX6_readTest 92 = .ok (.bipush 7, 2) := by decide +kernel
theorem dX6_readTest_94 : decode cX6_readTest 94 = .ok (.ishl, 1) := by decide +kernel
theorem dX6_readTest_95 : decode cX6_readTest 95 = .ok (.ior, 1) := by decide +kernel
theorem dX6_readTest_96 : decode cX6_readTest 96 = .ok (.iload 4, 2) := by decide +kernel
theorem dX6_readTest_98 : decode cX6_readTest 98 = .ok (.ior, 1) := by decide +kernel
theorem dX6_readTest_99 : decode cX6_readTest 99 = .ok (.invokevirtual 95, 3) := by decide +kernel
theorem dX6_readTest_102 : decode cX6_readTest 102 = .ok (.iconst 1, 1) := by decide +kernel
theorem dX6_readTest_103 : decode cX6_readTest 103 = .ok (.ireturn, 1) := by decide +kernel
def f_X6_readTest_J56 (a0 : Nat) (a1 : Nat) (v4 : Int32) (y21 : Int32) (S22 : HSt) : Option (Int32 × HSt) := if 0 ≤ y21 then ((gI S22 a0 6 2).bind fun v24 => (pV S22 a0 6 2 (.int (v24 + 1))).bind fun S26 => if gC S26 a0 = some 6 then (bd2 (f_X6_readNumber S26 a0) fun v31 S30 => if 0 ≤ v31 then (if gC S30 a1 = some 7 then ((f_X7_put S30 a1 (((v4 <<< (9 &&& 31)) ||| (y21 <<< (7 &&& 31))) ||| v31)).bind fun S35 => some (1, S35)) else none) else (some (0, S30))) else none) else (some (0, S22))
def f_X6_readTest (ρ : Nat → Nat) (S : HSt) (a0 : Nat) (a1 : Nat) : Option (Int32 × HSt) := if gC S a0 = some 6 then (bd2 (f_X6_look S a0) fun v4 S3 => if v4 = (-1) then (some (0, S3)) else ((gR S3 a1 7 1).bind fun b6 => if (sX ρ b6).isSome = true then (bd2 (f_J0_indexOf_0f7a4 ρ S3 b6 ((Int32.toUInt32 v4 % 65536).toInt32)) fun v11 S10 => if 0 ≤ v11 then ((gI S10 a0 6 2).bind fun v13 => (pV S10 a0 6 2 (.int (v13 + 1))).bind fun S15 => if gC S15 a0 = some 6 then (bd2 (f_X6_look S15 a0) fun v20 S19 => if v20 = (-1) then ((f_X6_readTest_J56 a0 a1 v4) (-1) S19) else (if gC S19 a0 = some 6 then (bd2 (f_X6_look S19 a0) fun v40 S39 => if (sX ρ (ρ 12)).isSome = true then (bd2 (f_J0_indexOf_0f7a4 ρ S39 (ρ 12) ((Int32.toUInt32 v40 % 65536).toInt32)) fun v44 S43 => (f_X6_readTest_J56 a0 a1 v4) v44 S43) else none) else none)) else none) else (some (0, S10))) else none)) else none
abbrev rm_X6_readTest : Room := { frames := 4, cells := 0, slots := 0, locals := 91 }
abbrev w_X6_readTest : List Cond := Cond.code yX6_readTest cX6_readTest 5 (Option.some FieldType.boolean) :: lwG
theorem yd_X6_readTest : yX6_readTest.cls ≠ "java/lang/invoke/MethodHandle" ∧ yX6_readTest.cls ≠ "java/lang/invoke/VarHandle" ∧ (parseMethodDescriptor yX6_readTest.desc).map (fun d => d.parameters.length) = some 1 := by decide +kernel
theorem ye_X6_readTest : yX6_readTest.cls = RX6 ∧ yX6_readTest.cls ≠ "java/lang/invoke/MethodHandle" ∧ yX6_readTest.cls ≠ "java/lang/invoke/VarHandle" ∧ (parseMethodDescriptor yX6_readTest.desc).map (fun d => d.parameters.length) = some 1 := by decide +kernel
set_option maxHeartbeats 4000000 in
set_option maxRecDepth 100000 in
theorem c_X6_readTest (l : Launch) (D : va_G) (kA ρ : Nat → Nat) (HB : Heap) (S : HSt) (a0 : Nat) (a1 : Nat) (res : Int32 × HSt) (h : f_X6_readTest ρ S a0 a1 = some res) : Met l yX6_readTest w_X6_readTest rm_X6_readTest (hPc D kA ρ HB S [.ref a0, .ref a1]) (hQi D kA HB S res) 0 0 (hFree HB) := by
  refine Met.ofW (cc := cX6_readTest) (maxL := 5) (ret := (Option.some FieldType.boolean)) (by decide) rfl ?_
  intro p e s m args below meth c s₁ B hml hv
  obtain ⟨rfl, hE, h0⟩ := hv
  have hx := B.exec
  have hb := B.bytes
  have hr := B.returns
  have hts0 := atoms_spec (ws := w_X6_readTest) B.pre
  have hts : ∀ w ∈ lwG, w.before _ s = true := fun w hw => hts0 w (List.mem_cons_of_mem _ hw)
  have hown : s.vm.findClass RX6 = some m.cls := findClass_of_methodNamed B.named
  have hlocks := B.notSynchronized
  have hI : hqX D kA HB S.2 S s.heap [] := ⟨h0, Nat.le_refl _, fun _ q => absurd q List.not_mem_nil⟩
  have hl := lv_entry ([.ref a0, .ref a1]) (n := 5) (Nat.le_of_ble_eq_true rfl)
  rw [lg_entry_eq]
  generalize (lg_sl ([.ref a0, .ref a1]) ++ List.replicate (5 - (lg_sl ([.ref a0, .ref a1])).length) Slot.unset).toArray = ls at hl ⊢
  have hl : lv_has ls 5 [(0, .ref a0), (1, .ref a1)] := hl
  unfold f_X6_readTest at h
  refine lv_aload_n hx hb dX6_readTest_0 rfl (lv_at hl 0 rfl) ?_
  obtain ⟨g2, h⟩ := hq_g h
  obtain ⟨v4, S3, g1, h⟩ := hq_bd2 h
  refine hq_calli hI (va_runV (As := []) (rest := []) ⟨hx, hb, hml, hown, hts⟩ (c_X6_look l D kA ρ HB S a0 _ g1) (cwV 0 hts (gdIn (List.forall_mem_cons.mpr ⟨kw_386, (List.forall_mem_cons.mpr ⟨kw_388, (List.forall_mem_cons.mpr ⟨ks_4, (List.forall_mem_cons.mpr ⟨kw_2, (fun _ h => absurd h List.not_mem_nil)⟩)⟩)⟩)⟩) kw_389) rfl rfl rfl ye_X6_look ⟨Nat.le_of_ble_eq_true rfl, Nat.le_of_ble_eq_true rfl⟩) (hq_preC hE hI g2 rfl _) rfl rfl hl.1 rfl (lv_room (Nat.le_of_ble_eq_true rfl)) dX6_readTest_1 ⟨Nat.le_of_ble_eq_true rfl, Nat.le_of_ble_eq_true rfl⟩) (fun H locs hI => ?_)
  refine lv_istore_n (lv' := [(2, .int v4), (0, .ref a0), (1, .ref a1)]) hx hb dX6_readTest_4 rfl hl (by decide) rfl (fun ls hl => ?_)
  refine lv_iload_n hx hb dX6_readTest_5 rfl (lv_at hl 0 rfl) ?_
  refine lv_iconst (v := (-1)) hx hb dX6_readTest_6 (by decide) ?_
  refine lv_icmp_eq (tgt := 22) hx hb dX6_readTest_7 (by decide) (fun c5 => ?_) (fun c5 => ?_)
  · have h := hq_t h c5
    refine lv_iconst (v := 0) hx hb dX6_readTest_22 (by decide) ?_
    exact hq_zret hx hb hr hlocks h0 hI (by decide) h dX6_readTest_23
  · have h := hq_f h c5
    refine lv_aload_n hx hb dX6_readTest_10 rfl (lv_at hl 2 rfl) ?_
    obtain ⟨b6, g7, h⟩ := hq_bind h
    obtain ⟨fs_g7, hs_g7, hv_g7⟩ := gR_at g7
    refine hq_getN hx hb hts hown hE hI hs_g7 inG7 rfl 1 (by decide) kn_96 hv_g7 dX6_readTest_11 ?_
    refine lv_iload_n hx hb dX6_readTest_14 rfl (lv_at hl 0 rfl) ?_
    refine lv_i2c (v := (Int32.toUInt32 v4 % 65536).toInt32) hx hb dX6_readTest_15 rfl ?_
    obtain ⟨g9, h⟩ := hq_g h
    obtain ⟨v11, S10, g8, h⟩ := hq_bd2 h
    refine hq_calli hI (va_runV (As := [.int ((Int32.toUInt32 v4 % 65536).toInt32)]) (rest := []) ⟨hx, hb, hml, hown, hts⟩ (c_J0_indexOf_0f7a4 l D kA ρ HB S3 b6 ((Int32.toUInt32 v4 % 65536).toInt32) _ g8) (cwV 1 hts (gdIn (List.forall_mem_cons.mpr ⟨kw_488, (List.forall_mem_cons.mpr ⟨kw_489, (List.forall_mem_cons.mpr ⟨kw_490, (List.forall_mem_cons.mpr ⟨kw_15, (fun _ h => absurd h List.not_mem_nil)⟩)⟩)⟩)⟩) kw_491) rfl rfl rfl ye_J0_indexOf_0f7a4 ⟨Nat.le_of_ble_eq_true rfl, Nat.le_of_ble_eq_true rfl⟩) (hq_preT hE h0 hI g9 _) rfl rfl hl.1 rfl (lv_room (Nat.le_of_ble_eq_true rfl)) dX6_readTest_16 ⟨Nat.le_of_ble_eq_true rfl, Nat.le_of_ble_eq_true rfl⟩) (fun H locs hI => ?_)
    refine lv_if_ge (tgt := 24) hx hb dX6_readTest_19 (by decide) (fun c12 => ?_) (fun c12 => ?_)
    · have h := hq_t h c12
      refine lv_aload_n hx hb dX6_readTest_24 rfl (lv_at hl 1 rfl) ?_
      refine lv_dup hx hb dX6_readTest_25 rfl ?_
      obtain ⟨v13, g14, h⟩ := hq_bind h
      obtain ⟨fs_g14, hs_g14, hv_g14⟩ := gI_at g14
      refine hq_get hx hb hts hown hE hI hs_g14 inG6 rfl 2 (by decide) kw_42 hv_g14 dX6_readTest_26 ?_
      refine lv_iconst (v := 1) hx hb dX6_readTest_29 (by decide) ?_
      refine lv_iadd hx hb dX6_readTest_30 ?_
      obtain ⟨S15, g16, h⟩ := hq_bind h
      obtain ⟨fs_g16, hs_g16, hl_g16, e_g16⟩ := pV_at g16
      refine hq_put hx hb hts hown hE hI hs_g16 inG6 tyX6 tyX6_ok nmX6 rfl 2 (by decide) kw_42 rfl (v := .int (v13 + 1)) rfl rfl rfl hl_g16 e_g16 dX6_readTest_31 (fun H locs hI => ?_)
      refine lv_aload_n hx hb dX6_readTest_34 rfl (lv_at hl 1 rfl) ?_
      obtain ⟨g18, h⟩ := hq_g h
      obtain ⟨v20, S19, g17, h⟩ := hq_bd2 h
      refine hq_calli hI (va_runV (As := []) (rest := []) ⟨hx, hb, hml, hown, hts⟩ (c_X6_look l D kA ρ HB S15 a0 _ g17) (cwV 0 hts (gdIn (List.forall_mem_cons.mpr ⟨kw_386, (List.forall_mem_cons.mpr ⟨kw_388, (List.forall_mem_cons.mpr ⟨ks_4, (List.forall_mem_cons.mpr ⟨kw_2, (fun _ h => absurd h List.not_mem_nil)⟩)⟩)⟩)⟩) kw_389) rfl rfl rfl ye_X6_look ⟨Nat.le_of_ble_eq_true rfl, Nat.le_of_ble_eq_true rfl⟩) (hq_preC hE hI g18 rfl _) rfl rfl hl.1 rfl (lv_room (Nat.le_of_ble_eq_true rfl)) dX6_readTest_35 ⟨Nat.le_of_ble_eq_true rfl, Nat.le_of_ble_eq_true rfl⟩) (fun H locs hI => ?_)
      refine lv_iconst (v := (-1)) hx hb dX6_readTest_38 (by decide) ?_
      have hJ56 : ∀ (y21 : Int32) (S22 : HSt) (H : Heap) (locs : List Loc) (ls : Array Slot), (f_X6_readTest_J56 a0 a1 v4) y21 S22 = some res → hqX D kA HB S.2 S22 H locs → lv_has ls 5 [(0, .ref a0), (1, .ref a1), (2, .int v4)] → W p l e rm_X6_readTest s m ([.ref a0, .ref a1] : List Value).toArray below meth c H locs 0 0 (MQ below (hQi D kA HB S res) ([.ref a0, .ref a1] : List Value).toArray s 0 0 (hFree HB)) (F0 m 56 ls [.int y21]) := by
        intro y21 S22 H locs ls h hI hl
        unfold f_X6_readTest_J56 at h
        refine lv_istore_n (lv' := [(3, .int y21), (0, .ref a0), (1, .ref a1), (2, .int v4)]) hx hb dX6_readTest_56 rfl hl (by decide) rfl (fun ls hl => ?_)
        refine lv_iload_n hx hb dX6_readTest_57 rfl (lv_at hl 0 rfl) ?_
        refine lv_if_ge (tgt := 63) hx hb dX6_readTest_58 (by decide) (fun c23 => ?_) (fun c23 => ?_)
        · have h := hq_t h c23
          refine lv_aload_n hx hb dX6_readTest_63 rfl (lv_at hl 1 rfl) ?_
          refine lv_dup hx hb dX6_readTest_64 rfl ?_
          obtain ⟨v24, g25, h⟩ := hq_bind h
          obtain ⟨fs_g25, hs_g25, hv_g25⟩ := gI_at g25
          refine hq_get hx hb hts hown hE hI hs_g25 inG6 rfl 2 (by decide) kw_42 hv_g25 dX6_readTest_65 ?_
          refine lv_iconst (v := 1) hx hb dX6_readTest_68 (by decide) ?_
          refine lv_iadd hx hb dX6_readTest_69 ?_
          obtain ⟨S26, g27, h⟩ := hq_bind h
          obtain ⟨fs_g27, hs_g27, hl_g27, e_g27⟩ := pV_at g27
          refine hq_put hx hb hts hown hE hI hs_g27 inG6 tyX6 tyX6_ok nmX6 rfl 2 (by decide) kw_42 rfl (v := .int (v24 + 1)) rfl rfl rfl hl_g27 e_g27 dX6_readTest_70 (fun H locs hI => ?_)
          refine lv_aload_n hx hb dX6_readTest_73 rfl (lv_at hl 1 rfl) ?_
          obtain ⟨g29, h⟩ := hq_g h
          obtain ⟨v31, S30, g28, h⟩ := hq_bd2 h
          refine hq_calli hI (va_runV (As := []) (rest := []) ⟨hx, hb, hml, hown, hts⟩ (c_X6_readNumber l D kA ρ HB S26 a0 _ g28) (cwV 0 hts (gdIn (List.forall_mem_cons.mpr ⟨kw_463, (List.forall_mem_cons.mpr ⟨kw_465, (List.forall_mem_cons.mpr ⟨ks_6, (List.forall_mem_cons.mpr ⟨kw_2, (fun _ h => absurd h List.not_mem_nil)⟩)⟩)⟩)⟩) kw_466) rfl rfl rfl ye_X6_readNumber ⟨Nat.le_of_ble_eq_true rfl, Nat.le_of_ble_eq_true rfl⟩) (hq_preC hE hI g29 rfl _) rfl rfl hl.1 rfl (lv_room (Nat.le_of_ble_eq_true rfl)) dX6_readTest_74 ⟨Nat.le_of_ble_eq_true rfl, Nat.le_of_ble_eq_true rfl⟩) (fun H locs hI => ?_)
          refine lv_istore (lv' := [(4, .int v31), (3, .int y21), (0, .ref a0), (1, .ref a1), (2, .int v4)]) hx hb dX6_readTest_77 hl (by decide) rfl (fun ls hl => ?_)
          refine lv_iload hx hb dX6_readTest_79 (lv_at hl 0 rfl) ?_
          refine lv_if_ge (tgt := 86) hx hb dX6_readTest_81 (by decide) (fun c32 => ?_) (fun c32 => ?_)
          · have h := hq_t h c32
            refine lv_aload_n hx hb dX6_readTest_86 rfl (lv_at hl 3 rfl) ?_
            refine lv_iload_n hx hb dX6_readTest_87 rfl (lv_at hl 4 rfl) ?_
            refine lv_bipush (v := 9) hx hb dX6_readTest_88 (by decide) ?_
            refine lv_ishl hx hb dX6_readTest_90 ?_
            refine lv_iload_n hx hb dX6_readTest_91 rfl (lv_at hl 1 rfl) ?_
            refine lv_bipush (v := 7) hx hb dX6_readTest_92 (by decide) ?_
            refine lv_ishl hx hb dX6_readTest_94 ?_
            refine lv_ior hx hb dX6_readTest_95 ?_
            refine lv_iload hx hb dX6_readTest_96 (lv_at hl 0 rfl) ?_
            refine lv_ior hx hb dX6_readTest_98 ?_
            obtain ⟨g34, h⟩ := hq_g h
            obtain ⟨S35, g33, h⟩ := hq_bind h
            refine hq_callv hI (va_runV (As := [.int (((v4 <<< (9 &&& 31)) ||| (y21 <<< (7 &&& 31))) ||| v31)]) (rest := []) ⟨hx, hb, hml, hown, hts⟩ (c_X7_put l D kA ρ HB S30 a1 (((v4 <<< (9 &&& 31)) ||| (y21 <<< (7 &&& 31))) ||| v31) _ g33) (cwV 1 hts (gdIn (List.forall_mem_cons.mpr ⟨kw_548, (List.forall_mem_cons.mpr ⟨kw_549, (List.forall_mem_cons.mpr ⟨kw_550, (List.forall_mem_cons.mpr ⟨kw_5, (fun _ h => absurd h List.not_mem_nil)⟩)⟩)⟩)⟩) kw_551) rfl rfl rfl ye_X7_put ⟨Nat.le_of_ble_eq_true rfl, Nat.le_of_ble_eq_true rfl⟩) (hq_preC hE hI g34 rfl _) rfl rfl hl.1 rfl (lv_room (Nat.le_of_ble_eq_true rfl)) dX6_readTest_99 ⟨Nat.le_of_ble_eq_true rfl, Nat.le_of_ble_eq_true rfl⟩) (fun H locs hI => ?_)
            refine lv_iconst (v := 1) hx hb dX6_readTest_102 (by decide) ?_
            exact hq_zret hx hb hr hlocks h0 hI (by decide) h dX6_readTest_103
          · have h := hq_f h c32
            refine lv_iconst (v := 0) hx hb dX6_readTest_84 (by decide) ?_
            exact hq_zret hx hb hr hlocks h0 hI (by decide) h dX6_readTest_85
        · have h := hq_f h c23
          refine lv_iconst (v := 0) hx hb dX6_readTest_61 (by decide) ?_
          exact hq_zret hx hb hr hlocks h0 hI (by decide) h dX6_readTest_62
      refine lv_icmp_ne (tgt := 46) hx hb dX6_readTest_39 (by decide) (fun c36 => ?_) (fun c36 => ?_)
      · have h := hq_f h c36
        refine hq_ldcS (k := 12) hx hb hown hE (List.mem_of_getElem? (i := 12) rfl) dX6_readTest_46 ?_
        refine lv_aload_n hx hb dX6_readTest_48 rfl (lv_at hl 1 rfl) ?_
        obtain ⟨g38, h⟩ := hq_g h
        obtain ⟨v40, S39, g37, h⟩ := hq_bd2 h
        refine hq_calli hI (va_runV (As := []) (rest := [.ref (ρ 12)]) ⟨hx, hb, hml, hown, hts⟩ (c_X6_look l D kA ρ HB S19 a0 _ g37) (cwV 0 hts (gdIn (List.forall_mem_cons.mpr ⟨kw_386, (List.forall_mem_cons.mpr ⟨kw_388, (List.forall_mem_cons.mpr ⟨ks_4, (List.forall_mem_cons.mpr ⟨kw_2, (fun _ h => absurd h List.not_mem_nil)⟩)⟩)⟩)⟩) kw_389) rfl rfl rfl ye_X6_look ⟨Nat.le_of_ble_eq_true rfl, Nat.le_of_ble_eq_true rfl⟩) (hq_preC hE hI g38 rfl _) rfl rfl hl.1 rfl (lv_room (Nat.le_of_ble_eq_true rfl)) dX6_readTest_49 ⟨Nat.le_of_ble_eq_true rfl, Nat.le_of_ble_eq_true rfl⟩) (fun H locs hI => ?_)
        refine lv_i2c (v := (Int32.toUInt32 v40 % 65536).toInt32) hx hb dX6_readTest_52 rfl ?_
        obtain ⟨g42, h⟩ := hq_g h
        obtain ⟨v44, S43, g41, h⟩ := hq_bd2 h
        refine hq_calli hI (va_runV (As := [.int ((Int32.toUInt32 v40 % 65536).toInt32)]) (rest := []) ⟨hx, hb, hml, hown, hts⟩ (c_J0_indexOf_0f7a4 l D kA ρ HB S39 (ρ 12) ((Int32.toUInt32 v40 % 65536).toInt32) _ g41) (cwV 1 hts (gdIn (List.forall_mem_cons.mpr ⟨kw_488, (List.forall_mem_cons.mpr ⟨kw_489, (List.forall_mem_cons.mpr ⟨kw_490, (List.forall_mem_cons.mpr ⟨kw_15, (fun _ h => absurd h List.not_mem_nil)⟩)⟩)⟩)⟩) kw_491) rfl rfl rfl ye_J0_indexOf_0f7a4 ⟨Nat.le_of_ble_eq_true rfl, Nat.le_of_ble_eq_true rfl⟩) (hq_preT hE h0 hI g42 _) rfl rfl hl.1 rfl (lv_room (Nat.le_of_ble_eq_true rfl)) dX6_readTest_53 ⟨Nat.le_of_ble_eq_true rfl, Nat.le_of_ble_eq_true rfl⟩) (fun H locs hI => ?_)
        exact hJ56 v44 S43 _ _ _ h hI (lv_sub hl [1, 2, 0] rfl)
      · have h := hq_t h c36
        refine lv_iconst (v := (-1)) hx hb dX6_readTest_42 (by decide) ?_
        refine lv_goto (tgt := 56) hx hb dX6_readTest_43 (by decide) ?_
        exact hJ56 (-1) S19 _ _ _ h hI (lv_sub hl [1, 2, 0] rfl)
    · have h := hq_f h c12
      refine lv_iconst (v := 0) hx hb dX6_readTest_22 (by decide) ?_
      exact hq_zret hx hb hr hlocks h0 hI (by decide) h dX6_readTest_23
abbrev w_X6_readF : List Cond := Cond.code yX6_readF cX6_readF 4 (Option.some FieldType.boolean) :: lwG
theorem yd_X6_readF : yX6_readF.cls ≠ "java/lang/invoke/MethodHandle" ∧ yX6_readF.cls ≠ "java/lang/invoke/VarHandle" ∧ (parseMethodDescriptor yX6_readF.desc).map (fun d => d.parameters.length) = some 2 := by decide +kernel
theorem ye_X6_readF : yX6_readF.cls = RX6 ∧ yX6_readF.cls ≠ "java/lang/invoke/MethodHandle" ∧ yX6_readF.cls ≠ "java/lang/invoke/VarHandle" ∧ (parseMethodDescriptor yX6_readF.desc).map (fun d => d.parameters.length) = some 2 := by decide +kernel
-- RodDips$Tape.readE(LRodDips$Text;I)Z
theorem dX6_readE_0 : decode cX6_readE 0 = .ok (.iconst 1, 1) := by decide +kernel
theorem dX6_readE_1 : decode cX6_readE 1 = .ok (.istore_n 3, 1) := by decide +kernel
theorem dX6_readE_2 : decode cX6_readE 2 = .ok (.iload_n 3, 1) := by decide +kernel
theorem dX6_readE_3 : decode cX6_readE 3 = .ok (.bipush 120, 2) := by decide +kernel
theorem dX6_readE_5 : decode cX6_readE 5 = .ok (.if_icmp .gt 102, 3) := by decide +kernel
theorem dX6_readE_8 : decode cX6_readE 8 = .ok (.aload_n 0, 1) := by decide +kernel
theorem dX6_readE_9 : decode cX6_readE 9 = .ok (.aload_n 1, 1) := by decide +kernel
theorem dX6_readE_10 : decode cX6_readE 10 = .ok (.iload_n 2, 1) := by decide +kernel
theorem dX6_readE_11 : decode cX6_readE 11 = .ok (.invokevirtual 92, 3) := by decide +kernel
theorem dX6_readE_14 : decode cX6_readE 14 = .ok (.ifCond .ne 5, 3) := by decide +kernel
theorem dX6_readE_17 : decode cX6_readE 17 = .ok (.iconst 0, 1) := by decide +kernel
theorem dX6_readE_18 : decode cX6_readE 18 = .ok (.ireturn, 1) := by decide +kernel
theorem dX6_readE_19 : decode cX6_readE 19 = .ok (.bipush 120, 2) := by decide +kernel
theorem dX6_readE_21 : decode cX6_readE 21 = .ok (.istore 4, 2) := by decide +kernel
theorem dX6_readE_23 : decode cX6_readE 23 = .ok (.iload 4, 2) := by decide +kernel
theorem dX6_readE_25 : decode cX6_readE 25 = .ok (.ifCond .le 44, 3) := by decide +kernel
theorem dX6_readE_28 : decode cX6_readE 28 = .ok (.aload_n 0, 1) := by decide +kernel
theorem dX6_readE_29 : decode cX6_readE 29 = .ok (.invokevirtual 43, 3) := by decide +kernel
theorem dX6_readE_32 : decode cX6_readE 32 = .ok (.bipush 38, 2) := by decide +kernel
theorem dX6_readE_34 : decode cX6_readE 34 = .ok (.if_icmp .ne 35, 3) := by decide +kernel
theorem dX6_readE_37 : decode cX6_readE 37 = .ok (.aload_n 0, 1) := by decide +kernel
theorem dX6_readE_38 : decode cX6_readE 38 = .ok (.dup, 1) := by decide +kernel
theorem dX6_readE_39 : decode cX6_readE 39 = .ok (.getfield 19, 3) := by decide +kernel
theorem dX6_readE_42 : decode cX6_readE 42 = .ok (.iconst 1, 1) := by decide +kernel
theorem dX6_readE_43 : decode cX6_readE 43 = .ok (.iadd, 1) := by decide +kernel
theorem dX6_readE_44 : decode cX6_readE 44 = .ok (.putfield 19, 3) := by decide +kernel
theorem dX6_readE_47 : decode cX6_readE 47 = .ok (.aload_n 0, 1) := by decide +kernel
theorem dX6_readE_48 : decode cX6_readE 48 = .ok (.aload_n 1, 1) := by decide +kernel
theorem dX6_readE_49 : decode cX6_readE 49 = .ok (.iload_n 2, 1) := by decide +kernel
theorem dX6_readE_50 : decode cX6_readE 50 = .ok (.invokevirtual 92, 3) := by decide +kernel
theorem dX6_readE_53 : decode cX6_readE 53 = .ok (.ifCond .ne 5, 3) := by decide +kernel
theorem dX6_readE_56 : decode cX6_readE 56 = .ok (.iconst 0, 1) := by decide +kernel
theorem dX6_readE_57 : decode cX6_readE 57 = .ok (.ireturn, 1) := by decide +kernel
theorem dX6_readE_58 : decode cX6_readE 58 = .ok (.aload_n 1, 1) := by decide +kernel
theorem dX6_readE_59 : decode cX6_readE 59 = .ok (.iconst (-1), 1) := by decide +kernel
theorem dX6_readE_60 : decode cX6_readE 60 = .ok (.invokevirtual 95, 3) := by decide +kernel
theorem dX6_readE_63 : decode cX6_readE 63 = .ok (.iinc 4 (-1), 3) := by decide +kernel
theorem dX6_readE_66 : decode cX6_readE 66 = .ok (.goto (-43), 3) := by decide +kernel
theorem dX6_readE_69 : decode cX6_readE 69 = .ok (.iload_n 3, 1) := by decide +kernel
theorem dX6_readE_70 : decode cX6_readE 70 = .ok (.iconst 1, 1) := by decide +kernel
theorem dX6_readE_71 : decode cX6_readE 71 = .ok (.if_icmp .le 9, 3) := by decide +kernel
theorem dX6_readE_74 : decode cX6_readE 74 = .ok (.aload_n 1, 1) := by decide +kernel
theorem dX6_readE_75 : decode cX6_readE 75 = .ok (.bipush (-2), 2) := by decide +kernel
theorem dX6_readE_77 : decode cX6_readE 77 = .ok (.invokevirtual 95, 3) := by decide +kernel
theorem dX6_readE_80 : decode cX6_readE 80 = .ok (.aload_n 0, 1) := by decide +kernel
theorem dX6_readE_81 : decode cX6_readE 81 = .ok (.invokevirtual 43, 3) := by decide +kernel
theorem dX6_readE_84 : decode cX6_readE 84 = .ok (.bipush 124, 2) := by decide +kernel
theorem dX6_readE_86 : decode cX6_readE 86 = .ok (.if_icmp .eq 5, 3) := by decide +kernel
theorem dX6_readE_89 : decode cX6_readE 89 = .ok (.iconst 1, 1) := by decide +kernel
theorem dX6_readE_90 : decode cX6_readE 90 = .ok (.ireturn, 1) := by decide +kernel
theorem dX6_readE_91 : decode cX6_readE 91 = .ok (.aload_n 0, 1) := by decide +kernel
theorem dX6_readE_92 : decode cX6_readE 92 = .ok (.dup, 1) := by decide +kernel
theorem dX6_readE_93 : decode cX6_readE 93 = .ok (.getfield 19, 3) := by decide +kernel
theorem dX6_readE_96 : decode cX6_readE 96 = .ok (.iconst 1, 1) := by decide +kernel
theorem dX6_readE_97 : decode cX6_readE 97 = .ok (.iadd, 1) := by decide +kernel
theorem dX6_readE_98 : decode cX6_readE 98 = .ok (.putfield 19, 3) := by decide +kernel
theorem dX6_readE_101 : decode cX6_readE 101 = .ok (.iinc 3 1, 3) := by decide +kernel
theorem dX6_readE_104 : decode cX6_readE 104 = .ok (.goto (-102), 3) := by decide +kernel
theorem dX6_readE_107 : decode cX6_readE 107 = .ok (.iconst 0, 1) := by decide +kernel
theorem dX6_readE_108 : decode cX6_readE 108 = .ok (.ireturn, 1) := by decide +kernel
def f_X6_readE_K107 (S1 : HSt) : Option (Int32 × HSt) := some (0, S1)
def f_X6_readE_J80 (a0 : Nat) (kb2 : (Int32 → HSt → Option (Int32 × HSt))) (x2 : Int32) (S11 : HSt) : Option (Int32 × HSt) := if gC S11 a0 = some 6 then (bd2 (f_X6_look S11 a0) fun v15 S14 => if v15 = 124 then ((gI S14 a0 6 2).bind fun v17 => (pV S14 a0 6 2 (.int (v17 + 1))).bind fun S19 => kb2 (x2 + 1) S19) else (some (1, S14))) else none
def f_X6_readE_K69 (a0 : Nat) (a1 : Nat) (kb2 : (Int32 → HSt → Option (Int32 × HSt))) (x2 : Int32) (S10 : HSt) : Option (Int32 × HSt) := if x2 ≤ 1 then ((f_X6_readE_J80 a0 kb2 x2) S10) else (if gC S10 a1 = some 7 then ((f_X7_put S10 a1 (-2)).bind fun S24 => (f_X6_readE_J80 a0 kb2 x2) S24) else none)
def f_X6_readE_B23 (a0 : Nat) (a1 : Nat) (a2 : Int32) (rf : (HSt → Nat → Nat → Int32 → Option (Int32 × HSt))) (kx69 : (HSt → Option (Int32 × HSt))) (kb23 : (Int32 → HSt → Option (Int32 × HSt))) (x25 : Int32) (S26 : HSt) : Option (Int32 × HSt) := if x25 ≤ 0 then (kx69 S26) else (if gC S26 a0 = some 6 then (bd2 (f_X6_look S26 a0) fun v31 S30 => if v31 = 38 then ((gI S30 a0 6 2).bind fun v33 => (pV S30 a0 6 2 (.int (v33 + 1))).bind fun S35 => if gC S35 a0 = some 6 then (bd2 (rf S35 a0 a1 a2) fun v40 S39 => if v40 = 0 then (some (0, S39)) else (if gC S39 a1 = some 7 then ((f_X7_put S39 a1 (-1)).bind fun S44 => kb23 (x25 + (-1)) S44) else none)) else none) else (kx69 S30)) else none)
def f_X6_readE_L23 (a0 : Nat) (a1 : Nat) (a2 : Int32) (rf : (HSt → Nat → Nat → Int32 → Option (Int32 × HSt))) (kx69 : (HSt → Option (Int32 × HSt))) : Nat → Int32 → HSt → Option (Int32 × HSt)
  | 0, _, _ => none
  | n + 1, x25, S => f_X6_readE_B23 a0 a1 a2 rf kx69 (f_X6_readE_L23 a0 a1 a2 rf kx69 n) x25 S
def f_X6_readE_B2 (a0 : Nat) (a1 : Nat) (a2 : Int32) (rf : (HSt → Nat → Nat → Int32 → Option (Int32 × HSt))) (kx107 : (HSt → Option (Int32 × HSt))) (kb2 : (Int32 → HSt → Option (Int32 × HSt))) (x2 : Int32) (S3 : HSt) : Option (Int32 × HSt) := if 120 < x2 then (kx107 S3) else (if gC S3 a0 = some 6 then (bd2 (rf S3 a0 a1 a2) fun v8 S7 => if v8 = 0 then (some (0, S7)) else ((f_X6_readE_L23 a0 a1 a2 rf (f_X6_readE_K69 a0 a1 kb2 x2) FU) 120 S7)) else none)
def f_X6_readE_L2 (a0 : Nat) (a1 : Nat) (a2 : Int32) (rf : (HSt → Nat → Nat → Int32 → Option (Int32 × HSt))) (kx107 : (HSt → Option (Int32 × HSt))) : Nat → Int32 → HSt → Option (Int32 × HSt)
  | 0, _, _ => none
  | n + 1, x2, S => f_X6_readE_B2 a0 a1 a2 rf kx107 (f_X6_readE_L2 a0 a1 a2 rf kx107 n) x2 S
def f_X6_readE (rf : (HSt → Nat → Nat → Int32 → Option (Int32 × HSt))) (S : HSt) (a0 : Nat) (a1 : Nat) (a2 : Int32) : Option (Int32 × HSt) := (f_X6_readE_L2 a0 a1 a2 rf f_X6_readE_K107 FU) 1 S
abbrev rm_X6_readE (fr lo : Nat) : Room := { frames := fr + 20, cells := 0, slots := 0, locals := lo + 400 }
abbrev w_X6_readE : List Cond := Cond.code yX6_readE cX6_readE 5 (Option.some FieldType.boolean) :: lwG
theorem yd_X6_readE : yX6_readE.cls ≠ "java/lang/invoke/MethodHandle" ∧ yX6_readE.cls ≠ "java/lang/invoke/VarHandle" ∧ (parseMethodDescriptor yX6_readE.desc).map (fun d => d.parameters.length) = some 2 := by decide +kernel
theorem ye_X6_readE : yX6_readE.cls = RX6 ∧ yX6_readE.cls ≠ "java/lang/invoke/MethodHandle" ∧ yX6_readE.cls ≠ "java/lang/invoke/VarHandle" ∧ (parseMethodDescriptor yX6_readE.desc).map (fun d => d.parameters.length) = some 2 := by decide +kernel
set_option maxHeartbeats 4000000 in
set_option maxRecDepth 100000 in
theorem c_X6_readE (l : Launch) (D : va_G) (kA ρ : Nat → Nat) (HB : Heap) (rf : (HSt → Nat → Nat → Int32 → Option (Int32 × HSt))) (fr lo : Nat) (hF : ∀ (S : HSt) (a0 a1 : Nat) (a2 : Int32) (res : Int32 × HSt), rf S a0 a1 a2 = some res → Met l yX6_readF w_X6_readF { frames := fr, cells := 0, slots := 0, locals := lo } (hPc D kA ρ HB S [.ref a0, .ref a1, .int a2]) (hQi D kA HB S res) 0 0 (hFree HB)) (S : HSt) (a0 : Nat) (a1 : Nat) (a2 : Int32) (res : Int32 × HSt) (h : f_X6_readE rf S a0 a1 a2 = some res) : Met l yX6_readE w_X6_readE (rm_X6_readE fr lo) (hPc D kA ρ HB S [.ref a0, .ref a1, .int a2]) (hQi D kA HB S res) 0 0 (hFree HB) := by
  refine Met.ofW (cc := cX6_readE) (maxL := 5) (ret := (Option.some FieldType.boolean)) (by decide) rfl ?_
  intro p e s m args below meth c s₁ B hml hv
  obtain ⟨rfl, hE, h0⟩ := hv
  have hx := B.exec
  have hb := B.bytes
  have hr := B.returns
  have hts0 := atoms_spec (ws := w_X6_readE) B.pre
  have hts : ∀ w ∈ lwG, w.before _ s = true := fun w hw => hts0 w (List.mem_cons_of_mem _ hw)
  have hown : s.vm.findClass RX6 = some m.cls := findClass_of_methodNamed B.named
  have hlocks := B.notSynchronized
  have hI : hqX D kA HB S.2 S s.heap [] := ⟨h0, Nat.le_refl _, fun _ q => absurd q List.not_mem_nil⟩
  have hl := lv_entry ([.ref a0, .ref a1, .int a2]) (n := 5) (Nat.le_of_ble_eq_true rfl)
  rw [lg_entry_eq]
  generalize (lg_sl ([.ref a0, .ref a1, .int a2]) ++ List.replicate (5 - (lg_sl ([.ref a0, .ref a1, .int a2])).length) Slot.unset).toArray = ls at hl ⊢
  have hl : lv_has ls 5 [(0, .ref a0), (1, .ref a1), (2, .int a2)] := hl
  unfold f_X6_readE at h
  refine lv_iconst (v := 1) hx hb dX6_readE_0 (by decide) ?_
  refine lv_istore_n (lv' := [(3, .int 1), (0, .ref a0), (1, .ref a1), (2, .int a2)]) hx hb dX6_readE_1 rfl hl (by decide) rfl (fun ls hl => ?_)
  have hK107 : ∀ (S1 : HSt) (H : Heap) (locs : List Loc) (ls : Array Slot), f_X6_readE_K107 S1 = some res → hqX D kA HB S.2 S1 H locs → lv_has ls 5 [] → W p l e (rm_X6_readE fr lo) s m ([.ref a0, .ref a1, .int a2] : List Value).toArray below meth c H locs 0 0 (MQ below (hQi D kA HB S res) ([.ref a0, .ref a1, .int a2] : List Value).toArray s 0 0 (hFree HB)) (F0 m 107 ls []) := by
    intro S1 H locs ls h hI hl
    unfold f_X6_readE_K107 at h
    refine lv_iconst (v := 0) hx hb dX6_readE_107 (by decide) ?_
    exact hq_zret hx hb hr hlocks h0 hI (by decide) h dX6_readE_108
  have hL2 : ∀ (n2 : Nat) (x2 : Int32) (S3 : HSt) (H : Heap) (locs : List Loc) (ls : Array Slot), (f_X6_readE_L2 a0 a1 a2 rf f_X6_readE_K107 n2) x2 S3 = some res → hqX D kA HB S.2 S3 H locs → lv_has ls 5 [(0, .ref a0), (1, .ref a1), (2, .int a2), (3, .int x2)] → W p l e (rm_X6_readE fr lo) s m ([.ref a0, .ref a1, .int a2] : List Value).toArray below meth c H locs 0 0 (MQ below (hQi D kA HB S res) ([.ref a0, .ref a1, .int a2] : List Value).toArray s 0 0 (hFree HB)) (F0 m 2 ls []) := by
    intro n2
    induction n2 with
    | zero =>
      intro x2 S3 H locs ls h
      have h : (none : Option (Int32 × HSt)) = some res := h
      cases h
    | succ n2 ih2 =>
      intro x2 S3 H locs ls h hI hl
      have h : f_X6_readE_B2 a0 a1 a2 rf f_X6_readE_K107 (f_X6_readE_L2 a0 a1 a2 rf f_X6_readE_K107 n2) x2 S3 = some res := h
      unfold f_X6_readE_B2 at h
      refine lv_iload_n hx hb dX6_readE_2 rfl (lv_at hl 3 rfl) ?_
      refine lv_bipush (v := 120) hx hb dX6_readE_3 (by decide) ?_
      refine lv_icmp_gt (tgt := 107) hx hb dX6_readE_5 (by decide) (fun c4 => ?_) (fun c4 => ?_)
      · have h := hq_t h c4
        exact hK107 S3 _ _ _ h hI (lv_sub hl [] rfl)
      · have h := hq_f h c4
        refine lv_aload_n hx hb dX6_readE_8 rfl (lv_at hl 0 rfl) ?_
        refine lv_aload_n hx hb dX6_readE_9 rfl (lv_at hl 1 rfl) ?_
        refine lv_iload_n hx hb dX6_readE_10 rfl (lv_at hl 2 rfl) ?_
        obtain ⟨g6, h⟩ := hq_g h
        obtain ⟨v8, S7, g5, h⟩ := hq_bd2 h
        refine hq_calli hI (va_runV (As := [.ref a1, .int a2]) (rest := []) ⟨hx, hb, hml, hown, hts⟩ (hF S3 a0 a1 a2 _ g5) (cwV 2 hts (gdIn (List.forall_mem_cons.mpr ⟨kw_480, (List.forall_mem_cons.mpr ⟨kw_482, (List.forall_mem_cons.mpr ⟨ks_8, (List.forall_mem_cons.mpr ⟨kw_2, (fun _ h => absurd h List.not_mem_nil)⟩)⟩)⟩)⟩) kw_483) rfl rfl rfl ye_X6_readF ⟨by show fr + 1 ≤ fr + 20; omega, by show 8 + (4 + 11) + (lo) ≤ lo + 400; omega⟩) (hq_preC hE hI g6 rfl _) rfl rfl hl.1 rfl (lv_room (Nat.le_of_ble_eq_true rfl)) dX6_readE_11 ⟨Nat.le_of_ble_eq_true rfl, Nat.le_of_ble_eq_true rfl⟩) (fun H locs hI => ?_)
        refine lv_if_ne (tgt := 19) hx hb dX6_readE_14 (by decide) (fun c9 => ?_) (fun c9 => ?_)
        · have h := hq_f h c9
          refine lv_bipush (v := 120) hx hb dX6_readE_19 (by decide) ?_
          refine lv_istore (lv' := [(4, .int 120), (0, .ref a0), (1, .ref a1), (2, .int a2), (3, .int x2)]) hx hb dX6_readE_21 hl (by decide) rfl (fun ls hl => ?_)
          have hK69 : ∀ (S10 : HSt) (H : Heap) (locs : List Loc) (ls : Array Slot), (f_X6_readE_K69 a0 a1 (f_X6_readE_L2 a0 a1 a2 rf f_X6_readE_K107 n2) x2) S10 = some res → hqX D kA HB S.2 S10 H locs → lv_has ls 5 [(0, .ref a0), (1, .ref a1), (2, .int a2), (3, .int x2)] → W p l e (rm_X6_readE fr lo) s m ([.ref a0, .ref a1, .int a2] : List Value).toArray below meth c H locs 0 0 (MQ below (hQi D kA HB S res) ([.ref a0, .ref a1, .int a2] : List Value).toArray s 0 0 (hFree HB)) (F0 m 69 ls []) := by
            intro S10 H locs ls h hI hl
            unfold f_X6_readE_K69 at h
            refine lv_iload_n hx hb dX6_readE_69 rfl (lv_at hl 3 rfl) ?_
            refine lv_iconst (v := 1) hx hb dX6_readE_70 (by decide) ?_
            have hJ80 : ∀ (S11 : HSt) (H : Heap) (locs : List Loc) (ls : Array Slot), (f_X6_readE_J80 a0 (f_X6_readE_L2 a0 a1 a2 rf f_X6_readE_K107 n2) x2) S11 = some res → hqX D kA HB S.2 S11 H locs → lv_has ls 5 [(0, .ref a0), (1, .ref a1), (2, .int a2), (3, .int x2)] → W p l e (rm_X6_readE fr lo) s m ([.ref a0, .ref a1, .int a2] : List Value).toArray below meth c H locs 0 0 (MQ below (hQi D kA HB S res) ([.ref a0, .ref a1, .int a2] : List Value).toArray s 0 0 (hFree HB)) (F0 m 80 ls []) := by
              intro S11 H locs ls h hI hl
              unfold f_X6_readE_J80 at h
              refine lv_aload_n hx hb dX6_readE_80 rfl (lv_at hl 0 rfl) ?_
              obtain ⟨g13, h⟩ := hq_g h
              obtain ⟨v15, S14, g12, h⟩ := hq_bd2 h
              refine hq_calli hI (va_runV (As := []) (rest := []) ⟨hx, hb, hml, hown, hts⟩ (c_X6_look l D kA ρ HB S11 a0 _ g12) (cwV 0 hts (gdIn (List.forall_mem_cons.mpr ⟨kw_386, (List.forall_mem_cons.mpr ⟨kw_388, (List.forall_mem_cons.mpr ⟨ks_4, (List.forall_mem_cons.mpr ⟨kw_2, (fun _ h => absurd h List.not_mem_nil)⟩)⟩)⟩)⟩) kw_389) rfl rfl rfl ye_X6_look ⟨by show 0 + 1 ≤ fr + 20; omega, by show 8 + (1 + 11) + (0) ≤ lo + 400; omega⟩) (hq_preC hE hI g13 rfl _) rfl rfl hl.1 rfl (lv_room (Nat.le_of_ble_eq_true rfl)) dX6_readE_81 ⟨Nat.le_of_ble_eq_true rfl, Nat.le_of_ble_eq_true rfl⟩) (fun H locs hI => ?_)
              refine lv_bipush (v := 124) hx hb dX6_readE_84 (by decide) ?_
              refine lv_icmp_eq (tgt := 91) hx hb dX6_readE_86 (by decide) (fun c16 => ?_) (fun c16 => ?_)
              · have h := hq_t h c16
                refine lv_aload_n hx hb dX6_readE_91 rfl (lv_at hl 0 rfl) ?_
                refine lv_dup hx hb dX6_readE_92 rfl ?_
                obtain ⟨v17, g18, h⟩ := hq_bind h
                obtain ⟨fs_g18, hs_g18, hv_g18⟩ := gI_at g18
                refine hq_get hx hb hts hown hE hI hs_g18 inG6 rfl 2 (by decide) kw_42 hv_g18 dX6_readE_93 ?_
                refine lv_iconst (v := 1) hx hb dX6_readE_96 (by decide) ?_
                refine lv_iadd hx hb dX6_readE_97 ?_
                obtain ⟨S19, g20, h⟩ := hq_bind h
                obtain ⟨fs_g20, hs_g20, hl_g20, e_g20⟩ := pV_at g20
                refine hq_put hx hb hts hown hE hI hs_g20 inG6 tyX6 tyX6_ok nmX6 rfl 2 (by decide) kw_42 rfl (v := .int (v17 + 1)) rfl rfl rfl hl_g20 e_g20 dX6_readE_98 (fun H locs hI => ?_)
                refine lv_iinc (v := (x2 + 1)) (lv' := [(3, .int (x2 + 1)), (0, .ref a0), (1, .ref a1), (2, .int a2)]) hx hb dX6_readE_101 hl (k := 3) rfl rfl (by decide) rfl (fun ls hl => ?_)
                refine lv_goto (tgt := 2) hx hb dX6_readE_104 (by decide) ?_
                exact ih2 (x2 + 1) S19 _ _ _ h hI (lv_sub hl [1, 2, 3, 0] rfl)
              · have h := hq_f h c16
                refine lv_iconst (v := 1) hx hb dX6_readE_89 (by decide) ?_
                exact hq_zret hx hb hr hlocks h0 hI (by decide) h dX6_readE_90
            refine lv_icmp_le (tgt := 80) hx hb dX6_readE_71 (by decide) (fun c21 => ?_) (fun c21 => ?_)
            · have h := hq_t h c21
              exact hJ80 S10 _ _ _ h hI (lv_sub hl [0, 1, 2, 3] rfl)
            · have h := hq_f h c21
              refine lv_aload_n hx hb dX6_readE_74 rfl (lv_at hl 1 rfl) ?_
              refine lv_bipush (v := (-2)) hx hb dX6_readE_75 (by decide) ?_
              obtain ⟨g23, h⟩ := hq_g h
              obtain ⟨S24, g22, h⟩ := hq_bind h
              refine hq_callv hI (va_runV (As := [.int (-2)]) (rest := []) ⟨hx, hb, hml, hown, hts⟩ (c_X7_put l D kA ρ HB S10 a1 (-2) _ g22) (cwV 1 hts (gdIn (List.forall_mem_cons.mpr ⟨kw_548, (List.forall_mem_cons.mpr ⟨kw_549, (List.forall_mem_cons.mpr ⟨kw_550, (List.forall_mem_cons.mpr ⟨kw_5, (fun _ h => absurd h List.not_mem_nil)⟩)⟩)⟩)⟩) kw_551) rfl rfl rfl ye_X7_put ⟨by show 0 + 1 ≤ fr + 20; omega, by show 8 + (2 + 11) + (0) ≤ lo + 400; omega⟩) (hq_preC hE hI g23 rfl _) rfl rfl hl.1 rfl (lv_room (Nat.le_of_ble_eq_true rfl)) dX6_readE_77 ⟨Nat.le_of_ble_eq_true rfl, Nat.le_of_ble_eq_true rfl⟩) (fun H locs hI => ?_)
              exact hJ80 S24 _ _ _ h hI (lv_sub hl [0, 1, 2, 3] rfl)
          have hL23 : ∀ (n23 : Nat) (x25 : Int32) (S26 : HSt) (H : Heap) (locs : List Loc) (ls : Array Slot), (f_X6_readE_L23 a0 a1 a2 rf (f_X6_readE_K69 a0 a1 (f_X6_readE_L2 a0 a1 a2 rf f_X6_readE_K107 n2) x2) n23) x25 S26 = some res → hqX D kA HB S.2 S26 H locs → lv_has ls 5 [(0, .ref a0), (1, .ref a1), (2, .int a2), (3, .int x2), (4, .int x25)] → W p l e (rm_X6_readE fr lo) s m ([.ref a0, .ref a1, .int a2] : List Value).toArray below meth c H locs 0 0 (MQ below (hQi D kA HB S res) ([.ref a0, .ref a1, .int a2] : List Value).toArray s 0 0 (hFree HB)) (F0 m 23 ls []) := by
            intro n23
            induction n23 with
            | zero =>
              intro x25 S26 H locs ls h
              have h : (none : Option (Int32 × HSt)) = some res := h
              cases h
            | succ n23 ih23 =>
              intro x25 S26 H locs ls h hI hl
              have h : f_X6_readE_B23 a0 a1 a2 rf (f_X6_readE_K69 a0 a1 (f_X6_readE_L2 a0 a1 a2 rf f_X6_readE_K107 n2) x2) (f_X6_readE_L23 a0 a1 a2 rf (f_X6_readE_K69 a0 a1 (f_X6_readE_L2 a0 a1 a2 rf f_X6_readE_K107 n2) x2) n23) x25 S26 = some res := h
              unfold f_X6_readE_B23 at h
              refine lv_iload hx hb dX6_readE_23 (lv_at hl 4 rfl) ?_
              refine lv_if_le (tgt := 69) hx hb dX6_readE_25 (by decide) (fun c27 => ?_) (fun c27 => ?_)
              · have h := hq_t h c27
                exact hK69 S26 _ _ _ h hI (lv_sub hl [0, 1, 2, 3] rfl)
              · have h := hq_f h c27
                refine lv_aload_n hx hb dX6_readE_28 rfl (lv_at hl 0 rfl) ?_
                obtain ⟨g29, h⟩ := hq_g h
                obtain ⟨v31, S30, g28, h⟩ := hq_bd2 h
                refine hq_calli hI (va_runV (As := []) (rest := []) ⟨hx, hb, hml, hown, hts⟩ (c_X6_look l D kA ρ HB S26 a0 _ g28) (cwV 0 hts (gdIn (List.forall_mem_cons.mpr ⟨kw_386, (List.forall_mem_cons.mpr ⟨kw_388, (List.forall_mem_cons.mpr ⟨ks_4, (List.forall_mem_cons.mpr ⟨kw_2, (fun _ h => absurd h List.not_mem_nil)⟩)⟩)⟩)⟩) kw_389) rfl rfl rfl ye_X6_look ⟨by show 0 + 1 ≤ fr + 20; omega, by show 8 + (1 + 11) + (0) ≤ lo + 400; omega⟩) (hq_preC hE hI g29 rfl _) rfl rfl hl.1 rfl (lv_room (Nat.le_of_ble_eq_true rfl)) dX6_readE_29 ⟨Nat.le_of_ble_eq_true rfl, Nat.le_of_ble_eq_true rfl⟩) (fun H locs hI => ?_)
                refine lv_bipush (v := 38) hx hb dX6_readE_32 (by decide) ?_
                refine lv_icmp_ne (tgt := 69) hx hb dX6_readE_34 (by decide) (fun c32 => ?_) (fun c32 => ?_)
                · have h := hq_f h c32
                  exact hK69 S30 _ _ _ h hI (lv_sub hl [0, 1, 2, 3] rfl)
                · have h := hq_t h c32
                  refine lv_aload_n hx hb dX6_readE_37 rfl (lv_at hl 0 rfl) ?_
                  refine lv_dup hx hb dX6_readE_38 rfl ?_
                  obtain ⟨v33, g34, h⟩ := hq_bind h
                  obtain ⟨fs_g34, hs_g34, hv_g34⟩ := gI_at g34
                  refine hq_get hx hb hts hown hE hI hs_g34 inG6 rfl 2 (by decide) kw_42 hv_g34 dX6_readE_39 ?_
                  refine lv_iconst (v := 1) hx hb dX6_readE_42 (by decide) ?_
                  refine lv_iadd hx hb dX6_readE_43 ?_
                  obtain ⟨S35, g36, h⟩ := hq_bind h
                  obtain ⟨fs_g36, hs_g36, hl_g36, e_g36⟩ := pV_at g36
                  refine hq_put hx hb hts hown hE hI hs_g36 inG6 tyX6 tyX6_ok nmX6 rfl 2 (by decide) kw_42 rfl (v := .int (v33 + 1)) rfl rfl rfl hl_g36 e_g36 dX6_readE_44 (fun H locs hI => ?_)
                  refine lv_aload_n hx hb dX6_readE_47 rfl (lv_at hl 0 rfl) ?_
                  refine lv_aload_n hx hb dX6_readE_48 rfl (lv_at hl 1 rfl) ?_
                  refine lv_iload_n hx hb dX6_readE_49 rfl (lv_at hl 2 rfl) ?_
                  obtain ⟨g38, h⟩ := hq_g h
                  obtain ⟨v40, S39, g37, h⟩ := hq_bd2 h
                  refine hq_calli hI (va_runV (As := [.ref a1, .int a2]) (rest := []) ⟨hx, hb, hml, hown, hts⟩ (hF S35 a0 a1 a2 _ g37) (cwV 2 hts (gdIn (List.forall_mem_cons.mpr ⟨kw_480, (List.forall_mem_cons.mpr ⟨kw_482, (List.forall_mem_cons.mpr ⟨ks_8, (List.forall_mem_cons.mpr ⟨kw_2, (fun _ h => absurd h List.not_mem_nil)⟩)⟩)⟩)⟩) kw_483) rfl rfl rfl ye_X6_readF ⟨by show fr + 1 ≤ fr + 20; omega, by show 8 + (4 + 11) + (lo) ≤ lo + 400; omega⟩) (hq_preC hE hI g38 rfl _) rfl rfl hl.1 rfl (lv_room (Nat.le_of_ble_eq_true rfl)) dX6_readE_50 ⟨Nat.le_of_ble_eq_true rfl, Nat.le_of_ble_eq_true rfl⟩) (fun H locs hI => ?_)
                  refine lv_if_ne (tgt := 58) hx hb dX6_readE_53 (by decide) (fun c41 => ?_) (fun c41 => ?_)
                  · have h := hq_f h c41
                    refine lv_aload_n hx hb dX6_readE_58 rfl (lv_at hl 1 rfl) ?_
                    refine lv_iconst (v := (-1)) hx hb dX6_readE_59 (by decide) ?_
                    obtain ⟨g43, h⟩ := hq_g h
                    obtain ⟨S44, g42, h⟩ := hq_bind h
                    refine hq_callv hI (va_runV (As := [.int (-1)]) (rest := []) ⟨hx, hb, hml, hown, hts⟩ (c_X7_put l D kA ρ HB S39 a1 (-1) _ g42) (cwV 1 hts (gdIn (List.forall_mem_cons.mpr ⟨kw_548, (List.forall_mem_cons.mpr ⟨kw_549, (List.forall_mem_cons.mpr ⟨kw_550, (List.forall_mem_cons.mpr ⟨kw_5, (fun _ h => absurd h List.not_mem_nil)⟩)⟩)⟩)⟩) kw_551) rfl rfl rfl ye_X7_put ⟨by show 0 + 1 ≤ fr + 20; omega, by show 8 + (2 + 11) + (0) ≤ lo + 400; omega⟩) (hq_preC hE hI g43 rfl _) rfl rfl hl.1 rfl (lv_room (Nat.le_of_ble_eq_true rfl)) dX6_readE_60 ⟨Nat.le_of_ble_eq_true rfl, Nat.le_of_ble_eq_true rfl⟩) (fun H locs hI => ?_)
                    refine lv_iinc (v := (x25 + (-1))) (lv' := [(4, .int (x25 + (-1))), (0, .ref a0), (1, .ref a1), (2, .int a2), (3, .int x2)]) hx hb dX6_readE_63 hl (k := 4) rfl rfl (by decide) rfl (fun ls hl => ?_)
                    refine lv_goto (tgt := 23) hx hb dX6_readE_66 (by decide) ?_
                    exact ih23 (x25 + (-1)) S44 _ _ _ h hI (lv_sub hl [1, 2, 3, 4, 0] rfl)
                  · have h := hq_t h c41
                    refine lv_iconst (v := 0) hx hb dX6_readE_56 (by decide) ?_
                    exact hq_zret hx hb hr hlocks h0 hI (by decide) h dX6_readE_57
          exact hL23 FU 120 S7 _ _ _ h hI (lv_sub hl [1, 2, 3, 4, 0] rfl)
        · have h := hq_t h c9
          refine lv_iconst (v := 0) hx hb dX6_readE_17 (by decide) ?_
          exact hq_zret hx hb hr hlocks h0 hI (by decide) h dX6_readE_18
  exact hL2 FU 1 S _ _ _ h hI (lv_sub hl [1, 2, 3, 0] rfl)
-- RodDips$Tape.readF(LRodDips$Text;I)Z
theorem dX6_readF_0 : decode cX6_readF 0 = .ok (.aload_n 0, 1) := by decide +kernel
theorem dX6_readF_1 : decode cX6_readF 1 = .ok (.invokevirtual 43, 3) := by decide +kernel
theorem dX6_readF_4 : decode cX6_readF 4 = .ok (.istore_n 3, 1) := by decide +kernel
theorem dX6_readF_5 : decode cX6_readF 5 = .ok (.iload_n 3, 1) := by decide +kernel
theorem dX6_readF_6 : decode cX6_readF 6 = .ok (.bipush 33, 2) := by decide +kernel
theorem dX6_readF_8 : decode cX6_readF 8 = .ok (.if_icmp .eq 15, 3) := by decide +kernel
theorem dX6_readF_11 : decode cX6_readF 11 = .ok (.iload_n 3, 1) := by decide +kernel
theorem dX6_readF_12 : decode cX6_readF 12 = .ok (.bipush 40, 2) := by decide +kernel
theorem dX6_readF_14 : decode cX6_readF 14 = .ok (.if_icmp .eq 9, 3) := by decide +kernel
theorem dX6_readF_17 : decode cX6_readF 17 = .ok (.aload_n 0, 1) := by decide +kernel
theorem dX6_readF_18 : decode cX6_readF 18 = .ok (.aload_n 1, 1) := by decide +kernel
theorem dX6_readF_19 : decode cX6_readF 19 = .ok (.invokevirtual 99, 3) := by decide +kernel
theorem dX6_readF_22 : decode cX6_readF 22 = .ok (.ireturn, 1) := by decide +kernel
theorem dX6_readF_23 : decode cX6_readF 23 = .ok (.iload_n 2, 1) := by decide +kernel
theorem dX6_readF_24 : decode cX6_readF 24 = .ok (.iconst 5, 1) := by decide +kernel
theorem dX6_readF_25 : decode cX6_readF 25 = .ok (.if_icmp .lt 5, 3) := by decide +kernel
theorem dX6_readF_28 : decode cX6_readF 28 = .ok (.iconst 0, 1) := by decide +kernel
theorem dX6_readF_29 : decode cX6_readF 29 = .ok (.ireturn, 1) := by decide +kernel
theorem dX6_readF_30 : decode cX6_readF 30 = .ok (.aload_n 0, 1) := by decide +kernel
theorem dX6_readF_31 : decode cX6_readF 31 = .ok (.dup, 1) := by decide +kernel
theorem dX6_readF_32 : decode cX6_readF 32 = .ok (.getfield 19, 3) := by decide +kernel
theorem dX6_readF_35 : decode cX6_readF 35 = .ok (.iconst 1, 1) := by decide +kernel
theorem dX6_readF_36 : decode cX6_readF 36 = .ok (.iadd, 1) := by decide +kernel
theorem dX6_readF_37 : decode cX6_readF 37 = .ok (.putfield 19, 3) := by decide +kernel
theorem dX6_readF_40 : decode cX6_readF 40 = .ok (.iload_n 3, 1) := by decide +kernel
theorem dX6_readF_41 : decode cX6_readF 41 = .ok (.bipush 40, 2) := by decide +kernel
theorem dX6_readF_43 : decode cX6_readF 43 = .ok (.if_icmp .ne 29, 3) := by decide +kernel
theorem dX6_readF_46 : decode cX6_readF 46 = .ok (.aload_n 0, 1) := by decide +kernel
theorem dX6_readF_47 : decode cX6_readF 47 = .ok (.aload_n 1, 1) := by decide +kernel
theorem dX6_readF_48 : decode cX6_readF 48 = .ok (.iload_n 2, 1) := by decide +kernel
theorem dX6_readF_49 : decode cX6_readF 49 = .ok (.iconst 1, 1) := by decide +kernel
theorem dX6_readF_50 : decode cX6_readF 50 = .ok (.iadd, 1) := by decide +kernel
theorem dX6_readF_51 : decode cX6_readF 51 = .ok (.invokevirtual 81, 3) := by decide +kernel
theorem dX6_readF_54 : decode cX6_readF 54 = .ok (.ifCond .eq 16, 3) := by decide +kernel
theorem dX6_readF_57 : decode cX6_readF 57 = .ok (.aload_n 0, 1) := by decide +kernel
theorem dX6_readF_58 : decode cX6_readF 58 = .ok (.ldc 102, 2) := by decide +kernel
theorem dX6_readF_60 : decode cX6_readF 60 = .ok (.invokevirtual 57, 3) := by decide +kernel
theorem dX6_readF_63 : decode cX6_readF 63 = .ok (.ifCond .eq 7, 3) := by decide +kernel
theorem dX6_readF_66 : decode cX6_readF 66 = .ok (.iconst 1, 1) := by decide +kernel
theorem dX6_readF_67 : decode cX6_readF 67 = .ok (.goto 4, 3) := by decide +kernel
theorem dX6_readF_70 : decode cX6_readF 70 = .ok (.iconst 0, 1) := by decide +kernel
theorem dX6_readF_71 : decode cX6_readF 71 = .ok (.ireturn, 1) := by decide +kernel
theorem dX6_readF_72 : decode cX6_readF 72 = .ok (.aload_n 0, 1) := by decide +kernel
theorem dX6_readF_73 : decode cX6_readF 73 = .ok (.aload_n 1, 1) := by decide +kernel
theorem dX6_readF_74 : decode cX6_readF 74 = .ok (.iload_n 2, 1) := by decide +kernel
theorem dX6_readF_75 : decode cX6_readF 75 = .ok (.iconst 1, 1) := by decide +kernel
theorem dX6_readF_76 : decode cX6_readF 76 = .ok (.iadd, 1) := by decide +kernel
theorem dX6_readF_77 : decode cX6_readF 77 = .ok (.invokevirtual 92, 3) := by decide +kernel
theorem dX6_readF_80 : decode cX6_readF 80 = .ok (.ifCond .ne 5, 3) := by decide +kernel
theorem dX6_readF_83 : decode cX6_readF 83 = .ok (.iconst 0, 1) := by decide +kernel
theorem dX6_readF_84 : decode cX6_readF 84 = .ok (.ireturn, 1) := by decide +kernel
theorem dX6_readF_85 : decode cX6_readF 85 = .ok (.aload_n 1, 1) := by decide +kernel
theorem dX6_readF_86 : decode cX6_readF 86 = .ok (.bipush (-3), 2) := by decide +kernel
theorem dX6_readF_88 : decode cX6_readF 88 = .ok (.invokevirtual 95, 3) := by decide +kernel
theorem dX6_readF_91 : decode cX6_readF 91 = .ok (.iconst 1, 1) := by decide +kernel
theorem dX6_readF_92 : decode cX6_readF 92 = .ok (.ireturn, 1) := by decide +kernel
def f_X6_readF_J23 (ρ : Nat → Nat) (a0 : Nat) (a1 : Nat) (a2 : Int32) (rf : (HSt → Nat → Nat → Int32 → Option (Int32 × HSt))) (v4 : Int32) (S5 : HSt) : Option (Int32 × HSt) := if a2 < 5 then ((gI S5 a0 6 2).bind fun v7 => (pV S5 a0 6 2 (.int (v7 + 1))).bind fun S9 => if v4 = 40 then (if gC S9 a0 = some 6 then (bd2 (f_X6_readE rf S9 a0 a1 (a2 + 1)) fun v23 S22 => if v23 = 0 then (some (0, S22)) else (if gC S22 a0 = some 6 then (bd2 (f_X6_readWord ρ S22 a0 (ρ 13)) fun v28 S27 => if v28 = 0 then (some (0, S27)) else (some (1, S27))) else none)) else none) else (if gC S9 a0 = some 6 then (bd2 (rf S9 a0 a1 (a2 + 1)) fun v15 S14 => if v15 = 0 then (some (0, S14)) else (if gC S14 a1 = some 7 then ((f_X7_put S14 a1 (-3)).bind fun S19 => some (1, S19)) else none)) else none)) else (some (0, S5))
def f_X6_readF_B (rf : (HSt → Nat → Nat → Int32 → Option (Int32 × HSt))) (ρ : Nat → Nat) (S : HSt) (a0 : Nat) (a1 : Nat) (a2 : Int32) : Option (Int32 × HSt) := if gC S a0 = some 6 then (bd2 (f_X6_look S a0) fun v4 S3 => if v4 = 33 then ((f_X6_readF_J23 ρ a0 a1 a2 rf v4) S3) else (if v4 = 40 then ((f_X6_readF_J23 ρ a0 a1 a2 rf v4) S3) else (if gC S3 a0 = some 6 then (bd2 (f_X6_readTest ρ S3 a0 a1) fun v35 S34 => if v35 = 0 ∨ v35 = 1 then (some (v35, S34)) else none) else none))) else none
abbrev rm_X6_readF_B (fr lo : Nat) : Room := { frames := fr + 40, cells := 0, slots := 0, locals := lo + 800 }
set_option maxHeartbeats 4000000 in
set_option maxRecDepth 100000 in
theorem c_X6_readF_B (l : Launch) (D : va_G) (kA ρ : Nat → Nat) (HB : Heap) (rf : (HSt → Nat → Nat → Int32 → Option (Int32 × HSt))) (fr lo : Nat) (hF : ∀ (S : HSt) (a0 a1 : Nat) (a2 : Int32) (res : Int32 × HSt), rf S a0 a1 a2 = some res → Met l yX6_readF w_X6_readF { frames := fr, cells := 0, slots := 0, locals := lo } (hPc D kA ρ HB S [.ref a0, .ref a1, .int a2]) (hQi D kA HB S res) 0 0 (hFree HB)) (S : HSt) (a0 : Nat) (a1 : Nat) (a2 : Int32) (res : Int32 × HSt) (h : f_X6_readF_B rf ρ S a0 a1 a2 = some res) : Met l yX6_readF w_X6_readF (rm_X6_readF_B fr lo) (hPc D kA ρ HB S [.ref a0, .ref a1, .int a2]) (hQi D kA HB S res) 0 0 (hFree HB) := by
  refine Met.ofW (cc := cX6_readF) (maxL := 4) (ret := (Option.some FieldType.boolean)) (by decide) rfl ?_
  intro p e s m args below meth c s₁ B hml hv
  obtain ⟨rfl, hE, h0⟩ := hv
  have hx := B.exec
  have hb := B.bytes
  have hr := B.returns
  have hts0 := atoms_spec (ws := w_X6_readF) B.pre
  have hts : ∀ w ∈ lwG, w.before _ s = true := fun w hw => hts0 w (List.mem_cons_of_mem _ hw)
  have hown : s.vm.findClass RX6 = some m.cls := findClass_of_methodNamed B.named
  have hlocks := B.notSynchronized
  have hI : hqX D kA HB S.2 S s.heap [] := ⟨h0, Nat.le_refl _, fun _ q => absurd q List.not_mem_nil⟩
  have hl := lv_entry ([.ref a0, .ref a1, .int a2]) (n := 4) (Nat.le_of_ble_eq_true rfl)
  rw [lg_entry_eq]
  generalize (lg_sl ([.ref a0, .ref a1, .int a2]) ++ List.replicate (4 - (lg_sl ([.ref a0, .ref a1, .int a2])).length) Slot.unset).toArray = ls at hl ⊢
  have hl : lv_has ls 4 [(0, .ref a0), (1, .ref a1), (2, .int a2)] := hl
  unfold f_X6_readF_B at h
  refine lv_aload_n hx hb dX6_readF_0 rfl (lv_at hl 0 rfl) ?_
  obtain ⟨g2, h⟩ := hq_g h
  obtain ⟨v4, S3, g1, h⟩ := hq_bd2 h
  refine hq_calli hI (va_runV (As := []) (rest := []) ⟨hx, hb, hml, hown, hts⟩ (c_X6_look l D kA ρ HB S a0 _ g1) (cwV 0 hts (gdIn (List.forall_mem_cons.mpr ⟨kw_386, (List.forall_mem_cons.mpr ⟨kw_388, (List.forall_mem_cons.mpr ⟨ks_4, (List.forall_mem_cons.mpr ⟨kw_2, (fun _ h => absurd h List.not_mem_nil)⟩)⟩)⟩)⟩) kw_389) rfl rfl rfl ye_X6_look ⟨by show 0 + 1 ≤ fr + 40; omega, by show 8 + (1 + 11) + (0) ≤ lo + 800; omega⟩) (hq_preC hE hI g2 rfl _) rfl rfl hl.1 rfl (lv_room (Nat.le_of_ble_eq_true rfl)) dX6_readF_1 ⟨Nat.le_of_ble_eq_true rfl, Nat.le_of_ble_eq_true rfl⟩) (fun H locs hI => ?_)
  refine lv_istore_n (lv' := [(3, .int v4), (0, .ref a0), (1, .ref a1), (2, .int a2)]) hx hb dX6_readF_4 rfl hl (by decide) rfl (fun ls hl => ?_)
  refine lv_iload_n hx hb dX6_readF_5 rfl (lv_at hl 0 rfl) ?_
  refine lv_bipush (v := 33) hx hb dX6_readF_6 (by decide) ?_
  have hJ23 : ∀ (S5 : HSt) (H : Heap) (locs : List Loc) (ls : Array Slot), (f_X6_readF_J23 ρ a0 a1 a2 rf v4) S5 = some res → hqX D kA HB S.2 S5 H locs → lv_has ls 4 [(0, .ref a0), (1, .ref a1), (2, .int a2), (3, .int v4)] → W p l e (rm_X6_readF_B fr lo) s m ([.ref a0, .ref a1, .int a2] : List Value).toArray below meth c H locs 0 0 (MQ below (hQi D kA HB S res) ([.ref a0, .ref a1, .int a2] : List Value).toArray s 0 0 (hFree HB)) (F0 m 23 ls []) := by
    intro S5 H locs ls h hI hl
    unfold f_X6_readF_J23 at h
    refine lv_iload_n hx hb dX6_readF_23 rfl (lv_at hl 2 rfl) ?_
    refine lv_iconst (v := 5) hx hb dX6_readF_24 (by decide) ?_
    refine lv_icmp_lt (tgt := 30) hx hb dX6_readF_25 (by decide) (fun c6 => ?_) (fun c6 => ?_)
    · have h := hq_t h c6
      refine lv_aload_n hx hb dX6_readF_30 rfl (lv_at hl 0 rfl) ?_
      refine lv_dup hx hb dX6_readF_31 rfl ?_
      obtain ⟨v7, g8, h⟩ := hq_bind h
      obtain ⟨fs_g8, hs_g8, hv_g8⟩ := gI_at g8
      refine hq_get hx hb hts hown hE hI hs_g8 inG6 rfl 2 (by decide) kw_42 hv_g8 dX6_readF_32 ?_
      refine lv_iconst (v := 1) hx hb dX6_readF_35 (by decide) ?_
      refine lv_iadd hx hb dX6_readF_36 ?_
      obtain ⟨S9, g10, h⟩ := hq_bind h
      obtain ⟨fs_g10, hs_g10, hl_g10, e_g10⟩ := pV_at g10
      refine hq_put hx hb hts hown hE hI hs_g10 inG6 tyX6 tyX6_ok nmX6 rfl 2 (by decide) kw_42 rfl (v := .int (v7 + 1)) rfl rfl rfl hl_g10 e_g10 dX6_readF_37 (fun H locs hI => ?_)
      refine lv_iload_n hx hb dX6_readF_40 rfl (lv_at hl 3 rfl) ?_
      refine lv_bipush (v := 40) hx hb dX6_readF_41 (by decide) ?_
      refine lv_icmp_ne (tgt := 72) hx hb dX6_readF_43 (by decide) (fun c11 => ?_) (fun c11 => ?_)
      · have h := hq_f h c11
        refine lv_aload_n hx hb dX6_readF_72 rfl (lv_at hl 0 rfl) ?_
        refine lv_aload_n hx hb dX6_readF_73 rfl (lv_at hl 1 rfl) ?_
        refine lv_iload_n hx hb dX6_readF_74 rfl (lv_at hl 2 rfl) ?_
        refine lv_iconst (v := 1) hx hb dX6_readF_75 (by decide) ?_
        refine lv_iadd hx hb dX6_readF_76 ?_
        obtain ⟨g13, h⟩ := hq_g h
        obtain ⟨v15, S14, g12, h⟩ := hq_bd2 h
        refine hq_calli hI (va_runV (As := [.ref a1, .int (a2 + 1)]) (rest := []) ⟨hx, hb, hml, hown, hts⟩ (hF S9 a0 a1 (a2 + 1) _ g12) (cwV 2 hts (gdIn (List.forall_mem_cons.mpr ⟨kw_480, (List.forall_mem_cons.mpr ⟨kw_482, (List.forall_mem_cons.mpr ⟨ks_8, (List.forall_mem_cons.mpr ⟨kw_2, (fun _ h => absurd h List.not_mem_nil)⟩)⟩)⟩)⟩) kw_483) rfl rfl rfl ye_X6_readF ⟨by show fr + 1 ≤ fr + 40; omega, by show 8 + (4 + 11) + (lo) ≤ lo + 800; omega⟩) (hq_preC hE hI g13 rfl _) rfl rfl hl.1 rfl (lv_room (Nat.le_of_ble_eq_true rfl)) dX6_readF_77 ⟨Nat.le_of_ble_eq_true rfl, Nat.le_of_ble_eq_true rfl⟩) (fun H locs hI => ?_)
        refine lv_if_ne (tgt := 85) hx hb dX6_readF_80 (by decide) (fun c16 => ?_) (fun c16 => ?_)
        · have h := hq_f h c16
          refine lv_aload_n hx hb dX6_readF_85 rfl (lv_at hl 1 rfl) ?_
          refine lv_bipush (v := (-3)) hx hb dX6_readF_86 (by decide) ?_
          obtain ⟨g18, h⟩ := hq_g h
          obtain ⟨S19, g17, h⟩ := hq_bind h
          refine hq_callv hI (va_runV (As := [.int (-3)]) (rest := []) ⟨hx, hb, hml, hown, hts⟩ (c_X7_put l D kA ρ HB S14 a1 (-3) _ g17) (cwV 1 hts (gdIn (List.forall_mem_cons.mpr ⟨kw_548, (List.forall_mem_cons.mpr ⟨kw_549, (List.forall_mem_cons.mpr ⟨kw_550, (List.forall_mem_cons.mpr ⟨kw_5, (fun _ h => absurd h List.not_mem_nil)⟩)⟩)⟩)⟩) kw_551) rfl rfl rfl ye_X7_put ⟨by show 0 + 1 ≤ fr + 40; omega, by show 8 + (2 + 11) + (0) ≤ lo + 800; omega⟩) (hq_preC hE hI g18 rfl _) rfl rfl hl.1 rfl (lv_room (Nat.le_of_ble_eq_true rfl)) dX6_readF_88 ⟨Nat.le_of_ble_eq_true rfl, Nat.le_of_ble_eq_true rfl⟩) (fun H locs hI => ?_)
          refine lv_iconst (v := 1) hx hb dX6_readF_91 (by decide) ?_
          exact hq_zret hx hb hr hlocks h0 hI (by decide) h dX6_readF_92
        · have h := hq_t h c16
          refine lv_iconst (v := 0) hx hb dX6_readF_83 (by decide) ?_
          exact hq_zret hx hb hr hlocks h0 hI (by decide) h dX6_readF_84
      · have h := hq_t h c11
        refine lv_aload_n hx hb dX6_readF_46 rfl (lv_at hl 0 rfl) ?_
        refine lv_aload_n hx hb dX6_readF_47 rfl (lv_at hl 1 rfl) ?_
        refine lv_iload_n hx hb dX6_readF_48 rfl (lv_at hl 2 rfl) ?_
        refine lv_iconst (v := 1) hx hb dX6_readF_49 (by decide) ?_
        refine lv_iadd hx hb dX6_readF_50 ?_
        obtain ⟨g21, h⟩ := hq_g h
        obtain ⟨v23, S22, g20, h⟩ := hq_bd2 h
        refine hq_calli hI (va_runV (As := [.ref a1, .int (a2 + 1)]) (rest := []) ⟨hx, hb, hml, hown, hts⟩ (c_X6_readE l D kA ρ HB rf fr lo hF S9 a0 a1 (a2 + 1) _ g20) (cwV 2 hts (gdIn (List.forall_mem_cons.mpr ⟨kw_476, (List.forall_mem_cons.mpr ⟨kw_478, (List.forall_mem_cons.mpr ⟨ks_7, (List.forall_mem_cons.mpr ⟨kw_2, (fun _ h => absurd h List.not_mem_nil)⟩)⟩)⟩)⟩) kw_479) rfl rfl rfl ye_X6_readE ⟨by show (fr + 20) + 1 ≤ fr + 40; omega, by show 8 + (5 + 11) + (lo + 400) ≤ lo + 800; omega⟩) (hq_preC hE hI g21 rfl _) rfl rfl hl.1 rfl (lv_room (Nat.le_of_ble_eq_true rfl)) dX6_readF_51 ⟨Nat.le_of_ble_eq_true rfl, Nat.le_of_ble_eq_true rfl⟩) (fun H locs hI => ?_)
        refine lv_if_eq (tgt := 70) hx hb dX6_readF_54 (by decide) (fun c24 => ?_) (fun c24 => ?_)
        · have h := hq_t h c24
          refine lv_iconst (v := 0) hx hb dX6_readF_70 (by decide) ?_
          exact hq_zret hx hb hr hlocks h0 hI (by decide) h dX6_readF_71
        · have h := hq_f h c24
          refine lv_aload_n hx hb dX6_readF_57 rfl (lv_at hl 0 rfl) ?_
          refine hq_ldcS (k := 13) hx hb hown hE (List.mem_of_getElem? (i := 13) rfl) dX6_readF_58 ?_
          obtain ⟨g26, h⟩ := hq_g h
          obtain ⟨v28, S27, g25, h⟩ := hq_bd2 h
          refine hq_calli hI (va_runV (As := [.ref (ρ 13)]) (rest := []) ⟨hx, hb, hml, hown, hts⟩ (c_X6_readWord l D kA ρ HB S22 a0 (ρ 13) _ g25) (cwV 1 hts (gdIn (List.forall_mem_cons.mpr ⟨kw_407, (List.forall_mem_cons.mpr ⟨kw_409, (List.forall_mem_cons.mpr ⟨ks_5, (List.forall_mem_cons.mpr ⟨kw_2, (fun _ h => absurd h List.not_mem_nil)⟩)⟩)⟩)⟩) kw_410) rfl rfl rfl ye_X6_readWord ⟨by show 4 + 1 ≤ fr + 40; omega, by show 8 + (3 + 11) + (85) ≤ lo + 800; omega⟩) (hq_preC hE hI g26 rfl _) rfl rfl hl.1 rfl (lv_room (Nat.le_of_ble_eq_true rfl)) dX6_readF_60 ⟨Nat.le_of_ble_eq_true rfl, Nat.le_of_ble_eq_true rfl⟩) (fun H locs hI => ?_)
          refine lv_if_eq (tgt := 70) hx hb dX6_readF_63 (by decide) (fun c29 => ?_) (fun c29 => ?_)
          · have h := hq_t h c29
            refine lv_iconst (v := 0) hx hb dX6_readF_70 (by decide) ?_
            exact hq_zret hx hb hr hlocks h0 hI (by decide) h dX6_readF_71
          · have h := hq_f h c29
            refine lv_iconst (v := 1) hx hb dX6_readF_66 (by decide) ?_
            refine lv_goto (tgt := 71) hx hb dX6_readF_67 (by decide) ?_
            exact hq_zret hx hb hr hlocks h0 hI (by decide) h dX6_readF_71
    · have h := hq_f h c6
      refine lv_iconst (v := 0) hx hb dX6_readF_28 (by decide) ?_
      exact hq_zret hx hb hr hlocks h0 hI (by decide) h dX6_readF_29
  refine lv_icmp_eq (tgt := 23) hx hb dX6_readF_8 (by decide) (fun c30 => ?_) (fun c30 => ?_)
  · have h := hq_t h c30
    exact hJ23 S3 _ _ _ h hI (lv_sub hl [1, 2, 3, 0] rfl)
  · have h := hq_f h c30
    refine lv_iload_n hx hb dX6_readF_11 rfl (lv_at hl 0 rfl) ?_
    refine lv_bipush (v := 40) hx hb dX6_readF_12 (by decide) ?_
    refine lv_icmp_eq (tgt := 23) hx hb dX6_readF_14 (by decide) (fun c31 => ?_) (fun c31 => ?_)
    · have h := hq_t h c31
      exact hJ23 S3 _ _ _ h hI (lv_sub hl [1, 2, 3, 0] rfl)
    · have h := hq_f h c31
      refine lv_aload_n hx hb dX6_readF_17 rfl (lv_at hl 1 rfl) ?_
      refine lv_aload_n hx hb dX6_readF_18 rfl (lv_at hl 2 rfl) ?_
      obtain ⟨g33, h⟩ := hq_g h
      obtain ⟨v35, S34, g32, h⟩ := hq_bd2 h
      refine hq_calli hI (va_runV (As := [.ref a1]) (rest := []) ⟨hx, hb, hml, hown, hts⟩ (c_X6_readTest l D kA ρ HB S3 a0 a1 _ g32) (cwV 1 hts (gdIn (List.forall_mem_cons.mpr ⟨kw_484, (List.forall_mem_cons.mpr ⟨kw_486, (List.forall_mem_cons.mpr ⟨ks_9, (List.forall_mem_cons.mpr ⟨kw_2, (fun _ h => absurd h List.not_mem_nil)⟩)⟩)⟩)⟩) kw_487) rfl rfl rfl ye_X6_readTest ⟨by show 4 + 1 ≤ fr + 40; omega, by show 8 + (5 + 11) + (91) ≤ lo + 800; omega⟩) (hq_preC hE hI g33 rfl _) rfl rfl hl.1 rfl (lv_room (Nat.le_of_ble_eq_true rfl)) dX6_readF_19 ⟨Nat.le_of_ble_eq_true rfl, Nat.le_of_ble_eq_true rfl⟩) (fun H locs hI => ?_)
      obtain ⟨c36, h⟩ := hq_g h
      exact hq_zret hx hb hr hlocks h0 hI c36 h dX6_readF_22

/-- readF, to a depth -/
def fF_X6 (ρ : Nat → Nat) : Nat → HSt → Nat → Nat → Int32 → Option (Int32 × HSt)
  | 0 => fun _ _ _ _ => none
  | d + 1 => f_X6_readF_B (fF_X6 ρ d) ρ
theorem c_fF_X6 (l : Launch) (D : va_G) (kA ρ : Nat → Nat) (HB : Heap) : ∀ (d : Nat) (S : HSt) (a0 a1 : Nat) (a2 : Int32) (res : Int32 × HSt), fF_X6 ρ d S a0 a1 a2 = some res → Met l yX6_readF w_X6_readF { frames := 40 * d, cells := 0, slots := 0, locals := 800 * d } (hPc D kA ρ HB S [.ref a0, .ref a1, .int a2]) (hQi D kA HB S res) 0 0 (hFree HB) := by
  intro d
  induction d with
  | zero =>
    intro S a0 a1 a2 res h
    cases h
  | succ d ih =>
    intro S a0 a1 a2 res h
    exact c_X6_readF_B l D kA ρ HB (fF_X6 ρ d) (40 * d) (800 * d) ih S a0 a1 a2 res h
def f_X6_readER (ρ : Nat → Nat) (S : HSt) (a0 a1 : Nat) (a2 : Int32) : Option (Int32 × HSt) := f_X6_readE (fF_X6 ρ 12) S a0 a1 a2
theorem c_X6_readER (l : Launch) (D : va_G) (kA ρ : Nat → Nat) (HB : Heap) (S : HSt) (a0 a1 : Nat) (a2 : Int32) (res : Int32 × HSt) (h : f_X6_readER ρ S a0 a1 a2 = some res) : Met l yX6_readE w_X6_readE { frames := 500, cells := 0, slots := 0, locals := 10000 } (hPc D kA ρ HB S [.ref a0, .ref a1, .int a2]) (hQi D kA HB S res) 0 0 (hFree HB) :=
  c_X6_readE l D kA ρ HB (fF_X6 ρ 12) 480 9600 (c_fF_X6 l D kA ρ HB 12) S a0 a1 a2 res h
