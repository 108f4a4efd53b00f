/-! CALLS ON A TRY OF ANY KIND, super.m(..) -/
def gK (S : HSt) (a : Nat) : Bool := match S.1 a with
  | some (.inr (c, _)) => hKin c
  | _ => false
theorem gK_at {S : HSt} {a : Nat} (h : gK S a = true) : ∃ c fs, hKin c = true ∧ S.1 a = some (.inr (c, fs)) := by
  unfold gK at h
  split at h
  · rename_i c fs h1
    exact ⟨c, fs, h, h1⟩
  · cases h
section HQ4
variable {p : Program} {l : Launch} {e : Env} {R : Room} {s : State} {m : MethodId} {args : Array Value} {below : List Frame} {meth : Method} {c : Code} {H : Heap} {locs : List Loc} {cells slots : Nat} {Q : State → Prop}
variable {D : va_G} {kA ρ : Nat → Nat} {HB : Heap} {n0 : Nat} {S S0 S1 : HSt} {a : Nat}
variable {y : MethodName} {bytes cc : ByteArray} {maxL nL mc ms n index : Nat} {ret : Option FieldType} {ws ws' : List Cond} {rm : Room} {Pc : Array Value → State → Prop} {Qc : Array Value → State → Outcome → State → Prop} {free : Addr → Prop} {own : String} {b : Addr} {As rest : List Value} {g : JFrame}
/-- super.m(..) where the superclass itself inherits m -/
theorem hq_runSI {x : MethodName} (hI : hqX D kA HB n0 S H locs) (hE : hqE D kA ρ HB s) (hk : gK S b = true) (S9 : CallFix p m c cc nL s args lwG own) (hM : Met l y ws rm (hPc D kA ρ HB S (.ref b :: As)) Qc mc ms free) (hG : GoodIn lwG ws) (hw : ws = Cond.code y bytes maxL ret :: ws')
    (hyx : y = ⟨y.cls, x.name, x.desc⟩) (w1 : Cond.methodLink own index x ∈ lwG) (w2 : Cond.sameMethod x.cls y.cls x.name x.desc ∈ lwG) (w3 : Cond.superclass own x.cls ∈ lwG) (w4 : Cond.superclass x.cls y.cls ∈ lwG) (w5 : Cond.instanceMethod y ∈ lwG) (w6 : Cond.initialized y.cls ∈ lwG)
    (hrc : rm.cells = mc) (hrs : rm.slots = ms) (hd : x.name ≠ "<init>" ∧ (parseMethodDescriptor y.desc).map (fun d => d.parameters.length) = some n) (hR : rm.frames + 1 ≤ R.frames ∧ 8 + (maxL + 11) + rm.locals ≤ R.locals)
    (hg : g.method = m) (hn : As.length = n) (hsize : g.locals.size = nL) (hstack : g.stack = As.reverse ++ .ref b :: rest) (hW : 2 * g.monitorRoom + (rest.map fun v => v.category).sum ≤ 8) (hdg : decode cc g.pc = .ok (.invokespecial index, 3)) (hf : cells + mc ≤ R.cells ∧ slots + ms ≤ R.slots) :
    va_Run p l e R s m args below meth c H locs cells slots mc ms g rest (Qc (Value.ref b :: As).toArray) (free) := by
  obtain ⟨hx, hb, hml, ho, hts⟩ := S9
  obtain ⟨k9, fs9, hk9, he9⟩ := gK_at hk
  obtain ⟨C9, hc9, -⟩ := hKin_at hk9
  have hp := hq_preV hE hI he9 hc9 As
  have hat := (hE.1.1 k9 _ hc9).2
  have hc : Cond.code y bytes maxL ret ∈ ws := by rw [hw]; exact List.mem_cons_self
  have hcode := hts _ (hG _ hc).1
  have hini := hts _ w6
  have hK : Back l R p e below s args y 3 8 (PreOf R mc ms (hPc D kA ρ HB S (.ref b :: As))) (PostOf Qc mc ms free) := back_of (bytes := bytes) (maxL := maxL) (ret := ret) hM hp.1 hrc hrs hR.1 hR.2 (pay_in hts hG) hc (fun a' U hW => word_at hW (Or.inl (by first | rfl | simp [Cond.onTables, Cond.keeps, Cond.steady])) hini)
  obtain ⟨-, ⟨cellB, hcB, hoB, hclB⟩, hPc⟩ := hp
  obtain ⟨hfc, kB, hkB, -⟩ := hat
  have hcc := Option.some.inj (hfc.symm.trans hclB)
  obtain ⟨mk, methM, hnamed, hmethM, hstM, habM⟩ := Cond.instanceMethod_spec (hts _ w5)
  obtain ⟨methM', cM, hmethM', -, -, -, -, -, -, hsigM⟩ := Cond.code_spec hnamed hcode
  cases hmethM.symm.trans hmethM'
  obtain ⟨ps, dk, kp, hps, hdk, hkp, hsuper, -, -, hnid⟩ := Cond.superclass_spec ho (hts _ w3)
  obtain ⟨ps2, dk2, kp2, hps2, hdk2, hkp2, hsuper2, -, -, hnid2⟩ := Cond.superclass_spec hps (hts _ w4)
  have hpm : ps2 = mk.cls := Option.some.inj (hps2.symm.trans (findClass_of_methodNamed hnamed))
  have hsub : s.vm.isSubclass ps mk.cls = true := by
    rw [← hpm]
    have hne : 0 < s.vm.classes.size := Nat.lt_of_le_of_lt (Nat.zero_le _) (Array.getElem?_eq_some_iff.mp hdk2).1
    unfold Vm.isSubclass
    cases hz : s.vm.classes.size with
    | zero => omega
    | succ z => simp [Vm.isSubclassAux, hdk2, hsuper2]
  have hlen : ∀ sig, parseMethodDescriptor y.desc = some sig → As.length = sig.parameters.length := by
    intro sig h
    have h2 := hd.2
    rw [h] at h2
    exact hn.trans (Option.some.inj h2).symm
  intro T hT X
  obtain ⟨vm₁, X₁, hstep₁⟩ := X.invokespecialUp hx (owner := y.cls) ho (hts _ w1) (hts _ w2) (by rw [← hyx]; exact hnamed) hmethM hstM habM hd.1 hdk hnid hps hsuper hsub (a := b) (cell := cellB) (by rw [hT]; exact hcB)
    (fun z h => by rw [h] at hoB; cases hoB) (by rw [← hcc]; exact hkB) (g := g) hg (argsL := As) (rest := rest) (hlen _ hsigM) hstack (by rw [hb]; exact hdg)
  obtain ⟨v, ⟨U', l2, c2, s2⟩, X', ⟨g', mk2, t, L, e1, e2, hq, h1, hL, h2, h3⟩, hsteps⟩ := hK m meth c ⟨T.setVm vm₁, locs, cells, slots⟩ { g with stack := rest } (.invokespecial index) mk (Value.ref b :: As).toArray X₁ hg (hsize.trans hml.symm) (by rw [hb]; exact hdg) hW (X₁.named hnamed) ⟨hf.1, hf.2, hPc (T.setVm vm₁) hT X₁.warmed⟩
  dsimp only [Pt.U, Pt.locs, Pt.cells, Pt.slots] at X' e1 e2 h1 h2 h3 hsteps
  subst h1; subst h2; subst h3
  exact ⟨v, (T.setVm vm₁).calling g' mk2 (Value.ref b :: As).toArray, t, U', L, hT, X', hL, e1, e2, hq, fun target h => hstep₁ _ (by rw [doInvoke_state]; exact hsteps.trans h)⟩
end HQ4
theorem hq_asgT {D : va_G} {kA ρ : Nat → Nat} {HB : Heap} {s : State} (hE : hqE D kA ρ HB s) {k : Nat} (h : hKin k = true) : ∃ C : String, vwCl[k]? = some (C, TX9, 9) ∧ ∀ comp c0 : ClassId, s.vm.findClass "RodDips$Try" = some comp → s.vm.findClass C = some c0 → s.vm.assignable c0 comp = true := by
  have h7 : k = 0 ∨ k = 1 ∨ k = 2 ∨ k = 3 ∨ k = 5 ∨ k = 9 ∨ k = 10 := by
    simp only [hKin, Bool.or_eq_true, beq_iff_eq] at h
    omega
  have hc : ∀ {C : String}, Cond.castable C "RodDips$Try" ∈ lwN → ∀ comp c0 : ClassId, s.vm.findClass "RodDips$Try" = some comp → s.vm.findClass C = some c0 → s.vm.assignable c0 comp = true := by
    intro C hw comp c0 h1 h2
    obtain ⟨a1, a2, q1, q2, q3⟩ := Cond.castable_spec (hE.2.1 _ hw)
    cases h1.symm.trans q2
    cases h2.symm.trans q1
    exact q3
  rcases h7 with rfl | rfl | rfl | rfl | rfl | rfl | rfl
  · exact ⟨RX0, by rw [← TXe0]; rfl, hc kn_1375⟩
  · exact ⟨RX1, by rw [← TXe1]; rfl, hc kn_1378⟩
  · exact ⟨RX2, by rw [← TXe2]; rfl, hc kn_1374⟩
  · exact ⟨RX3, by rw [← TXe3]; rfl, hc kn_1377⟩
  · exact ⟨RX5, by rw [← TXe5]; rfl, hc kn_1376⟩
  · refine ⟨RX9, rfl, fun comp c0 h1 h2 => ?_⟩
    have e1 := (hE.1.1 9 _ rfl).2
    cases h1.symm.trans e1.1
    cases h2.symm.trans e1.1
    exact va_assign e1
  · exact ⟨RX10, by rw [← TXe10]; rfl, hc kn_1379⟩
theorem hq_asgX {D : va_G} {kA ρ : Nat → Nat} {HB : Heap} {s : State} (hE : hqE D kA ρ HB s) : ∀ comp c0 : ClassId, s.vm.findClass "RodDips$Text" = some comp → s.vm.findClass RX7 = some c0 → s.vm.assignable c0 comp = true := by
  intro comp c0 h1 h2
  have e1 := (hE.1.1 7 _ rfl).2
  cases h1.symm.trans e1.1
  cases h2.symm.trans e1.1
  exact va_assign e1
