/-! BOTH: the questions, the acts -/
section ASKS
variable {n : Nat} {ρ : Nat → Nat}
theorem sim_c {α : Type} {n : Nat} {ρ : Nat → Nat} {F G : HSt → Option (α × HSt)} (h : ∀ (o : MO) (c : MC) (tx : Nat → List Cl) (k : KK) (B : HSt), aOk o.1 tx → KX o.1 tx k → ∃ v : α, (∀ B : HSt, KR n o.1 k B → F (hK n ρ k B) = some (v, hK n ρ k B)) ∧ ∀ C : HSt, ∃ c', G (hM (n + 65) o c C) = some (v, hM (n + 65) o c' C)) : Sim n ρ F G := by
  refine Sim_ask fun o c tx k B hA hk hx => ?_
  obtain ⟨v, h1, h2⟩ := h o c tx k B hA hx
  obtain ⟨c', h2⟩ := h2 (hK n ρ k B)
  exact ⟨v, c', kOd k, kFe k, h1 _ (KR_hM o c hk), h2⟩
theorem sim_x {α : Type} {n : Nat} {ρ : Nat → Nat} {F G : HSt → Option (α × HSt)} (h : ∀ (o : MO) (c : MC) (tx : Nat → List Cl) (k : KK) (B : HSt), aOk o.1 tx → KX o.1 tx k → ∃ v : α, (∀ B : HSt, KR n o.1 k B → ∃ x y, F (hK n ρ k B) = some (v, hK n ρ (kuFe (kuOd k x) y) B)) ∧ ∀ C : HSt, ∃ c', G (hM (n + 65) o c C) = some (v, hM (n + 65) o c' C)) : Sim n ρ F G := by
  refine Sim_ask fun o c tx k B hA hk hx => ?_
  obtain ⟨v, h1, h2⟩ := h o c tx k B hA hx
  obtain ⟨x, y, h1⟩ := h1 _ (KR_hM o c hk)
  obtain ⟨c', h2⟩ := h2 (hK n ρ (kuFe (kuOd k x) y) B)
  exact ⟨v, c', x, y, h1, h2⟩
theorem Sim_chance (a t part : Int32) : Sim n ρ (fun S => f_X11_chance S n a t part) (fun S => f_X12_chance S (n + 65) a t part) := sim_c fun o c tx k B hA hx => ⟨_, fun B hk => X11_chance hA.1 hk hA.2.1 hx a t part, fun C => ⟨c, X12_chance hA.1 hA.2.1 a t part⟩⟩
theorem Sim_odds (a set i what part : Int32) : Sim n ρ (fun S => f_X11_odds S n a set i what part) (fun S => f_X12_odds S (n + 65) a set i what part) := sim_x fun o c tx k B hA hx => ⟨_, fun B hk => let ⟨x, h⟩ := X11_odds hA.1 hk hA.2.1 hx a set i what part; ⟨x, kFe k, h⟩, fun C => X12_odds hA.1 hA.2.1 a set i what part⟩
theorem Sim_best (a i what part : Int32) : Sim n ρ (fun S => f_X11_best S n a i what part) (fun S => f_X12_best S (n + 65) a i what part) := sim_x fun o c tx k B hA hx => ⟨_, fun B hk => let ⟨x, h⟩ := X11_best hA.1 hk hA.2.1 hx a i what part; ⟨x, kFe k, h⟩, fun C => X12_best hA.1 hA.2.1 a i what part⟩
theorem Sim_fixed (a man : Int32) : Sim n ρ (fun S => f_X11_fixed S n a man) (fun S => f_X12_fixed S (n + 65) a man) := sim_c fun o c tx k B hA hx => ⟨_, fun B hk => X11_fixed hA.1 hk hA.2.1 hx a man, fun C => X12_fixed hA.1 hA.2.1 a man⟩
theorem Sim_beats (a : Int32) : Sim n ρ (fun S => f_X11_beats S n a) (fun S => f_X12_beats S (n + 65) a) := sim_c fun o c tx k B hA hx => ⟨_, fun B hk => X11_beats hA.1 hk hA.2.1 hx a, fun C => X12_beats hA.1 hA.2.1 a⟩
theorem Sim_otherwise (a : Int32) : Sim n ρ (fun S => f_X11_otherwise S n a) (fun S => f_X12_otherwise S (n + 65) a) := sim_c fun o c tx k B hA hx => ⟨_, fun B hk => X11_otherwise hA.1 hk hA.2.1 hx a, fun C => X12_otherwise hA.1 hA.2.1 a⟩
theorem Sim_afterwards (a man : Int32) : Sim n ρ (fun S => f_X11_afterwards S n a man) (fun S => f_X12_afterwards S (n + 65) a man) := sim_x fun o c tx k B hA hx => ⟨_, fun B hk => let ⟨x, h⟩ := X11_afterwards hA.1 hk hA.2.1 hx a man; ⟨x, kFe k, h⟩, fun C => X12_afterwards hA.1 hA.2.1 a man⟩
theorem Sim_says (l t : Int32) : Sim n ρ (fun S => f_X11_says S n l t) (fun S => f_X12_says S (n + 65) l t) := sim_c fun o c tx k B hA hx => ⟨_, fun B hk => X11_says hA.1 hk hx l t, fun C => X12_says hA.1 hA.2.1 l t⟩
theorem Sim_cannot (l : Int32) : Sim n ρ (fun S => f_X11_cannot S n l) (fun S => f_X12_cannot S (n + 65) l) := sim_c fun o c tx k B hA hx => ⟨_, fun B hk => X11_cannot hA.1 hk hA.2.1 hx l, fun C => X12_cannot hA.1 hA.2.1 l⟩
theorem Sim_fits (l set : Int32) : Sim n ρ (fun S => f_X11_fits S n l set) (fun S => f_X12_fits S (n + 65) l set) := sim_c fun o c tx k B hA hx => ⟨_, fun B hk => X11_fits hA.1 hk hA.2.1 hx l set, fun C => X12_fits hA.1 hA.2.1 l set⟩
theorem Sim_let (set : Int32) : Sim n ρ (fun S => f_X11_let S n set) (fun S => f_X12_let S (n + 65) set) := sim_c fun o c tx k B hA hx => ⟨_, fun B hk => X11_let hA.1 hk hA.2.1 hx set, fun C => X12_let hA.1 hA.2.1 set⟩
theorem Sim_excuses (a man what share : Int32) : Sim n ρ (fun S => f_X11_excuses S n a man what share) (fun S => f_X12_excuses S (n + 65) a man what share) := sim_c fun o c tx k B hA hx => ⟨_, fun B hk => X11_excuses hA.1 hk hA.2.1 hx a man what share, fun C => X12_excuses hA.1 hA.2.1 a man what share⟩
theorem Sim_papers (a b what : Int32) : Sim n ρ (fun S => f_X11_papers S n a b what) (fun S => f_X12_papers S (n + 65) a b what) := sim_c fun o c tx k B hA hx => ⟨_, fun B hk => X11_papers hA.1 hk hA.2.1 hx a b what, fun C => X12_papers hA.1 hA.2.1 a b what⟩
theorem Sim_of_ (u w : Int32) : Sim n ρ (fun S => f_X11_of S n u w) (fun S => f_X12_of S (n + 65) u w) := sim_c fun o c tx k B hA hx => ⟨_, fun B hk => X11_of hA.1 hk u w, fun C => ⟨c, X12_of hA.1 u w⟩⟩
theorem Sim_as (u w : Int32) : Sim n ρ (fun S => f_X11_as ρ S n u w) (fun S => f_X12_as S (n + 65) u w) := sim_c fun o c tx k B hA hx => ⟨_, fun B hk => X11_as hA.1 hk u w, fun C => ⟨c, X12_as hA.1 u w⟩⟩
theorem Sim_rod (a b d : Int32) : Sim n ρ (fun S => f_X11_rod S n a b d) (fun S => f_X12_rod S (n + 65) a b d) := sim_c fun o c tx k B hA hx => ⟨_, fun B hk => X11_rod _ _ a b d, fun C => ⟨c, X12_rod _ _ a b d⟩⟩
theorem Sim_holes (a b : Int32) : Sim n ρ (fun S => f_X11_holes S n a b) (fun S => f_X12_holes S (n + 65) a b) := sim_c fun o c tx k B hA hx => ⟨_, fun B hk => X11_holes _ _ a b, fun C => ⟨c, X12_holes _ _ a b⟩⟩
theorem Sim_field (a b d : Int32) : Sim n ρ (fun S => f_X11_field S n a b d) (fun S => f_X12_field S (n + 65) a b d) := sim_c fun o c tx k B hA hx => ⟨_, fun B hk => X11_field _ _ a b d, fun C => ⟨c, X12_field _ _ a b d⟩⟩
theorem Sim_fair (hit place f a b : Int32) : Sim n ρ (fun S => f_X11_fair S n hit place f a b) (fun S => f_X12_fair S (n + 65) hit place f a b) := sim_x fun o c tx k B hA hx => ⟨_, fun B hk => X11_fair hA.1 hk hit place f a b, fun C => ⟨c, X12_fair hA.1 hit place f a b⟩⟩
theorem Sim_told (a w : Int32) : Sim n ρ (fun S => f_X11_told S n a w) (fun S => f_X12_told S (n + 65) a w) := sim_c fun o c tx k B hA hx => by
  by_cases h : isN a (sN o.1 2) = true
  · obtain ⟨p, hp, rfl⟩ := isN_of (by have := hA.1.2.2.2.1; omega) h
    exact ⟨_, fun B hk => X11_told hA.1 hk hA.2.1 hx hp w, fun C => X12_told hA.1 hA.2.1 hp w⟩
  · exact ⟨_, fun B hk => X11_told_0 hA.1 hk w h, fun C => ⟨c, X12_told_0 hA.1 a w h⟩⟩
theorem Sim_passes (a : Int32) : Sim n ρ (fun S => f_X11_passes S n a) (fun S => f_X12_passes S (n + 65) a) := sim_c fun o c tx k B hA hx => by
  by_cases h : isN a (sN o.1 2) = true
  · obtain ⟨p, hp, rfl⟩ := isN_of (by have := hA.1.2.2.2.1; omega) h
    exact ⟨_, fun B hk => X11_passes hA.1 hk hA.2.1 hx hp, fun C => X12_passes hA.1 hA.2.1 hp⟩
  · exact ⟨_, fun B hk => X11_passes_0 hA.1 hk h, fun C => ⟨c, X12_passes_0 hA.1 a h⟩⟩
theorem Sim_trace (i : Int32) : Sim n ρ (fun S => f_X11_trace S n i) (fun S => f_X12_trace S (n + 65) i) := by
  intro o c tx gx k B hR
  have hR' := hR
  obtain ⟨hA, hk, hx, hkp, hB, ⟨hz, q, r, e1, e2, e3, e4, e5⟩, him⟩ := hR
  have o1 : o = oT o q := by
    show o = (o.1, o.2.1, o.2.2.1, nI q.2, q.1)
    rw [← e1]
  have k1 : k = kT k r := by
    show k = (k.1, k.2.1, k.2.2.1, k.2.2.2.1, k.2.2.2.2.1, (r.1, nI r.2), k.2.2.2.2.2.2)
    rw [← e2]
  have v : (if isN i r.2 = true then r.1 (nN i) else -1) = (if isN i q.2 = true then q.1 (nN i) else -1) := by
    rw [e3]
    by_cases h : isN i r.2 = true
    · obtain ⟨u, hu, rfl⟩ := isN_of (by omega) h
      rw [if_pos h, if_pos h, nN_nI (by omega), e5 u (by omega)]
    · rw [if_neg h, if_neg h]
  refine ⟨if isN i q.2 = true then q.1 (nN i) else -1, o, c, tx, gx, k, B, ?_, X12_trace e4 o1 i, hR'⟩
  rw [← v]
  exact X11_trace (by omega) k1 i
theorem Sim_count (w : Int32) : Sim n ρ (fun S => f_X11_count S n w) (fun S => f_X12_count S (n + 65) w) := by
  intro o c tx gx k B hR
  have hR' := hR
  obtain ⟨hA, hk, hx, hkp, hB, ⟨hz, q, r, e1, e2, e3, e4, e5⟩, him⟩ := hR
  have v : o.2.2.2.1 = (kTc k).2 := by rw [e1, e2, e3]
  refine ⟨cntI o.1 o.2.2.2.1 w, o, c, tx, gx, k, B, ?_, X12_count_ w, hR'⟩
  rw [v]
  exact X11_count_ (KR_hM o c hk) hkp.1 w
theorem actT_l (kd a : Nat) : (actT kd a).length ≤ 20 := by
  unfold actT telT knoT sayT
  repeat' split
  all_goals (try simp only [List.length_cons, List.length_append, List.length_nil])
  all_goals (repeat' split)
  all_goals (try simp only [List.length_cons, List.length_append, List.length_nil])
  all_goals omega
theorem Sim_act (u b x : Int32) : Sim n ρ (fun S => f_X11_act S n u b x) (fun S => f_X12_act S (n + 65) u b x) := by
  refine Sim_of fun o c tx gx k B hR C => ?_
  obtain ⟨hA, hk, hx, hkp, hB, ⟨hz, q, r, e1, e2, e3, e4, e5⟩, him⟩ := hR
  obtain ⟨c', h12⟩ := X12_act (m := n + 65) (B := C) (c := c) hA.1 u b x
  refine ⟨_, _, c', tx, gx, _, X11_act hA.1 (KR_hM o c hk) u b x, h12, hA, hk, hx, hkp, hB, ⟨hz, ?_⟩, him⟩
  by_cases h : isN u (sN o.1 1) = true ∧ isN b 3 = true
  · rw [if_pos h, if_pos h]
    have l2 := actT_l (tKind o.1 (nN u)) (nN b)
    refine ⟨addL (actT (tKind o.1 (nN u)) (nN b)) (o.2.2.2.2, 0), addL (actT (tKind o.1 (nN u)) (nN b)) ((kTc k).1, 0), rfl, rfl, ?_, ?_, ?_⟩
    · rw [addL_2, addL_2]
    · rw [addL_2]
      show 0 + _ ≤ 20
      omega
    · intro i hi
      rw [addL_2] at hi
      exact addL_eq _ _ _ 0 (fun i hi => by omega) i hi
  · rw [if_neg h, if_neg h]
    exact ⟨(o.2.2.2.2, 0), ((kTc k).1, 0), rfl, rfl, rfl, Nat.zero_le _, fun i hi => by
      have hi : i < 0 := hi
      omega⟩
end ASKS
