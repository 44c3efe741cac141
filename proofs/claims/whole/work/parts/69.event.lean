theorem i_lt8 {n : Nat} (h : n < 2 ^ 31) : (nI n < (8 : Int32)) = (n < 8) := i_lt (b := 8) h (by omega)
theorem i_eq8 {n : Nat} (h : n < 2 ^ 31) : (nI n = (8 : Int32)) = (n = 8) := i_eq (b := 8) h (by omega)
theorem i2 (n : Nat) : nI n + (2 : Int32) = nI (n + 2) := nI_add n 2
def evOk (x1 x2 x3 : Int32) : Bool := decide ((0 ≤ x1.toInt ∧ x1.toInt ≤ 2) ∧ (0 ≤ x2.toInt ∧ x2.toInt ≤ 23) ∧ (0 ≤ x3.toInt ∧ x3.toInt ≤ 7))
def evA (α : DD) (k b v : Nat) : DD := un (un (un (un α 3 (α 2 3) k) 4 (α 2 3) b) 5 (α 2 3) v) 2 3 (α 2 3 + 1)
def evr (α : DD) (x1 x2 x3 : Int32) : Int32 := if evOk x1 x2 x3 = true then (if α 2 3 < 8 then nI (α 2 3 + 1) else -4) else -2
def evN (α : DD) (x1 x2 x3 : Int32) : DD := if (evOk x1 x2 x3 = true ∧ α 2 3 < 8) then evA α x1.toInt.toNat x2.toInt.toNat x3.toInt.toNat else α
theorem evA_o {α : DD} {k b v r : Nat} (h2 : r ≠ 2) (h3 : r ≠ 3) (h4 : r ≠ 4) (h5 : r ≠ 5) : evA α k b v r = α r := by
  unfold evA; rw [un_ne h2, un_ne h5, un_ne h4, un_ne h3]
theorem evA_2 {α : DD} {k b v i : Nat} (h : i ≠ 3) : evA α k b v 2 i = α 2 i := by
  unfold evA; rw [un_nei h, un_ne (by omega), un_ne (by omega), un_ne (by omega)]
theorem evA_23 {α : DD} {k b v : Nat} : evA α k b v 2 3 = α 2 3 + 1 := by unfold evA; rw [un_at]
theorem evA_3 {α : DD} {k b v e : Nat} : evA α k b v 3 e = if e = α 2 3 then k else α 3 e := by
  unfold evA; rw [un_ne (by omega), un_ne (by omega), un_ne (by omega), un_row]
theorem evA_4 {α : DD} {k b v e : Nat} : evA α k b v 4 e = if e = α 2 3 then b else α 4 e := by
  unfold evA; rw [un_ne (by omega), un_ne (by omega), un_row, un_ne (by omega)]
theorem evA_5 {α : DD} {k b v e : Nat} : evA α k b v 5 e = if e = α 2 3 then v else α 5 e := by
  unfold evA; rw [un_ne (by omega), un_row, un_ne (show 5 ≠ 4 by omega), un_ne (show 5 ≠ 3 by omega)]
theorem OkA_evA {α : DD} {β : Mem} {k b v : Nat} (hO : OkA α β) (h : α 2 3 < 8) (hk : k ≤ 2) (hb : b < 24) (hv : v < 8) : OkA (evA α k b v) β := by
  obtain ⟨o1, o2, o3, o4, o5⟩ := hO
  refine ⟨?_, ?_, ⟨?_, fun e he => ?_⟩, ?_, ?_⟩
  · rw [evA_2 (by omega), evA_2 (by omega), evA_o (by omega) (by omega) (by omega) (by omega), evA_o (by omega) (by omega) (by omega) (by omega)]; exact o1
  · rw [evA_2 (by omega)]; exact o2
  · rw [evA_23]; omega
  · rw [evA_23] at he
    rw [evA_3, evA_4, evA_5]
    by_cases c : e = α 2 3
    · rw [if_pos c, if_pos c, if_pos c]; exact ⟨hk, hb, hv⟩
    · rw [if_neg c, if_neg c, if_neg c]; exact o3.2 e (by omega)
  · rw [evA_2 (by omega), evA_o (by omega) (by omega) (by omega) (by omega), evA_o (by omega) (by omega) (by omega) (by omega)]; exact o4
  · rw [evA_o (by omega) (by omega) (by omega) (by omega)]; exact o5
/-- the class after a change of the events -/
theorem TOX_ev {σ τ : Mem} {α α' : DD} {β : Mem} (hC : ∀ r, r ≠ 2 → r ≠ 3 → r ≠ 4 → r ≠ 5 → α' r = α r) (h2 : ∀ i, i ≠ 3 → α' 2 i = α 2 i) (hT : TOX σ α β) (cc : ∀ c, c ≠ 6 → c ≠ 7 → c ≠ 8 → c ≠ 9 → c ≠ 10 → τ c = σ c) (c10 : ∀ j, j ≠ 6 → τ 10 j = σ 10 j) (hE : EVX τ (α' 2 3) (α' 3) (α' 4) (α' 5)) (h6 : τ 10 6 = evm (α' 2 3)) : TOX τ α' β := by
  have E0 : α' 0 = α 0 := hC 0 (by omega) (by omega) (by omega) (by omega)
  have E1 : α' 1 = α 1 := hC 1 (by omega) (by omega) (by omega) (by omega)
  have E20 := h2 0 (by omega)
  have E21 := h2 1 (by omega)
  have s4 := nDa_cong E0 E20
  have dc : ∀ c, (c < 6 ∨ 10 < c) → τ c = σ c := fun c h => cc c (by omega) (by omega) (by omega) (by omega) (by omega)
  obtain ⟨⟨x1, x2⟩, ev, k, c, s, z, l⟩ := hT
  refine ⟨⟨?_, ?_⟩, hE, ⟨?_, ?_, h6, ?_, ?_⟩, ?_, ?_, ?_, ?_⟩
  · rw [dc 2 (by omega), dc 3 (by omega), E20, E0, flt0_cong E0 E20]; exact x1
  · rw [dc 4 (by omega), dc 5 (by omega), E21, E1, flt1_cong E1 E21]; exact x2
  · rw [c10 4 (by omega), k.1, iA30, iA30, s4]
  · rw [c10 5 (by omega), k.2.1, iA31, iA31, h2 2 (by omega)]
  · intro i hi
    rw [iA30, s4] at hi
    rw [dc (10 + 1) (by omega), dc (10 + 2) (by omega), iA0, iA1, E0]
    have := k.2.2.2.1 i (by rw [iA30]; exact hi)
    rw [iA0, iA1] at this
    exact this
  · intro b hb
    rw [dc (10 + 4) (by omega), iA2, stA_cong E1 E21]
    have := k.2.2.2.2 b hb
    rw [iA2] at this
    exact this
  · unfold COX; rw [dc 13 (by omega), s4, E0]; exact c
  · unfold SEX
    rw [dc 50 (by omega), dc 51 (by omega), dc 52 (by omega), h2 4 (by omega), hC 6 (by omega) (by omega) (by omega) (by omega), hC 7 (by omega) (by omega) (by omega) (by omega)]
    exact s
  · intro i hi
    rw [dc (54 + 2 * i) (by omega), dc (54 + 2 * i + 1) (by omega), hC 8 (by omega) (by omega) (by omega) (by omega)]
    exact z i hi
  · rw [dc 0 (by omega)]; exact l
theorem IM_ev {σ τ : Mem} {α α' : DD} {β : Mem} (hC : ∀ r, r ≠ 2 → r ≠ 3 → r ≠ 4 → r ≠ 5 → α' r = α r) (h2 : ∀ i, i ≠ 3 → α' 2 i = α 2 i) (hM : IM σ α β) (cc : ∀ c, c ≠ 0 → c ≠ 9 → τ c = σ c) (c0 : ∀ j, j ≠ 12 → τ 0 j = σ 0 j) (hE : EVM τ (α' 2 3) (α' 3) (α' 4) (α' 5)) : IM τ α' β := by
  obtain ⟨t, l, ev, g, s, z, f⟩ := hM
  refine ⟨?_, ?_, hE, ?_, ?_, ?_, ?_⟩
  · unfold TXM; rw [cc 6 (by omega) (by omega), cc 5 (by omega) (by omega), h2 0 (by omega), h2 1 (by omega), hC 0 (by omega) (by omega) (by omega) (by omega), hC 1 (by omega) (by omega) (by omega) (by omega)]; exact t
  · rw [c0 11 (by omega), h2 2 (by omega)]; exact l
  · rw [c0 14 (by omega)]; exact g
  · unfold SEM; rw [cc 23 (by omega) (by omega), c0 33 (by omega), h2 4 (by omega), hC 6 (by omega) (by omega) (by omega) (by omega), hC 7 (by omega) (by omega) (by omega) (by omega)]; exact s
  · unfold SHM; rw [cc 1 (by omega) (by omega), cc 2 (by omega) (by omega), cc 3 (by omega) (by omega), hC 8 (by omega) (by omega) (by omega) (by omega)]; exact z
  · rw [c0 4 (by omega)]; exact f
theorem s_takeEvents {σ : Mem} {α : DD} {β : Mem} {Q : Mem → Prop} (h3 : σ 6 3 = nI (α 2 3)) (hT : ∀ τ, τ = um σ 10 6 (evm (α 2 3)) → TOX τ α β) (hQ : ∀ τ, IX τ α β → τ 6 3 = nI (α 2 3) → Q τ) : wX6_takeEvents σ Q := by
  unfold wX6_takeEvents
  intro s1 e1
  rw [h3] at e1
  refine s_forgetOut (hT s1 e1) (fun ρ hρ hf => hQ ρ hρ ?_)
  rw [hf 6 (by omega), e1, um_ne _ _ _ (by omega), h3]
theorem s_mayBe {x1 x2 x3 : Int32} {σ : Mem} {Q : Int32 → Mem → Prop} (hq : Q (if evOk x1 x2 x3 = true then 1 else 0) σ) : wX1_mayBe x1 x2 x3 σ Q := by
  unfold wX1_mayBe
  have ev : (evOk x1 x2 x3 = true) = ((0 ≤ x1.toInt ∧ x1.toInt ≤ 2) ∧ (0 ≤ x2.toInt ∧ x2.toInt ≤ 23) ∧ (0 ≤ x3.toInt ∧ x3.toInt ≤ 7)) := by simp [evOk]
  rw [ltz, show ((2 : Int32) < x1) = ((2 : Int) < x1.toInt) from klt x1 (k := 2) (by omega)]
  refine ⟨fun z => ?_, fun z => ⟨fun y => ?_, fun y => s_isBeatX ?_⟩⟩
  · rw [if_neg (by rw [ev]; omega)] at hq; exact hq
  · rw [if_neg (by rw [ev]; omega)] at hq; exact hq
  · by_cases g2 : (0 ≤ x2.toInt ∧ x2.toInt ≤ 23)
    · rw [if_pos g2, ltz, show ((8 : Int32) ≤ x3) = ((8 : Int) ≤ x3.toInt) from kle x3 (k := 8) (by omega)]
      refine ⟨fun w => absurd w one_ne, fun _ => ⟨fun w => ?_, fun w => ⟨fun v => ?_, fun v => ?_⟩⟩⟩
      · rw [if_neg (by rw [ev]; omega)] at hq; exact hq
      · rw [if_neg (by rw [ev]; omega)] at hq; exact hq
      · rw [if_pos (by rw [ev]; omega)] at hq; exact hq
    · rw [if_neg g2]
      rw [if_neg (by rw [ev]; omega)] at hq
      exact ⟨fun _ => hq, fun w => absurd rfl w⟩
theorem ev_nat {x1 x2 x3 : Int32} (h : evOk x1 x2 x3 = true) : ∃ k b v, k ≤ 2 ∧ b < 24 ∧ v < 8 ∧ x1 = nI k ∧ x2 = nI b ∧ x3 = nI v ∧ x1.toInt.toNat = k ∧ x2.toInt.toNat = b ∧ x3.toInt.toNat = v := by
  have ev : ((0 ≤ x1.toInt ∧ x1.toInt ≤ 2) ∧ (0 ≤ x2.toInt ∧ x2.toInt ≤ 23) ∧ (0 ≤ x3.toInt ∧ x3.toInt ≤ 7)) := by simpa [evOk] using h
  obtain ⟨k, hk, rfl⟩ := nat_of ev.1.1 (n := 2) ev.1.2 (by omega)
  obtain ⟨b, hb, rfl⟩ := nat_of ev.2.1.1 (n := 23) ev.2.1.2 (by omega)
  obtain ⟨v, hv, rfl⟩ := nat_of ev.2.2.1 (n := 7) ev.2.2.2 (by omega)
  refine ⟨k, b, v, hk, by omega, by omega, rfl, rfl, rfl, ?_, ?_, ?_⟩ <;> rw [toI (by omega)] <;> omega
theorem OkA_evN {α : DD} {β : Mem} {x1 x2 x3 : Int32} (hO : OkA α β) : OkA (evN α x1 x2 x3) β := by
  unfold evN
  split
  · rename_i h
    obtain ⟨k, b, v, hk, hb, hv, _, _, _, e1, e2, e3⟩ := ev_nat h.1
    rw [e1, e2, e3]
    exact OkA_evA hO h.2 hk hb hv
  · exact hO
theorem s_eventX {x1 x2 x3 : Int32} {α : DD} {β : Mem} {σ : Mem} {Q : Int32 → Mem → Prop} (hO : OkA α β) (hX : IX σ α β) (hQ : ∀ ρ, IX ρ (evN α x1 x2 x3) β → Q (evr α x1 x2 x3) ρ) : wX6_event x1 x2 x3 σ Q := by
  have h8 := hO.ev
  have hm : σ 6 3 = nI (α 2 3) := hX.1.2.1.2.1
  unfold wX6_event
  refine s_mayBe ?_
  by_cases g : evOk x1 x2 x3 = true
  · rw [if_pos g]
    refine ⟨fun _ => ?_, fun z => absurd z one_ne⟩
    rw [hm, i_lt8 (by omega)]
    refine ⟨fun z => ?_, fun z => ?_⟩
    · have q : evr α x1 x2 x3 = nI (α 2 3 + 1) := by unfold evr; rw [if_pos g, if_pos z]
      have q2 : evN α x1 x2 x3 = evA α x1.toInt.toNat x2.toInt.toNat x3.toInt.toNat := by unfold evN; rw [if_pos ⟨g, z⟩]
      rw [q, q2] at hQ
      obtain ⟨k, b, v, hk, hb, hv, e1, e2, e3, n1, n2, n3⟩ := ev_nat g
      rw [n1, n2, n3] at hQ
      unfold wX1_put
      rw [hm, nI_clamp (by omega)]
      refine ⟨vp_in_nI (by omega) (by omega), ?_⟩
      intro s1 f1
      have p1 : s1 6 3 = nI (α 2 3) := by rw [f1, um_ne _ _ _ (by omega), hm]
      rw [p1, nI_clamp (by omega)]
      refine ⟨vp_in_nI (by omega) (by omega), ?_⟩
      intro s2 f2
      have p2 : s2 6 3 = nI (α 2 3) := by rw [f2, um_ne _ _ _ (by omega), p1]
      rw [p2, nI_clamp (by omega)]
      refine ⟨vp_in_nI (by omega) (by omega), ?_⟩
      intro s3 f3
      have p3 : s3 6 3 = nI (α 2 3) := by rw [f3, um_ne _ _ _ (by omega), p2]
      rw [p3, i1]
      intro s4 f4
      refine s_takeEvents (α := evA α k b v) (β := β) (by rw [f4, um_at, evA_23]) (fun τ hτ => ?_) (fun ρ hρ e => ?_)
      · have c4 : ∀ c, c ≠ 6 → c ≠ 7 → c ≠ 8 → c ≠ 9 → c ≠ 10 → τ c = σ c := fun c a1 a2 a3 a4 a5 => by rw [hτ, um_ne _ _ _ a5, f4, um_ne _ _ _ a1, f3, um_ne _ _ _ a4, f2, um_ne _ _ _ a3, f1, um_ne _ _ _ a2]
        refine TOX_ev (fun r a1 a2 a3 a4 => evA_o a1 a2 a3 a4) (fun i h => evA_2 h) hX.1 c4 (fun j hj => by rw [hτ, um_nei _ _ hj, f4, um_ne _ _ _ (by omega), f3, um_ne _ _ _ (by omega), f2, um_ne _ _ _ (by omega), f1, um_ne _ _ _ (by omega)]) ⟨by rw [evA_23]; omega, by rw [hτ, um_ne _ _ _ (by omega), f4, um_at, evA_23], fun e he => ?_⟩ (by rw [hτ, um_at])
        rw [evA_23] at he
        rw [evA_3, evA_4, evA_5]
        have r7 : τ 7 e = if e = α 2 3 then x1 else σ 7 e := by
          rw [hτ, um_ne _ _ _ (by omega), f4, um_ne _ _ _ (by omega), f3, um_ne _ _ _ (by omega), f2, um_ne _ _ _ (by omega), f1, um_any]
          by_cases c : e = α 2 3
          · rw [if_pos c, if_pos ⟨rfl, c⟩]
          · rw [if_neg c, if_neg (fun y => c y.2)]
        have r8 : τ 8 e = if e = α 2 3 then x2 else σ 8 e := by
          rw [hτ, um_ne _ _ _ (by omega), f4, um_ne _ _ _ (by omega), f3, um_ne _ _ _ (by omega), f2, um_any]
          by_cases c : e = α 2 3
          · rw [if_pos c, if_pos ⟨rfl, c⟩]
          · rw [if_neg c, if_neg (fun y => c y.2), f1, um_ne _ _ _ (by omega)]
        have r9 : τ 9 e = if e = α 2 3 then x3 else σ 9 e := by
          rw [hτ, um_ne _ _ _ (by omega), f4, um_ne _ _ _ (by omega), f3, um_any]
          by_cases c : e = α 2 3
          · rw [if_pos c, if_pos ⟨rfl, c⟩]
          · rw [if_neg c, if_neg (fun y => c y.2), f2, um_ne _ _ _ (by omega), f1, um_ne _ _ _ (by omega)]
        rw [r7, r8, r9]
        by_cases c : e = α 2 3
        · simp only [if_pos c]
          exact ⟨e1, e2, e3, hk, hb, hv⟩
        · simp only [if_neg c]
          exact hX.1.2.1.2.2 e (by omega)
      · rw [evA_23] at e
        rw [e]
        exact hQ ρ hρ
    · have q : evr α x1 x2 x3 = -4 := by unfold evr; rw [if_pos g, if_neg z]
      have q2 : evN α x1 x2 x3 = α := by unfold evN; rw [if_neg (fun y => z y.2)]
      rw [q, q2] at hQ
      exact hQ σ hX
  · rw [if_neg g]
    have q : evr α x1 x2 x3 = -2 := by unfold evr; rw [if_neg g]
    have q2 : evN α x1 x2 x3 = α := by unfold evN; rw [if_neg (fun y => g y.1)]
    rw [q, q2] at hQ
    exact ⟨fun z => absurd rfl z, fun _ => hQ σ hX⟩
theorem s_eventM {x1 x2 x3 : Int32} {α : DD} {β : Mem} {σ : Mem} {Q : Int32 → Mem → Prop} (hO : OkA α β) (hM : IM σ α β) (hQ : ∀ ρ, IM ρ (evN α x1 x2 x3) β → Q (evr α x1 x2 x3) ρ) : wX7_event x1 x2 x3 σ Q := by
  have h8 := hO.ev
  have hm : σ 0 12 = nI (α 2 3) := hM.2.2.1.2.1
  have ev : (evOk x1 x2 x3 = true) = ((0 ≤ x1.toInt ∧ x1.toInt ≤ 2) ∧ (0 ≤ x2.toInt ∧ x2.toInt ≤ 23) ∧ (0 ≤ x3.toInt ∧ x3.toInt ≤ 7)) := by simp [evOk]
  have bad : ¬ evOk x1 x2 x3 = true → Q (-2) σ := fun g => by
    have q : evr α x1 x2 x3 = -2 := by unfold evr; rw [if_neg g]
    have q2 : evN α x1 x2 x3 = α := by unfold evN; rw [if_neg (fun y => g y.1)]
    rw [q, q2] at hQ
    exact hQ σ hM
  unfold wX7_event
  refine s_in (a := 0) (b := 2) rfl rfl ?_
  by_cases g1 : (0 ≤ x1.toInt ∧ x1.toInt ≤ 2)
  · rw [if_pos g1]
    refine ⟨fun z => absurd z one_ne, fun _ => s_isBeatM ?_⟩
    by_cases g2 : (0 ≤ x2.toInt ∧ x2.toInt ≤ 23)
    · rw [if_pos g2]
      refine ⟨fun z => absurd z one_ne, fun _ => s_in (a := 0) (b := 7) rfl rfl ?_⟩
      by_cases g3 : (0 ≤ x3.toInt ∧ x3.toInt ≤ 7)
      · rw [if_pos g3]
        refine ⟨fun _ => ?_, fun z => absurd z one_ne⟩
        have g : evOk x1 x2 x3 = true := by rw [ev]; exact ⟨g1, g2, g3⟩
        rw [hm, i_eq8 (by omega)]
        refine ⟨fun z => ?_, fun z => ?_⟩
        · have z : α 2 3 < 8 := by omega
          have q : evr α x1 x2 x3 = nI (α 2 3 + 1) := by unfold evr; rw [if_pos g, if_pos z]
          have q2 : evN α x1 x2 x3 = evA α x1.toInt.toNat x2.toInt.toNat x3.toInt.toNat := by unfold evN; rw [if_pos ⟨g, z⟩]
          rw [q, q2] at hQ
          obtain ⟨k, b, v, hk, hb, hv, e1, e2, e3, n1, n2, n3⟩ := ev_nat g
          rw [n1, n2, n3] at hQ
          rw [i3, nI_clamp (by omega)]
          refine ⟨vp_in_nI (by omega) (by omega), ?_⟩
          intro s1 f1
          have p1 : s1 0 12 = nI (α 2 3) := by rw [f1, um_ne _ _ _ (by omega), hm]
          rw [p1, i3, i1, nI_clamp (by omega)]
          refine ⟨vp_in_nI (by omega) (by omega), ?_⟩
          intro s2 f2
          have p2 : s2 0 12 = nI (α 2 3) := by rw [f2, um_ne _ _ _ (by omega), p1]
          rw [p2, i3, i2, nI_clamp (by omega)]
          refine ⟨vp_in_nI (by omega) (by omega), ?_⟩
          intro s3 f3
          have p3 : s3 0 12 = nI (α 2 3) := by rw [f3, um_ne _ _ _ (by omega), p2]
          rw [p3, i1]
          intro s4 f4
          have e12 : s4 0 12 = nI (α 2 3 + 1) := by rw [f4, um_at]
          rw [e12]
          refine hQ s4 (IM_ev (fun r a1 a2 a3 a4 => evA_o a1 a2 a3 a4) (fun i h => evA_2 h) hM (fun c a1 a2 => by rw [f4, um_ne _ _ _ a1, f3, um_ne _ _ _ a2, f2, um_ne _ _ _ a2, f1, um_ne _ _ _ a2]) (fun j hj => by rw [f4, um_nei _ _ hj, f3, um_ne _ _ _ (by omega), f2, um_ne _ _ _ (by omega), f1, um_ne _ _ _ (by omega)]) ⟨by rw [evA_23]; omega, by rw [e12, evA_23], fun e he => ?_⟩)
          rw [evA_23] at he
          rw [evA_3, evA_4, evA_5]
          have r9 : ∀ i, s4 9 i = if i = 3 * α 2 3 + 2 then x3 else if i = 3 * α 2 3 + 1 then x2 else if i = 3 * α 2 3 then x1 else σ 9 i := fun i => by
            rw [f4, um_ne _ _ _ (by omega), f3, um_any, f2, um_any, f1, um_any]
            simp
          rw [r9, r9, r9]
          by_cases c : e = α 2 3
          · subst c
            rw [if_neg (show ¬ 3 * α 2 3 = 3 * α 2 3 + 2 by omega), if_neg (show ¬ 3 * α 2 3 = 3 * α 2 3 + 1 by omega), if_pos rfl, if_neg (show ¬ 3 * α 2 3 + 1 = 3 * α 2 3 + 2 by omega), if_pos rfl, if_pos rfl, if_pos rfl, if_pos rfl, if_pos rfl]
            exact ⟨e1, e2, e3, hk, hb, hv⟩
          · rw [if_neg (show ¬ 3 * e = 3 * α 2 3 + 2 by omega), if_neg (show ¬ 3 * e = 3 * α 2 3 + 1 by omega), if_neg (show ¬ 3 * e = 3 * α 2 3 by omega), if_neg (show ¬ 3 * e + 1 = 3 * α 2 3 + 2 by omega), if_neg (show ¬ 3 * e + 1 = 3 * α 2 3 + 1 by omega), if_neg (show ¬ 3 * e + 1 = 3 * α 2 3 by omega), if_neg (show ¬ 3 * e + 2 = 3 * α 2 3 + 2 by omega), if_neg (show ¬ 3 * e + 2 = 3 * α 2 3 + 1 by omega), if_neg (show ¬ 3 * e + 2 = 3 * α 2 3 by omega), if_neg c, if_neg c, if_neg c]
            exact hM.2.2.1.2.2 e (by omega)
        · have q : evr α x1 x2 x3 = -4 := by unfold evr; rw [if_pos g, if_neg (by omega)]
          have q2 : evN α x1 x2 x3 = α := by unfold evN; rw [if_neg (fun y => absurd y.2 (by omega))]
          rw [q, q2] at hQ
          exact hQ σ hM
      · rw [if_neg g3]
        exact ⟨fun z => absurd rfl z, fun _ => bad (fun y => g3 ((ev.mp y).2.2))⟩
    · rw [if_neg g2]
      exact ⟨fun _ => bad (fun y => g2 ((ev.mp y).2.1)), fun z => absurd rfl z⟩
  · rw [if_neg g1]
    exact ⟨fun _ => bad (fun y => g1 ((ev.mp y).1)), fun z => absurd rfl z⟩
theorem L7 : okL_7 RR := by
  intro σ τ a1 a2 a3 ⟨α, β, hO, hX, hM⟩
  exact s_eventX hO hX (fun ρ hρ => s_eventM hO hM (fun ω hω => ⟨rfl, _, β, OkA_evN hO, hρ, hω⟩))
theorem L8 : okL_8 RR := by
  intro σ τ ⟨α, β, hO, hX, hM⟩
  have h8 := hO.ev
  have hm : σ 6 3 = nI (α 2 3) := hX.1.2.1.2.1
  have hn : τ 0 12 = nI (α 2 3) := hM.2.2.1.2.1
  unfold wX6_back
  rw [hm, neq0 (by omega)]
  refine ⟨fun z => ?_, fun z => ?_⟩
  · intro s1 e1
    rw [nI_m1 (by omega)] at e1
    have E2 : un α 2 3 (α 2 3 - 1) 2 3 = α 2 3 - 1 := un_at
    refine s_takeEvents (α := un α 2 3 (α 2 3 - 1)) (β := β) (by rw [e1, um_at, E2]) (fun ω hω => ?_) (fun ρ hρ e => ?_)
    · refine TOX_ev (fun r a1 a2 a3 a4 => un_ne a1) (fun i h => un_nei h) hX.1 (fun c a1 a2 a3 a4 a5 => by rw [hω, um_ne _ _ _ a5, e1, um_ne _ _ _ a1]) (fun j hj => by rw [hω, um_nei _ _ hj, e1, um_ne _ _ _ (by omega)]) ⟨by rw [E2]; omega, by rw [hω, um_ne _ _ _ (by omega), e1, um_at, E2], fun e he => ?_⟩ (by rw [hω, um_at])
      rw [E2] at he
      rw [hω, um_ne _ _ _ (by omega), um_ne _ _ _ (by omega), um_ne _ _ _ (by omega), e1, um_ne _ _ _ (by omega), um_ne _ _ _ (by omega), um_ne _ _ _ (by omega), un_ne (by omega), un_ne (by omega), un_ne (by omega)]
      exact hX.1.2.1.2.2 e (by omega)
    · rw [E2] at e
      rw [e]
      unfold wX7_back
      rw [hn, neq0 (by omega)]
      refine ⟨fun _ => ?_, fun y => absurd y z⟩
      intro t1 f1
      rw [nI_m1 (by omega)] at f1
      refine ⟨by rw [f1, um_at], un α 2 3 (α 2 3 - 1), β, OkA_2 (fun r h => un_ne h) (un_nei (by omega)) (un_nei (by omega)) (by rw [un_nei (by omega)]; exact hO.2.1) (by rw [un_at]; omega) (by rw [un_nei (by omega)]; exact Nat.le_refl _) hO, hρ, ?_⟩
      refine IM_ev (fun r a1 a2 a3 a4 => un_ne a1) (fun i h => un_nei h) hM (fun c a1 a2 => by rw [f1, um_ne _ _ _ a1]) (fun j hj => by rw [f1, um_nei _ _ hj]) ⟨by rw [E2]; omega, by rw [f1, um_at, E2], fun e he => ?_⟩
      rw [E2] at he
      rw [f1, um_ne _ _ _ (by omega), un_ne (by omega), un_ne (by omega), un_ne (by omega)]
      exact hM.2.2.1.2.2 e (by omega)
  · unfold wX7_back
    rw [hn, neq0 (by omega)]
    exact ⟨fun y => absurd z y, fun _ => ⟨rfl, α, β, hO, hX, hM⟩⟩
