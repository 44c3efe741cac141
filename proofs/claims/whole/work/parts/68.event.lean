def daA (α : DD) (d k : Nat) : Nat := if k = 0 then plA (α 0) d else if k = 1 then wyA (α 0) d else coA (α 0) d
theorem OkA.nd {α : DD} {β : Mem} (h : OkA α β) : nDa α ≤ 8 := nDa_le h.1.1
theorem M_dancer {τ : Mem} {α : DD} {β : Mem} {a1 a2 : Int32} {Q : Int32 → Mem → Prop} (hO : OkA α β) (hM : IM τ α β) (h1 : ∀ d k, d < nDa α → k < 3 → a1 = nI d → a2 = nI k → ∀ τ1, IM τ1 α β → Q (nI (daA α d k)) τ1) (h2 : ¬ ((0 ≤ a1.toInt ∧ a1.toInt < nDa α) ∧ 0 ≤ a2.toInt ∧ a2.toInt ≤ 2) → ∀ τ1, IM τ1 α β → Q (-2) τ1) : wX7_dancer a1 a2 τ Q := by
  have hn := hO.nd
  unfold wX7_dancer
  refine s_readsDancers hO.1.1 hO.1.2.2.1 hM.1 (fun τ1 f1 f2 f3 f4 => ?_)
  have m1 : IM τ1 α β := IM_same hM (fun c hc => f1 c (by omega) (by omega)) (fun j hj => f2 j (by omega))
  refine s_isDancerM (n := nDa α) (by omega) f3 ?_
  by_cases g1 : (0 ≤ a1.toInt ∧ a1.toInt < nDa α)
  · rw [if_pos g1]
    refine ⟨fun z => absurd z one_ne, fun _ => s_in (a := 0) (b := 2) rfl rfl ?_⟩
    by_cases g2 : (0 ≤ a2.toInt ∧ a2.toInt ≤ 2)
    · rw [if_pos g2]
      refine ⟨fun z => absurd z one_ne, fun _ => ?_⟩
      obtain ⟨d, hd, rfl⟩ := nat_of g1.1 (n := nDa α - 1) (by omega) (by omega)
      obtain ⟨k, hk, rfl⟩ := nat_of g2.1 (n := 2) g2.2 (by omega)
      rw [toI (by omega)] at g1
      have e : (3 : Int32) * nI d + nI k = nI (3 * d + k) := by rw [i3]; exact nI_add _ _
      rw [e, nI_clamp (by omega)]
      refine ⟨vp_in_nI (by omega) (by omega), ?_⟩
      have := h1 d k (by omega) (by omega) rfl rfl τ1 m1
      obtain ⟨q1, q2, q3⟩ := f4 d (by omega)
      have hk3 : k = 0 ∨ k = 1 ∨ k = 2 := by omega
      rcases hk3 with rfl | rfl | rfl
      · rw [show 3 * d + 0 = 3 * d by omega, q1]; exact this
      · rw [q2]; exact this
      · rw [q3]; exact this
    · rw [if_neg g2]
      exact ⟨fun _ => h2 (fun z => g2 z.2) τ1 m1, fun z => absurd rfl z⟩
  · rw [if_neg g1]
    exact ⟨fun _ => h2 (fun z => g1 z.1) τ1 m1, fun z => absurd rfl z⟩
theorem L4 : okL_4 RR := by
  intro σ τ a1 a2 ⟨α, β, hO, hX, hM⟩
  have hn := hO.nd
  have hk := hX.1.2.2.1
  unfold wX6_dancer
  refine s_isDancerX (n := nDa α) (by omega) (by rw [hk.1, iA30]) ?_
  by_cases g1 : (0 ≤ a1.toInt ∧ a1.toInt < nDa α)
  · rw [if_pos g1]
    refine ⟨fun _ => ?_, fun z => absurd z one_ne⟩
    obtain ⟨d, hd, rfl⟩ := nat_of g1.1 (n := nDa α - 1) (by omega) (by omega)
    rw [toI (by omega)] at g1
    have hd2 : d < nDa α := by omega
    have q := hk.2.2.2.1 d (by rw [iA30]; exact hd2)
    rw [iA0, iA1] at q
    have q3 := hX.1.2.2.2.1 d hd2
    rw [nI_clamp (by omega)]
    have gd : ∀ k, k < 3 → ∀ r, r = nI (daA α d k) → wX7_dancer (nI d) (nI k) τ (fun r1 τ1 => r = r1 ∧ RR σ τ1) := fun k hk r hr => by
      refine M_dancer hO hM (fun d' k' h1 h2 e1 e2 τ1 m => ?_) (fun z => ?_)
      · have : d' = d := ((nI_eq (by omega) (by omega)).mp e1).symm
        have : k' = k := ((nI_eq (by omega) (by omega)).mp e2).symm
        subst_vars
        exact ⟨rfl, α, β, hO, hX, m⟩
      · exact absurd ⟨⟨by rw [toI (by omega)]; omega, by rw [toI (by omega)]; omega⟩, by rw [toI (by omega)]; omega, by rw [toI (by omega)]; omega⟩ z
    refine ⟨fun z => ⟨vp_in_nI (by omega) (by omega), ?_⟩, fun z => ⟨vp_in_nI (by omega) (by omega), ?_⟩, fun z => ⟨vp_in_nI (by omega) (by omega), ?_⟩, fun z => ?_⟩
    · subst z; exact gd 0 (by omega) _ q.1
    · subst z; exact gd 1 (by omega) _ q.2
    · subst z; exact gd 2 (by omega) _ q3
    · refine M_dancer hO hM (fun d' k' h1 h2 e1 e2 τ1 m => ?_) (fun _ τ1 m => ⟨rfl, α, β, hO, hX, m⟩)
      rw [e2, toI (by omega)] at z
      omega
  · rw [if_neg g1]
    refine ⟨fun z => absurd rfl z, fun _ => ?_⟩
    refine M_dancer hO hM (fun d' k' h1 h2 e1 e2 τ1 m => ?_) (fun _ τ1 m => ⟨rfl, α, β, hO, hX, m⟩)
    exact absurd ⟨by rw [e1, toI (by omega)]; omega, by rw [e1, toI (by omega)]; omega⟩ g1
theorem L5 : okL_5 RR := by
  intro σ τ a1 ⟨α, β, hO, hX, hM⟩
  unfold wX6_steps
  refine s_isBeatX ?_
  by_cases g1 : (0 ≤ a1.toInt ∧ a1.toInt ≤ 23)
  · rw [if_pos g1]
    refine ⟨fun z => absurd z one_ne, fun _ => ?_⟩
    obtain ⟨b, hb, rfl⟩ := nat_of g1.1 (n := 23) g1.2 (by omega)
    rw [nI_clamp (by omega)]
    refine ⟨vp_in_nI (by omega) (by omega), ?_⟩
    unfold wX7_steps
    refine s_readsSteps hO.1.2.1 hO.1.2.2.2 hM.1 (fun τ1 f1 f2 f3 f4 => ?_)
    refine s_isBeatM ?_
    rw [if_pos g1]
    refine ⟨fun z => absurd z one_ne, fun _ => ?_⟩
    rw [nI_clamp (by omega)]
    refine ⟨vp_in_nI (by omega) (by omega), ?_, α, β, hO, hX, IM_same hM (fun c hc => f1 c (by omega) (by omega)) (fun j hj => f2 j (by omega))⟩
    rw [f4 b (by omega)]
    have := hX.1.2.2.1.2.2.2.2 b (by omega)
    rw [iA2] at this
    exact this
  · rw [if_neg g1]
    refine ⟨fun _ => ?_, fun z => absurd rfl z⟩
    unfold wX7_steps
    refine s_readsSteps hO.1.2.1 hO.1.2.2.2 hM.1 (fun τ1 f1 f2 f3 f4 => ?_)
    refine s_isBeatM ?_
    rw [if_neg g1]
    exact ⟨fun _ => ⟨rfl, α, β, hO, hX, IM_same hM (fun c hc => f1 c (by omega) (by omega)) (fun j hj => f2 j (by omega))⟩, fun z => absurd rfl z⟩
/-- the class after a change of the length -/
theorem TOX_len {σ τ : Mem} {α : DD} {β : Mem} {v : Nat} (hT : TOX σ α β) (e : τ = um σ 10 5 (nI v)) : TOX τ (un α 2 2 v) β := by
  have cc : ∀ c, c ≠ 10 → τ c = σ c := fun c h => by rw [e, um_ne _ _ _ h]
  have E0 : un α 2 2 v 0 = α 0 := un_ne (by omega)
  have E1 : un α 2 2 v 1 = α 1 := un_ne (by omega)
  have E20 : un α 2 2 v 2 0 = α 2 0 := un_nei (by omega)
  have E21 : un α 2 2 v 2 1 = α 2 1 := un_nei (by omega)
  have E23 : un α 2 2 v 2 3 = α 2 3 := un_nei (by omega)
  have E24 : un α 2 2 v 2 4 = α 2 4 := un_nei (by omega)
  have s4 := nDa_cong E0 E20
  obtain ⟨⟨x1, x2⟩, ev, k, c, s, z, l⟩ := hT
  refine ⟨⟨?_, ?_⟩, ?_, ⟨?_, ?_, ?_, ?_, ?_⟩, ?_, ?_, ?_, ?_⟩
  · rw [cc 2 (by omega), cc 3 (by omega), E20, E0, flt0_cong E0 E20]; exact x1
  · rw [cc 4 (by omega), cc 5 (by omega), E21, E1, flt1_cong E1 E21]; exact x2
  · unfold EVX
    rw [cc 6 (by omega), cc 7 (by omega), cc 8 (by omega), cc 9 (by omega), E23, un_ne (show 3 ≠ 2 by omega), un_ne (show 4 ≠ 2 by omega), un_ne (show 5 ≠ 2 by omega)]
    exact ev
  · rw [e, um_nei _ _ (by omega), k.1, iA30, iA30, s4]
  · rw [e, um_at, iA31, un_at]
  · rw [e, um_nei _ _ (by omega), k.2.2.1, E23]
  · intro i hi
    rw [iA30, s4] at hi
    rw [cc (10 + 1) (by omega), cc (10 + 2) (by omega), iA0, iA1, E0]
    have := k.2.2.2.1 i (by rw [iA30]; exact hi)
    rw [iA0, iA1] at this
    exact this
  · intro b hb
    rw [cc (10 + 4) (by omega), iA2, stA_cong E1 E21]
    have := k.2.2.2.2 b hb
    rw [iA2] at this
    exact this
  · unfold COX; rw [cc 13 (by omega), s4, E0]; exact c
  · unfold SEX
    rw [cc 50 (by omega), cc 51 (by omega), cc 52 (by omega), E24, un_ne (show 6 ≠ 2 by omega), un_ne (show 7 ≠ 2 by omega)]
    exact s
  · intro i hi
    rw [cc (54 + 2 * i) (by omega), cc (54 + 2 * i + 1) (by omega), un_ne (show 8 ≠ 2 by omega)]
    exact z i hi
  · rw [cc 0 (by omega)]; exact l
theorem OkA_2 {α α' : DD} {β : Mem} (hC : ∀ r, r ≠ 2 → α' r = α r) (h0 : α' 2 0 = α 2 0) (h1 : α' 2 1 = α 2 1) (h2 : 2 ≤ α' 2 2 ∧ α' 2 2 ≤ 30) (h3 : α' 2 3 ≤ α 2 3) (h4 : α' 2 4 ≤ α 2 4) (hO : OkA α β) : OkA α' β := by
  obtain ⟨o1, o2, o3, o4, o5⟩ := hO
  refine ⟨?_, h2, ⟨by omega, fun e he => ?_⟩, ⟨by omega, fun e he => ?_⟩, ?_⟩
  · rw [h0, h1, hC 0 (by omega), hC 1 (by omega)]; exact o1
  · rw [hC 3 (by omega), hC 4 (by omega), hC 5 (by omega)]; exact o3.2 e (by omega)
  · rw [hC 6 (by omega), hC 7 (by omega)]; exact o4.2 e (by omega)
  · rw [hC 8 (by omega)]; exact o5
/-- the model after a change of the length, of the events, of what was seen -/
theorem IM_len {σ τ : Mem} {α : DD} {β : Mem} {v : Nat} (hM : IM σ α β) (e : τ = um σ 0 11 (nI v)) : IM τ (un α 2 2 v) β := by
  have cc : ∀ c, c ≠ 0 → τ c = σ c := fun c h => by rw [e, um_ne _ _ _ h]
  have c0 : ∀ j, j ≠ 11 → τ 0 j = σ 0 j := fun j h => by rw [e, um_nei _ _ h]
  obtain ⟨t, l, ev, g, s, z, f⟩ := hM
  refine ⟨?_, ?_, ?_, ?_, ?_, ?_, ?_⟩
  · unfold TXM; rw [cc 6 (by omega), cc 5 (by omega), un_nei (show 0 ≠ 2 by omega), un_nei (show 1 ≠ 2 by omega), un_ne (show 0 ≠ 2 by omega), un_ne (show 1 ≠ 2 by omega)]; exact t
  · rw [e, um_at, un_at]
  · unfold EVM; rw [cc 9 (by omega), c0 12 (by omega), un_nei (show 3 ≠ 2 by omega), un_ne (show 3 ≠ 2 by omega), un_ne (show 4 ≠ 2 by omega), un_ne (show 5 ≠ 2 by omega)]; exact ev
  · rw [c0 14 (by omega)]; exact g
  · unfold SEM; rw [cc 23 (by omega), c0 33 (by omega), un_nei (show 4 ≠ 2 by omega), un_ne (show 6 ≠ 2 by omega), un_ne (show 7 ≠ 2 by omega)]; exact s
  · unfold SHM; rw [cc 1 (by omega), cc 2 (by omega), cc 3 (by omega), un_ne (show 8 ≠ 2 by omega)]; exact z
  · rw [c0 4 (by omega)]; exact f
theorem L6 : okL_6 RR := by
  intro σ τ a1 ⟨α, β, hO, hX, hM⟩
  have badm : ¬ (2 ≤ a1.toInt ∧ a1.toInt ≤ 30) → wX7_ribbons a1 τ (fun r1 τ1 => -2 = r1 ∧ RR σ τ1) := fun g => by
    unfold wX7_ribbons
    refine s_in (a := 2) (b := 30) rfl rfl ?_
    rw [if_neg g]
    exact ⟨fun z => absurd rfl z, fun _ => ⟨rfl, α, β, hO, hX, hM⟩⟩
  unfold wX6_ribbons
  rw [show (a1 < (2 : Int32)) = (a1.toInt < 2) from ltk a1 (k := 2) (by omega), show (a1 ≤ (30 : Int32)) = (a1.toInt ≤ 30) from lek a1 (k := 30) (by omega)]
  refine ⟨fun z => badm (by omega), fun z => ⟨fun y => ?_, fun y => badm (by omega)⟩⟩
  obtain ⟨v, hv, rfl⟩ := nat_of (x := a1) (by omega) (n := 30) y (by omega)
  rw [toI (by omega)] at z
  intro x hx s1 e1
  refine s_forgetOut (TOX_len hX.1 e1) (fun ρ hρ _ => ?_)
  unfold wX7_ribbons
  refine s_in (a := 2) (b := 30) rfl rfl ?_
  rw [if_pos ⟨by rw [toI (by omega)]; omega, y⟩]
  refine ⟨fun _ => ?_, fun z => absurd z one_ne⟩
  intro w hw t1 f1
  refine ⟨?_, un α 2 2 v, β, OkA_2 (fun r h => un_ne h) (un_nei (by omega)) (un_nei (by omega)) (by rw [un_at]; omega) (by rw [un_nei (by omega)]; exact Nat.le_refl _) (by rw [un_nei (by omega)]; exact Nat.le_refl _) hO, hρ, IM_len hM f1⟩
  rw [hx, hw, hM.2.1, hX.1.2.2.1.2.1, iA31]
