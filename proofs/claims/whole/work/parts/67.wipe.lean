theorem OkA_cut0 {α : DD} {β : Mem} {n : Nat} (hn : n ≤ α 2 0) (hO : OkA α β) : OkA (un α 2 0 n) β := by
  have hO2 := hO
  obtain ⟨⟨o1, o2, o3, o4⟩, _⟩ := hO2
  refine OkA_text (fun r a1 a2 a3 => by rw [un_ne a3]) (fun i a1 a2 => by rw [un_nei (by omega)]) hO ⟨?_, ?_, ?_, ?_⟩
  · rw [un_at]; omega
  · rw [un_nei (by omega)]; exact o2
  · intro i hi
    rw [un_at] at hi
    rw [un_ne (show 0 ≠ 2 by omega)]
    exact o3 i (by omega)
  · rw [un_nei (by omega), un_ne (show 1 ≠ 2 by omega)]; exact o4
theorem IM_cut0 {τ s1 : Mem} {α : DD} {β : Mem} {n : Nat} (hn : n ≤ α 2 0) (hM : IM τ α β) (e1 : s1 = um τ 6 0 (nI n)) : IM s1 (un α 2 0 n) β := by
  obtain ⟨m0, m1, m2, m3⟩ := hM.1
  refine IM_text (fun r a1 a2 a3 => by rw [un_ne a3]) (fun i a1 a2 => by rw [un_nei (by omega)]) hM (fun c a1 a2 => by rw [e1, um_ne _ _ _ a2]) ⟨?_, ?_, ?_, ?_⟩
  · rw [e1, um_at, un_at]
  · rw [e1, um_nei _ _ (by omega), un_nei (by omega)]; exact m1
  · rw [e1, um_ne _ _ _ (by omega)]
    intro i hi
    rw [un_ne (show 0 ≠ 2 by omega)]
    refine m2 i ?_
    rw [un_at] at hi; omega
  · rw [e1, um_ne _ _ _ (by omega)]
    intro i hi
    rw [un_ne (show 1 ≠ 2 by omega)]
    refine m3 i ?_
    rw [un_nei (by omega)] at hi; exact hi
theorem s_cut0 {σ s1 : Mem} {α : DD} {β : Mem} {n : Nat} {Q : Mem → Prop} (hn : n ≤ α 2 0) (hO : OkA α β) (hX : IX σ α β) (e1 : s1 = um σ 2 2 (nI n)) (hQ : ∀ τ, IX τ (un α 2 0 n) β → τ 2 2 = nI n → Q τ) : wX6_takeText (nI 0) s1 Q := by
  have hO2 := hO
  obtain ⟨⟨o1, o2, o3, o4⟩, _⟩ := hO2
  obtain ⟨⟨x1, x2⟩, _⟩ := hX.1
  refine s_takeText0 (α := α) (α' := un α 2 0 n) (σ0 := σ) (fun r a1 a2 => by rw [un_ne a2]) (fun i a1 => by rw [un_nei a1]) (by rw [un_at]; omega) ?_ hX.1 ?_ ?_ ?_ ?_ ?_
  · intro i hi
    rw [un_at] at hi
    rw [un_ne (show 0 ≠ 2 by omega)]
    exact o3 i (by omega)
  · intro c a1 a2
    rw [e1, um_ne _ _ _ a1]
  · rw [e1, um_nei _ _ (by omega)]; exact x1.1
  · rw [e1, um_at, un_at]
  · intro i hi
    rw [un_at] at hi
    rw [e1, um_ne _ _ _ (by omega), un_ne (show 0 ≠ 2 by omega)]
    exact x1.2.2.2 i (by omega)
  · intro ρ hρ e3
    rw [un_at] at e3
    exact hQ ρ hρ e3
theorem L_wipe0 {σ τ : Mem} {α : DD} {β : Mem} (hO : OkA α β) (hX : IX σ α β) (hM : IM τ α β) : wX6_wipe (nI 0) σ (fun r σ1 => wX7_wipe (nI 0) τ (fun r1 τ1 => r = r1 ∧ RR σ1 τ1)) := by
  unfold wX6_wipe
  refine s_isText ?_
  rw [if_pos two0]
  refine ⟨fun _ => ⟨vp_in_nI (by omega) (by omega), ?_⟩, fun z => absurd z one_ne⟩
  simp only [cx0]
  intro x hx
  refine ⟨vp_in_nI (by omega) (by omega), ?_⟩
  intro s1 e1
  refine s_cut0 (n := 0) (Nat.zero_le _) hO hX e1 (fun ρ hρ _ => ?_)
  unfold wX7_wipe
  refine s_isTwo ?_
  rw [if_pos two0]
  refine ⟨fun _ => ⟨vp_in_nI (by omega) (by omega), ?_⟩, fun z => absurd z one_ne⟩
  intro y hy
  refine ⟨vp_in_nI (by omega) (by omega), ?_⟩
  intro t1 f1
  rw [ct0] at f1 hy
  refine ⟨?_, un α 2 0 0, β, OkA_cut0 (Nat.zero_le _) hO, hρ, IM_cut0 (Nat.zero_le _) hM f1⟩
  rw [hx, hy, hM.1.1]
  exact hX.1.1.1.2.1
theorem L_undo0 {σ τ : Mem} {α : DD} {β : Mem} (hO : OkA α β) (hX : IX σ α β) (hM : IM τ α β) : wX6_undo (nI 0) σ (fun r σ1 => wX7_undo (nI 0) τ (fun r1 τ1 => r = r1 ∧ RR σ1 τ1)) := by
  have hO2 := hO
  obtain ⟨⟨o1, o2, o3, o4⟩, _⟩ := hO2
  have hx : σ 2 2 = nI (α 2 0) := hX.1.1.1.2.1
  have hm : τ 6 0 = nI (α 2 0) := hM.1.1
  unfold wX6_undo
  refine s_isText ?_
  rw [if_pos two0]
  refine ⟨fun _ => ⟨vp_in_nI (by omega) (by omega), ?_⟩, fun z => absurd z one_ne⟩
  simp only [cx0]
  rw [hx, neq0 (by omega)]
  refine ⟨fun z => ⟨vp_in_nI (by omega) (by omega), ?_⟩, fun z => ?_⟩
  · intro s1 e1
    rw [nI_m1 (by omega)] at e1
    refine s_cut0 (n := α 2 0 - 1) (by omega) hO hX e1 (fun ρ hρ e3 => ⟨vp_in_nI (by omega) (by omega), ?_⟩)
    unfold wX7_undo
    refine s_isTwo ?_
    rw [if_pos two0]
    refine ⟨fun _ => ⟨vp_in_nI (by omega) (by omega), ?_⟩, fun z => absurd z one_ne⟩
    rw [ct0, hm, neq0 (by omega)]
    refine ⟨fun _ => ⟨vp_in_nI (by omega) (by omega), vp_in_nI (by omega) (by omega), ?_⟩, fun y => absurd y z⟩
    intro t1 f1
    rw [nI_m1 (by omega)] at f1
    refine ⟨vp_in_nI (by omega) (by omega), ?_, un α 2 0 (α 2 0 - 1), β, OkA_cut0 (by omega) hO, hρ, IM_cut0 (by omega) hM f1⟩
    rw [e3, f1, um_at]
  · unfold wX7_undo
    refine s_isTwo ?_
    rw [if_pos two0]
    refine ⟨fun _ => ⟨vp_in_nI (by omega) (by omega), ?_⟩, fun z => absurd z one_ne⟩
    rw [ct0, hm, neq0 (by omega)]
    exact ⟨fun y => absurd z y, fun y => ⟨rfl, α, β, hO, hX, hM⟩⟩
theorem L_fault0 {σ τ : Mem} {α : DD} {β : Mem} (hO : OkA α β) (hX : IX σ α β) (hM : IM τ α β) : wX6_fault (nI 0) σ (fun r σ1 => wX7_fault (nI 0) τ (fun r1 τ1 => r = r1 ∧ RR σ1 τ1)) := by
  unfold wX6_fault
  refine s_isText ?_
  rw [if_pos two0]
  refine ⟨fun z => absurd z one_ne, fun _ => ⟨vp_in_nI (by omega) (by omega), ?_⟩⟩
  simp only [cx0]
  unfold wX7_fault
  refine s_isTwo ?_
  rw [if_pos two0]
  refine ⟨fun z => absurd z one_ne, fun _ => ?_⟩
  unfold wX7_readsText
  refine ⟨fun z => absurd rfl z, fun _ => s_readsDancers hO.1.1 hO.1.2.2.1 hM.1 (fun τ1 f1 f2 f3 f4 => ⟨hX.1.1.1.2.2.1, α, β, hO, hX, IM_same hM (fun c hc => f1 c (by omega) (by omega)) (fun j hj => f2 j (by omega))⟩)⟩
theorem OkA_cut1 {α : DD} {β : Mem} {n : Nat} (hn : n ≤ α 2 1) (hO : OkA α β) : OkA (un α 2 1 n) β := by
  have hO2 := hO
  obtain ⟨⟨o1, o2, o3, o4⟩, _⟩ := hO2
  refine OkA_text (fun r a1 a2 a3 => by rw [un_ne a3]) (fun i a1 a2 => by rw [un_nei (by omega)]) hO ⟨?_, ?_, ?_, ?_⟩
  · rw [un_nei (by omega)]; exact o1
  · rw [un_at]; omega
  · rw [un_nei (by omega), un_ne (show 0 ≠ 2 by omega)]; exact o3
  · intro i hi
    rw [un_at] at hi
    rw [un_ne (show 1 ≠ 2 by omega)]
    exact o4 i (by omega)
theorem IM_cut1 {τ s1 : Mem} {α : DD} {β : Mem} {n : Nat} (hn : n ≤ α 2 1) (hM : IM τ α β) (e1 : s1 = um τ 6 1 (nI n)) : IM s1 (un α 2 1 n) β := by
  obtain ⟨m0, m1, m2, m3⟩ := hM.1
  refine IM_text (fun r a1 a2 a3 => by rw [un_ne a3]) (fun i a1 a2 => by rw [un_nei (by omega)]) hM (fun c a1 a2 => by rw [e1, um_ne _ _ _ a2]) ⟨?_, ?_, ?_, ?_⟩
  · rw [e1, um_nei _ _ (by omega), un_nei (by omega)]; exact m0
  · rw [e1, um_at, un_at]
  · rw [e1, um_ne _ _ _ (by omega)]
    intro i hi
    rw [un_ne (show 0 ≠ 2 by omega)]
    refine m2 i ?_
    rw [un_nei (by omega)] at hi; exact hi
  · rw [e1, um_ne _ _ _ (by omega)]
    intro i hi
    rw [un_ne (show 1 ≠ 2 by omega)]
    refine m3 i ?_
    rw [un_at] at hi; omega
theorem s_cut1 {σ s1 : Mem} {α : DD} {β : Mem} {n : Nat} {Q : Mem → Prop} (hn : n ≤ α 2 1) (hO : OkA α β) (hX : IX σ α β) (e1 : s1 = um σ 4 2 (nI n)) (hQ : ∀ τ, IX τ (un α 2 1 n) β → τ 4 2 = nI n → Q τ) : wX6_takeText (nI 1) s1 Q := by
  have hO2 := hO
  obtain ⟨⟨o1, o2, o3, o4⟩, _⟩ := hO2
  obtain ⟨⟨x1, x2⟩, _⟩ := hX.1
  refine s_takeText1 (α := α) (α' := un α 2 1 n) (σ0 := σ) (fun r a1 a2 => by rw [un_ne a2]) (fun i a1 => by rw [un_nei a1]) (by rw [un_at]; omega) ?_ hX.1 ?_ ?_ ?_ ?_ ?_
  · intro i hi
    rw [un_at] at hi
    rw [un_ne (show 1 ≠ 2 by omega)]
    exact o4 i (by omega)
  · intro c a1 a2
    rw [e1, um_ne _ _ _ a1]
  · rw [e1, um_nei _ _ (by omega)]; exact x2.1
  · rw [e1, um_at, un_at]
  · intro i hi
    rw [un_at] at hi
    rw [e1, um_ne _ _ _ (by omega), un_ne (show 1 ≠ 2 by omega)]
    exact x2.2.2.2 i (by omega)
  · intro ρ hρ e3
    rw [un_at] at e3
    exact hQ ρ hρ e3
theorem L_wipe1 {σ τ : Mem} {α : DD} {β : Mem} (hO : OkA α β) (hX : IX σ α β) (hM : IM τ α β) : wX6_wipe (nI 1) σ (fun r σ1 => wX7_wipe (nI 1) τ (fun r1 τ1 => r = r1 ∧ RR σ1 τ1)) := by
  unfold wX6_wipe
  refine s_isText ?_
  rw [if_pos two1]
  refine ⟨fun _ => ⟨vp_in_nI (by omega) (by omega), ?_⟩, fun z => absurd z one_ne⟩
  simp only [cx1]
  intro x hx
  refine ⟨vp_in_nI (by omega) (by omega), ?_⟩
  intro s1 e1
  refine s_cut1 (n := 0) (Nat.zero_le _) hO hX e1 (fun ρ hρ _ => ?_)
  unfold wX7_wipe
  refine s_isTwo ?_
  rw [if_pos two1]
  refine ⟨fun _ => ⟨vp_in_nI (by omega) (by omega), ?_⟩, fun z => absurd z one_ne⟩
  intro y hy
  refine ⟨vp_in_nI (by omega) (by omega), ?_⟩
  intro t1 f1
  rw [ct1] at f1 hy
  refine ⟨?_, un α 2 1 0, β, OkA_cut1 (Nat.zero_le _) hO, hρ, IM_cut1 (Nat.zero_le _) hM f1⟩
  rw [hx, hy, hM.1.2.1]
  exact hX.1.1.2.2.1
theorem L_undo1 {σ τ : Mem} {α : DD} {β : Mem} (hO : OkA α β) (hX : IX σ α β) (hM : IM τ α β) : wX6_undo (nI 1) σ (fun r σ1 => wX7_undo (nI 1) τ (fun r1 τ1 => r = r1 ∧ RR σ1 τ1)) := by
  have hO2 := hO
  obtain ⟨⟨o1, o2, o3, o4⟩, _⟩ := hO2
  have hx : σ 4 2 = nI (α 2 1) := hX.1.1.2.2.1
  have hm : τ 6 1 = nI (α 2 1) := hM.1.2.1
  unfold wX6_undo
  refine s_isText ?_
  rw [if_pos two1]
  refine ⟨fun _ => ⟨vp_in_nI (by omega) (by omega), ?_⟩, fun z => absurd z one_ne⟩
  simp only [cx1]
  rw [hx, neq0 (by omega)]
  refine ⟨fun z => ⟨vp_in_nI (by omega) (by omega), ?_⟩, fun z => ?_⟩
  · intro s1 e1
    rw [nI_m1 (by omega)] at e1
    refine s_cut1 (n := α 2 1 - 1) (by omega) hO hX e1 (fun ρ hρ e3 => ⟨vp_in_nI (by omega) (by omega), ?_⟩)
    unfold wX7_undo
    refine s_isTwo ?_
    rw [if_pos two1]
    refine ⟨fun _ => ⟨vp_in_nI (by omega) (by omega), ?_⟩, fun z => absurd z one_ne⟩
    rw [ct1, hm, neq0 (by omega)]
    refine ⟨fun _ => ⟨vp_in_nI (by omega) (by omega), vp_in_nI (by omega) (by omega), ?_⟩, fun y => absurd y z⟩
    intro t1 f1
    rw [nI_m1 (by omega)] at f1
    refine ⟨vp_in_nI (by omega) (by omega), ?_, un α 2 1 (α 2 1 - 1), β, OkA_cut1 (by omega) hO, hρ, IM_cut1 (by omega) hM f1⟩
    rw [e3, f1, um_at]
  · unfold wX7_undo
    refine s_isTwo ?_
    rw [if_pos two1]
    refine ⟨fun _ => ⟨vp_in_nI (by omega) (by omega), ?_⟩, fun z => absurd z one_ne⟩
    rw [ct1, hm, neq0 (by omega)]
    exact ⟨fun y => absurd z y, fun y => ⟨rfl, α, β, hO, hX, hM⟩⟩
theorem L_fault1 {σ τ : Mem} {α : DD} {β : Mem} (hO : OkA α β) (hX : IX σ α β) (hM : IM τ α β) : wX6_fault (nI 1) σ (fun r σ1 => wX7_fault (nI 1) τ (fun r1 τ1 => r = r1 ∧ RR σ1 τ1)) := by
  unfold wX6_fault
  refine s_isText ?_
  rw [if_pos two1]
  refine ⟨fun z => absurd z one_ne, fun _ => ⟨vp_in_nI (by omega) (by omega), ?_⟩⟩
  simp only [cx1]
  unfold wX7_fault
  refine s_isTwo ?_
  rw [if_pos two1]
  refine ⟨fun z => absurd z one_ne, fun _ => ?_⟩
  unfold wX7_readsText
  refine ⟨fun _ => s_readsSteps hO.1.2.1 hO.1.2.2.2 hM.1 (fun τ1 f1 f2 f3 f4 => ⟨hX.1.1.2.2.2.1, α, β, hO, hX, IM_same hM (fun c hc => f1 c (by omega) (by omega)) (fun j hj => f2 j (by omega))⟩), fun z => absurd z one_ne⟩
theorem L1 : okL_1 RR := by
  intro σ τ a1 ⟨α, β, hO, hX, hM⟩
  by_cases g1 : (0 ≤ a1.toInt ∧ a1.toInt ≤ 1)
  · rcases two_of g1 with rfl | rfl
    · exact L_wipe0 hO hX hM
    · exact L_wipe1 hO hX hM
  · unfold wX6_wipe
    refine s_isText ?_
    rw [if_neg g1]
    refine ⟨fun z => absurd rfl z, fun _ => ?_⟩
    unfold wX7_wipe
    refine s_isTwo ?_
    rw [if_neg g1]
    exact ⟨fun z => absurd rfl z, fun _ => ⟨rfl, α, β, hO, hX, hM⟩⟩
theorem L2 : okL_2 RR := by
  intro σ τ a1 ⟨α, β, hO, hX, hM⟩
  by_cases g1 : (0 ≤ a1.toInt ∧ a1.toInt ≤ 1)
  · rcases two_of g1 with rfl | rfl
    · exact L_undo0 hO hX hM
    · exact L_undo1 hO hX hM
  · unfold wX6_undo
    refine s_isText ?_
    rw [if_neg g1]
    refine ⟨fun z => absurd rfl z, fun _ => ?_⟩
    unfold wX7_undo
    refine s_isTwo ?_
    rw [if_neg g1]
    exact ⟨fun z => absurd rfl z, fun _ => ⟨rfl, α, β, hO, hX, hM⟩⟩
theorem L3 : okL_3 RR := by
  intro σ τ a1 ⟨α, β, hO, hX, hM⟩
  by_cases g1 : (0 ≤ a1.toInt ∧ a1.toInt ≤ 1)
  · rcases two_of g1 with rfl | rfl
    · exact L_fault0 hO hX hM
    · exact L_fault1 hO hX hM
  · unfold wX6_fault
    refine s_isText ?_
    rw [if_neg g1]
    refine ⟨fun _ => ?_, fun z => absurd rfl z⟩
    unfold wX7_fault
    refine s_isTwo ?_
    rw [if_neg g1]
    exact ⟨fun _ => ⟨rfl, α, β, hO, hX, hM⟩, fun z => absurd rfl z⟩
