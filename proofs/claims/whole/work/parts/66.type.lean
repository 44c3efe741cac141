theorem un_ne {D : DD} {r i v r' : Nat} (h : r' ≠ r) : un D r i v r' = D r' := by
  funext k
  simp [un, h]
theorem un_nei {D : DD} {r i v k : Nat} (h : k ≠ i) : un D r i v r k = D r k := by simp [un, h]
theorem un_at {D : DD} {r i v : Nat} : un D r i v r i = v := by simp [un]
theorem nat_of {x : Int32} {n : Nat} (h0 : 0 ≤ x.toInt) (h1 : x.toInt ≤ n) (hn : n < 2 ^ 31) : ∃ j, j ≤ n ∧ x = nI j := by
  refine ⟨x.toInt.toNat, by omega, ?_⟩
  rw [eqk x (by omega)]
  omega
theorem two_of {x : Int32} (h : 0 ≤ x.toInt ∧ x.toInt ≤ 1) : x = nI 0 ∨ x = nI 1 := by
  obtain ⟨j, hj, e⟩ := nat_of h.1 (n := 1) h.2 (by omega)
  have : j = 0 ∨ j = 1 := by omega
  rcases this with rfl | rfl
  · exact Or.inl e
  · exact Or.inr e
theorem two0 : (0 ≤ (nI 0).toInt ∧ (nI 0).toInt ≤ 1) := by decide
theorem two1 : (0 ≤ (nI 1).toInt ∧ (nI 1).toInt ≤ 1) := by decide
theorem ct0 : (nI 0).toNatClampNeg = 0 := by decide
theorem ct1 : (nI 1).toNatClampNeg = 1 := by decide
theorem cx0 : 2 + 2 * (nI 0).toNatClampNeg = 2 := by decide
theorem cx1 : 2 + 2 * (nI 1).toNatClampNeg = 4 := by decide
theorem one_ne : ¬ (1 : Int32) = 0 := by decide
theorem b255 {b : Nat} (h : b ≤ 255) : (0 ≤ (nI b).toInt ∧ (nI b).toInt ≤ 255) := by
  rw [toI (by omega)]; omega
theorem L_type0 {σ τ : Mem} {α : DD} {β : Mem} {b : Nat} (hb : b ≤ 255) (hO : OkA α β) (hX : IX σ α β) (hM : IM τ α β) : wX6_type (nI 0) (nI b) σ (fun r σ1 => wX7_type (nI 0) (nI b) τ (fun r1 τ1 => r = r1 ∧ RR σ1 τ1)) := by
  have hO2 := hO
  obtain ⟨⟨o1, o2, o3, o4⟩, _⟩ := hO2
  obtain ⟨⟨x1, x2⟩, _⟩ := hX.1
  unfold wX6_type
  refine s_isText ?_
  rw [if_pos two0]
  refine ⟨fun z => absurd z one_ne, fun _ => ⟨fun z => absurd z (by rw [ltz, toI (by omega)]; omega), fun _ => ⟨fun _ => ⟨vp_in_nI (by omega) (by omega), ?_⟩, fun z => absurd (show nI b ≤ nI 255 by rw [i_le (by omega) (by omega)]; exact hb) z⟩⟩⟩
  simp only [cx0]
  rw [x1.1, x1.2.1, i_lt (by omega) (by omega), nI_clamp (by omega)]
  have mod : ∀ (r : Int32) (σ1 : Mem), (α 2 0 < 31 → r = nI (α 2 0 + 1) ∧ IX σ1 (un (un α 0 (α 2 0) b) 2 0 (α 2 0 + 1)) β) → (¬ α 2 0 < 31 → r = -4 ∧ IX σ1 α β) → wX7_type (nI 0) (nI b) τ (fun r1 τ1 => r = r1 ∧ RR σ1 τ1) := by
    intro r σ1 h1 h2
    unfold wX7_type
    refine s_isTwo ?_
    rw [if_pos two0]
    refine ⟨fun z => absurd z one_ne, fun _ => s_in (a := 0) (b := 255) rfl rfl ?_⟩
    rw [if_pos (b255 hb)]
    refine ⟨fun _ => ⟨vp_in_nI (by omega) (by omega), ?_⟩, fun z => absurd z one_ne⟩
    have t1 := hM.1
    obtain ⟨m0, m1, m2, m3⟩ := t1
    rw [ct0, m0, show (if nI 0 = 0 then (31 : Int32) else (24 : Int32)) = nI 31 by decide, i_eq (by omega) (by omega)]
    refine ⟨fun z => ⟨vp_in_nI (by omega) (by omega), ?_⟩, fun z => ?_⟩
    · have ea : (32 : Int32) * nI 0 + nI (α 2 0) = nI (32 * 0 + α 2 0) := by
        rw [show (32 : Int32) * nI 0 = nI (32 * 0) from pk_mul 32 0]; exact nI_add _ _
      rw [ea, nI_clamp (by omega)]
      refine ⟨vp_in_nI (by omega) (by omega), ?_⟩
      intro s1 e1
      refine ⟨vp_in_nI (by omega) (by omega), vp_in_nI (by omega) (by omega), ?_⟩
      intro s2 e2
      have q1 : s2 6 0 = nI (α 2 0 + 1) := by rw [e2, um_at, e1, um_ne _ _ _ (by omega), m0, i1]
      refine ⟨vp_in_nI (by omega) (by omega), ?_⟩
      obtain ⟨hr, hi⟩ := h1 (by omega)
      refine ⟨hr.trans q1.symm, un (un α 0 (α 2 0) b) 2 0 (α 2 0 + 1), β, ?_, hi, ?_⟩
      · refine OkA_text (fun r a1 a2 a3 => by rw [un_ne a3, un_ne (by omega)]) (fun i a1 a2 => by rw [un_nei (by omega), un_ne (by omega)]) hO ?_
        refine ⟨?_, ?_, ?_, ?_⟩
        · rw [un_at]; omega
        · rw [un_nei (by omega), un_ne (by omega)]; exact o2
        · intro i hi
          rw [un_at] at hi
          rw [un_ne (show 0 ≠ 2 by omega), un_row]
          show (if i = α 2 0 then b else α 0 i) ≤ 255
          split
          · exact hb
          · exact o3 i (by omega)
        · rw [un_nei (by omega), un_ne (show 2 ≠ 0 by omega), un_ne (show 1 ≠ 2 by omega), un_ne (show 1 ≠ 0 by omega)]; exact o4
      · refine IM_text (fun r a1 a2 a3 => by rw [un_ne a3, un_ne (by omega)]) (fun i a1 a2 => by rw [un_nei (by omega), un_ne (by omega)]) hM (fun c a1 a2 => by rw [e2, um_ne _ _ _ a2, e1, um_ne _ _ _ a1]) ?_
        refine ⟨?_, ?_, ?_, ?_⟩
        · rw [un_at]; exact q1
        · rw [un_nei (by omega), un_ne (by omega), e2, um_nei _ _ (by omega), e1, um_ne _ _ _ (by omega)]; exact m1
        · intro i hi
          rw [un_at] at hi
          rw [e2, um_ne _ _ _ (by omega), e1, um_any, un_ne (show 0 ≠ 2 by omega), un_row]
          show _ = nI (if i = α 2 0 then b else α 0 i)
          by_cases c : i = α 2 0
          · rw [if_pos c, if_pos ⟨rfl, by omega⟩]
          · rw [if_neg c, if_neg (fun y => c (by omega))]
            exact m2 i (by omega)
        · intro i hi
          rw [un_nei (by omega), un_ne (show 2 ≠ 0 by omega)] at hi
          rw [e2, um_ne _ _ _ (by omega), e1, um_nei _ _ (by omega), un_ne (show 1 ≠ 2 by omega), un_ne (show 1 ≠ 0 by omega)]
          exact m3 i hi
    · obtain ⟨hr, hi⟩ := h2 (by omega)
      exact ⟨hr, α, β, hO, hi, hM⟩
  refine ⟨fun z => ⟨vp_in_nI (by omega) (by omega), ?_⟩, fun z => mod _ _ (fun y => absurd y z) (fun _ => ⟨rfl, hX⟩)⟩
  intro s1 e1 s2 e2
  refine s_takeText0 (α := α) (α' := un (un α 0 (α 2 0) b) 2 0 (α 2 0 + 1)) (σ0 := σ) (fun r a1 a2 => by rw [un_ne a2, un_ne a1]) (fun i a1 => by rw [un_nei a1, un_ne (by omega)]) (by rw [un_at]; omega) ?_ hX.1 ?_ ?_ ?_ ?_ ?_
  · intro i hi
    rw [un_at] at hi
    rw [un_ne (show 0 ≠ 2 by omega), un_row]
    show (if i = α 2 0 then b else α 0 i) ≤ 255
    split
    · exact hb
    · exact o3 i (by omega)
  · intro c a1 a2
    rw [e2, um_ne _ _ _ a1, e1, um_ne _ _ _ (by omega)]
  · rw [e2, um_nei _ _ (by omega), e1, um_ne _ _ _ (by omega)]; exact x1.1
  · rw [e2, um_at, e1, um_ne _ _ _ (by omega), x1.2.1, i1, un_at]
  · intro i hi
    rw [un_at] at hi
    rw [e2, um_ne _ _ _ (by omega), e1, um_any, un_ne (show 0 ≠ 2 by omega), un_row]
    show _ = nI (if i = α 2 0 then b else α 0 i)
    by_cases c : i = α 2 0
    · rw [if_pos c, if_pos ⟨rfl, c⟩]
    · rw [if_neg c, if_neg (fun y => c y.2)]
      exact x1.2.2.2 i (by omega)
  · intro ρ hρ e3
    rw [un_at] at e3
    exact mod _ _ (fun _ => ⟨e3, hρ⟩) (fun y => absurd z y)
theorem L_type1 {σ τ : Mem} {α : DD} {β : Mem} {b : Nat} (hb : b ≤ 255) (hO : OkA α β) (hX : IX σ α β) (hM : IM τ α β) : wX6_type (nI 1) (nI b) σ (fun r σ1 => wX7_type (nI 1) (nI b) τ (fun r1 τ1 => r = r1 ∧ RR σ1 τ1)) := by
  have hO2 := hO
  obtain ⟨⟨o1, o2, o3, o4⟩, _⟩ := hO2
  obtain ⟨⟨x1, x2⟩, _⟩ := hX.1
  unfold wX6_type
  refine s_isText ?_
  rw [if_pos two1]
  refine ⟨fun z => absurd z one_ne, fun _ => ⟨fun z => absurd z (by rw [ltz, toI (by omega)]; omega), fun _ => ⟨fun _ => ⟨vp_in_nI (by omega) (by omega), ?_⟩, fun z => absurd (show nI b ≤ nI 255 by rw [i_le (by omega) (by omega)]; exact hb) z⟩⟩⟩
  simp only [cx1]
  rw [x2.1, x2.2.1, i_lt (by omega) (by omega), nI_clamp (by omega)]
  have mod : ∀ (r : Int32) (σ1 : Mem), (α 2 1 < 24 → r = nI (α 2 1 + 1) ∧ IX σ1 (un (un α 1 (α 2 1) b) 2 1 (α 2 1 + 1)) β) → (¬ α 2 1 < 24 → r = -4 ∧ IX σ1 α β) → wX7_type (nI 1) (nI b) τ (fun r1 τ1 => r = r1 ∧ RR σ1 τ1) := by
    intro r σ1 h1 h2
    unfold wX7_type
    refine s_isTwo ?_
    rw [if_pos two1]
    refine ⟨fun z => absurd z one_ne, fun _ => s_in (a := 0) (b := 255) rfl rfl ?_⟩
    rw [if_pos (b255 hb)]
    refine ⟨fun _ => ⟨vp_in_nI (by omega) (by omega), ?_⟩, fun z => absurd z one_ne⟩
    have t1 := hM.1
    obtain ⟨m0, m1, m2, m3⟩ := t1
    rw [ct1, m1, show (if nI 1 = 0 then (31 : Int32) else (24 : Int32)) = nI 24 by decide, i_eq (by omega) (by omega)]
    refine ⟨fun z => ⟨vp_in_nI (by omega) (by omega), ?_⟩, fun z => ?_⟩
    · have ea : (32 : Int32) * nI 1 + nI (α 2 1) = nI (32 * 1 + α 2 1) := by
        rw [show (32 : Int32) * nI 1 = nI (32 * 1) from pk_mul 32 1]; exact nI_add _ _
      rw [ea, nI_clamp (by omega)]
      refine ⟨vp_in_nI (by omega) (by omega), ?_⟩
      intro s1 e1
      refine ⟨vp_in_nI (by omega) (by omega), vp_in_nI (by omega) (by omega), ?_⟩
      intro s2 e2
      have q1 : s2 6 1 = nI (α 2 1 + 1) := by rw [e2, um_at, e1, um_ne _ _ _ (by omega), m1, i1]
      refine ⟨vp_in_nI (by omega) (by omega), ?_⟩
      obtain ⟨hr, hi⟩ := h1 (by omega)
      refine ⟨hr.trans q1.symm, un (un α 1 (α 2 1) b) 2 1 (α 2 1 + 1), β, ?_, hi, ?_⟩
      · refine OkA_text (fun r a1 a2 a3 => by rw [un_ne a3, un_ne (by omega)]) (fun i a1 a2 => by rw [un_nei (by omega), un_ne (by omega)]) hO ?_
        refine ⟨?_, ?_, ?_, ?_⟩
        · rw [un_nei (by omega), un_ne (by omega)]; exact o1
        · rw [un_at]; omega
        · rw [un_nei (by omega), un_ne (show 2 ≠ 1 by omega), un_ne (show 0 ≠ 2 by omega), un_ne (show 0 ≠ 1 by omega)]; exact o3
        · intro i hi
          rw [un_at] at hi
          rw [un_ne (show 1 ≠ 2 by omega), un_row]
          show (if i = α 2 1 then b else α 1 i) ≤ 255
          split
          · exact hb
          · exact o4 i (by omega)
      · refine IM_text (fun r a1 a2 a3 => by rw [un_ne a3, un_ne (by omega)]) (fun i a1 a2 => by rw [un_nei (by omega), un_ne (by omega)]) hM (fun c a1 a2 => by rw [e2, um_ne _ _ _ a2, e1, um_ne _ _ _ a1]) ?_
        refine ⟨?_, ?_, ?_, ?_⟩
        · rw [un_nei (by omega), un_ne (by omega), e2, um_nei _ _ (by omega), e1, um_ne _ _ _ (by omega)]; exact m0
        · rw [un_at]; exact q1
        · intro i hi
          rw [un_nei (by omega), un_ne (show 2 ≠ 1 by omega)] at hi
          rw [e2, um_ne _ _ _ (by omega), e1, um_nei _ _ (by omega), un_ne (show 0 ≠ 2 by omega), un_ne (show 0 ≠ 1 by omega)]
          exact m2 i hi
        · intro i hi
          rw [un_at] at hi
          rw [e2, um_ne _ _ _ (by omega), e1, um_any, un_ne (show 1 ≠ 2 by omega), un_row]
          show _ = nI (if i = α 2 1 then b else α 1 i)
          by_cases c : i = α 2 1
          · rw [if_pos c, if_pos ⟨rfl, by omega⟩]
          · rw [if_neg c, if_neg (fun y => c (by omega))]
            exact m3 i (by omega)
    · obtain ⟨hr, hi⟩ := h2 (by omega)
      exact ⟨hr, α, β, hO, hi, hM⟩
  refine ⟨fun z => ⟨vp_in_nI (by omega) (by omega), ?_⟩, fun z => mod _ _ (fun y => absurd y z) (fun _ => ⟨rfl, hX⟩)⟩
  intro s1 e1 s2 e2
  refine s_takeText1 (α := α) (α' := un (un α 1 (α 2 1) b) 2 1 (α 2 1 + 1)) (σ0 := σ) (fun r a1 a2 => by rw [un_ne a2, un_ne a1]) (fun i a1 => by rw [un_nei a1, un_ne (by omega)]) (by rw [un_at]; omega) ?_ hX.1 ?_ ?_ ?_ ?_ ?_
  · intro i hi
    rw [un_at] at hi
    rw [un_ne (show 1 ≠ 2 by omega), un_row]
    show (if i = α 2 1 then b else α 1 i) ≤ 255
    split
    · exact hb
    · exact o4 i (by omega)
  · intro c a1 a2
    rw [e2, um_ne _ _ _ a1, e1, um_ne _ _ _ (by omega)]
  · rw [e2, um_nei _ _ (by omega), e1, um_ne _ _ _ (by omega)]; exact x2.1
  · rw [e2, um_at, e1, um_ne _ _ _ (by omega), x2.2.1, i1, un_at]
  · intro i hi
    rw [un_at] at hi
    rw [e2, um_ne _ _ _ (by omega), e1, um_any, un_ne (show 1 ≠ 2 by omega), un_row]
    show _ = nI (if i = α 2 1 then b else α 1 i)
    by_cases c : i = α 2 1
    · rw [if_pos c, if_pos ⟨rfl, c⟩]
    · rw [if_neg c, if_neg (fun y => c y.2)]
      exact x2.2.2.2 i (by omega)
  · intro ρ hρ e3
    rw [un_at] at e3
    exact mod _ _ (fun _ => ⟨e3, hρ⟩) (fun y => absurd z y)
theorem L0 : okL_0 RR := by
  intro σ τ a1 a2 ⟨α, β, hO, hX, hM⟩
  by_cases g1 : (0 ≤ a1.toInt ∧ a1.toInt ≤ 1)
  · by_cases g2 : (0 ≤ a2.toInt ∧ a2.toInt ≤ 255)
    · obtain ⟨b, hb, rfl⟩ := nat_of g2.1 (n := 255) g2.2 (by omega)
      rcases two_of g1 with rfl | rfl
      · exact L_type0 hb hO hX hM
      · exact L_type1 hb hO hX hM
    · have bad : wX7_type a1 a2 τ (fun r1 τ1 => -2 = r1 ∧ RR σ τ1) := by
        unfold wX7_type
        refine s_isTwo ?_
        rw [if_pos g1]
        refine ⟨fun z => absurd z one_ne, fun _ => s_in (a := 0) (b := 255) rfl rfl ?_⟩
        rw [if_neg g2]
        exact ⟨fun z => absurd rfl z, fun _ => ⟨rfl, α, β, hO, hX, hM⟩⟩
      unfold wX6_type
      refine s_isText ?_
      rw [if_pos g1]
      refine ⟨fun z => absurd z one_ne, fun _ => ⟨fun z => bad, fun y => ⟨fun x => ?_, fun _ => bad⟩⟩⟩
      rw [ltz] at y
      rw [show (a2 ≤ (255 : Int32)) = (a2.toInt ≤ 255) from lek a2 (k := 255) (by omega)] at x
      exact absurd ⟨by omega, x⟩ g2
  · unfold wX6_type
    refine s_isText ?_
    rw [if_neg g1]
    refine ⟨fun _ => ?_, fun z => absurd rfl z⟩
    unfold wX7_type
    refine s_isTwo ?_
    rw [if_neg g1]
    exact ⟨fun _ => ⟨rfl, α, β, hO, hX, hM⟩, fun z => absurd rfl z⟩
