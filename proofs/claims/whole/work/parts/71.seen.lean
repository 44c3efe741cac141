def SameD (α α' : DD) : Prop := (α' 0 = α 0 ∧ α' 1 = α 1 ∧ α' 3 = α 3 ∧ α' 4 = α 4 ∧ α' 5 = α 5) ∧ α' 2 0 = α 2 0 ∧ α' 2 1 = α 2 1 ∧ α' 2 2 = α 2 2 ∧ α' 2 3 = α 2 3
theorem IX_out {σ τ : Mem} {α α' : DD} {β β' : Mem} (hS : SameD α α') (hX : IX σ α β) (cc : ∀ c, c ≠ 0 → (c < 50 ∨ 61 < c) → τ c = σ c) (c0 : ∀ j, j ≠ 14 → τ 0 j = σ 0 j) (h1 : SEX τ α') (h2 : SHX τ α' β') (h3 : τ 0 14 = β' 5 0) : IX τ α' β' := by
  obtain ⟨⟨q0, q1, q3, q4, q5⟩, r0, r1, r2, r3⟩ := hS
  have eI : iA α' = iA α := iA_cong q0 r0 q1 r1 r2
  have eB : bkS α' = bkS α := by unfold bkS; rw [q3, q4, q5, r3]
  have eA : bkA α' = bkA α := by unfold bkA; rw [eB]
  obtain ⟨⟨t, e, k, c, s, z, l⟩, c1, c2, c3⟩ := hX
  refine ⟨⟨?_, ?_, ?_, ?_, h1, h2, h3⟩, ?_, ?_, ?_⟩
  · unfold TXX; rw [cc 2 (by omega) (by omega), cc 3 (by omega) (by omega), cc 4 (by omega) (by omega), cc 5 (by omega) (by omega), q0, q1, r0, r1, flt0_cong q0 r0, flt1_cong q1 r1]; exact t
  · unfold EVX; rw [cc 6 (by omega) (by omega), cc 7 (by omega) (by omega), cc 8 (by omega) (by omega), cc 9 (by omega) (by omega), r3, q3, q4, q5]; exact e
  · rw [eI, r3]; unfold SKX; rw [cc 10 (by omega) (by omega), cc (10 + 1) (by omega) (by omega), cc (10 + 2) (by omega) (by omega), cc (10 + 4) (by omega) (by omega)]; exact k
  · unfold COX; rw [cc 13 (by omega) (by omega), nDa_cong q0 r0, q0]; exact c
  · rw [c0 11 (by omega), eI, eA]
    rcases c1 with c1 | c1
    · exact Or.inl c1
    · exact Or.inr (DOK_same c1 (fun c h => cc c (by omega) (by omega)))
  · rw [c0 12 (by omega), cc 63 (by omega) (by omega), eI, eA]; exact c2
  · rw [c0 13 (by omega), cc 62 (by omega) (by omega), eI, eB]; exact c3
theorem IM_out {σ τ : Mem} {α α' : DD} {β β' : Mem} (hS : SameD α α') (hM : IM σ α β) (cc : ∀ c, (c = 5 ∨ c = 6 ∨ c = 9) → τ c = σ c) (c0 : ∀ j, (j = 11 ∨ j = 12 ∨ j = 14) → τ 0 j = σ 0 j) (h1 : SEM τ α') (h2 : SHM τ α' β') (h3 : τ 0 4 = β' 5 0) : IM τ α' β' := by
  obtain ⟨⟨q0, q1, q3, q4, q5⟩, r0, r1, r2, r3⟩ := hS
  obtain ⟨t, l, e, g, s, z, f⟩ := hM
  refine ⟨?_, ?_, ?_, ?_, h1, h2, h3⟩
  · unfold TXM; rw [cc 6 (by omega), cc 5 (by omega), r0, r1, q0, q1]; exact t
  · rw [c0 11 (by omega), r2]; exact l
  · unfold EVM; rw [cc 9 (by omega), c0 12 (by omega), r3, q3, q4, q5]; exact e
  · rw [c0 14 (by omega)]; exact g
theorem OkA_out {α α' : DD} {β β' : Mem} (hS : SameD α α') (hO : OkA α β) (h1 : α' 2 4 ≤ 8 ∧ ∀ j, j < α' 2 4 → α' 6 j < 24 ∧ α' 7 j ≤ 120) (h2 : ∀ s, s < 4 → α' 8 s ≤ 60 ∧ (β' 4 s = -1 ∨ ∃ f, f ≤ 2 ∧ β' 4 s = nI f)) : OkA α' β' := by
  obtain ⟨⟨q0, q1, q3, q4, q5⟩, r0, r1, r2, r3⟩ := hS
  obtain ⟨o1, o2, o3, o4, o5⟩ := hO
  refine ⟨?_, ?_, ?_, h1, h2⟩
  · rw [r0, r1, q0, q1]; exact o1
  · rw [r2]; exact o2
  · rw [r3, q3, q4, q5]; exact o3
def seA (α : DD) (b m : Nat) : DD := un (un (un α 6 (α 2 4) b) 7 (α 2 4) m) 2 4 (α 2 4 + 1)
theorem seA_o {α : DD} {b m r : Nat} (h2 : r ≠ 2) (h6 : r ≠ 6) (h7 : r ≠ 7) : seA α b m r = α r := by
  unfold seA; rw [un_ne h2, un_ne h7, un_ne h6]
theorem seA_2 {α : DD} {b m i : Nat} (h : i ≠ 4) : seA α b m 2 i = α 2 i := by
  unfold seA; rw [un_nei h, un_ne (by omega), un_ne (by omega)]
theorem seA_24 {α : DD} {b m : Nat} : seA α b m 2 4 = α 2 4 + 1 := by unfold seA; rw [un_at]
theorem seA_6 {α : DD} {b m e : Nat} : seA α b m 6 e = if e = α 2 4 then b else α 6 e := by
  unfold seA; rw [un_ne (by omega), un_ne (by omega), un_row]
theorem seA_7 {α : DD} {b m e : Nat} : seA α b m 7 e = if e = α 2 4 then m else α 7 e := by
  unfold seA; rw [un_ne (by omega), un_row, un_ne (show 7 ≠ 6 by omega)]
theorem seA_S {α : DD} {b m : Nat} : SameD α (seA α b m) := ⟨⟨seA_o (by omega) (by omega) (by omega), seA_o (by omega) (by omega) (by omega), seA_o (by omega) (by omega) (by omega), seA_o (by omega) (by omega) (by omega), seA_o (by omega) (by omega) (by omega)⟩, seA_2 (by omega), seA_2 (by omega), seA_2 (by omega), seA_2 (by omega)⟩
theorem L23 : okL_23 RR := by
  intro σ τ a1 a2 ⟨α, β, hO, hX, hM⟩
  have h8 : α 2 4 ≤ 8 := hO.2.2.2.1.1
  have hm : σ 50 2 = nI (α 2 4) := hX.1.2.2.2.2.1.1
  have hn : τ 0 33 = nI (α 2 4) := hM.2.2.2.2.1.1
  have badm : ∀ r : Int32, r = -2 → ¬ ((0 ≤ a1.toInt ∧ a1.toInt ≤ 23) ∧ (0 ≤ a2.toInt ∧ a2.toInt ≤ 120)) → wX7_seen a1 a2 τ (fun r1 τ1 => r = r1 ∧ RR σ τ1) := fun r hr g => by
    unfold wX7_seen
    refine s_isBeatM ?_
    by_cases g1 : (0 ≤ a1.toInt ∧ a1.toInt ≤ 23)
    · rw [if_pos g1]
      refine ⟨fun z => absurd z one_ne, fun _ => s_in (a := 0) (b := 120) rfl rfl ?_⟩
      rw [if_neg (fun z => g ⟨g1, z⟩)]
      exact ⟨fun z => absurd rfl z, fun _ => ⟨hr, α, β, hO, hX, hM⟩⟩
    · rw [if_neg g1]
      exact ⟨fun _ => ⟨hr, α, β, hO, hX, hM⟩, fun z => absurd rfl z⟩
  unfold wX6_seen
  refine s_isBeatX ?_
  by_cases g1 : (0 ≤ a1.toInt ∧ a1.toInt ≤ 23)
  · rw [if_pos g1]
    refine ⟨fun z => absurd z one_ne, fun _ => ?_⟩
    rw [ltz, show (a2 ≤ (120 : Int32)) = (a2.toInt ≤ 120) from lek a2 (k := 120) (by omega)]
    refine ⟨fun z => badm _ rfl (by omega), fun z => ⟨fun y => ?_, fun y => badm _ rfl (by omega)⟩⟩
    have g2 : (0 ≤ a2.toInt ∧ a2.toInt ≤ 120) := ⟨by omega, y⟩
    obtain ⟨b, hb, rfl⟩ := nat_of g1.1 (n := 23) g1.2 (by omega)
    obtain ⟨m, hm1, rfl⟩ := nat_of g2.1 (n := 120) g2.2 (by omega)
    have mod : ∀ (r : Int32) (σ1 : Mem), (α 2 4 < 8 → r = nI (α 2 4 + 1) ∧ IX σ1 (seA α b m) β) → (¬ α 2 4 < 8 → r = -4 ∧ IX σ1 α β) → wX7_seen (nI b) (nI m) τ (fun r1 τ1 => r = r1 ∧ RR σ1 τ1) := by
      intro r σ1 h1 h2
      unfold wX7_seen
      refine s_isBeatM ?_
      rw [if_pos g1]
      refine ⟨fun z => absurd z one_ne, fun _ => s_in (a := 0) (b := 120) rfl rfl ?_⟩
      rw [if_pos g2]
      refine ⟨fun _ => ?_, fun z => absurd z one_ne⟩
      rw [hn, i_eq8 (by omega)]
      refine ⟨fun z => ?_, fun z => ?_⟩
      · rw [show (2 : Int32) * nI (α 2 4) = nI (2 * α 2 4) from pk_mul 2 _, nI_clamp (by omega)]
        refine ⟨vp_in_nI (by omega) (by omega), ?_⟩
        intro s1 f1
        have p1 : s1 0 33 = nI (α 2 4) := by rw [f1, um_ne _ _ _ (by omega), hn]
        rw [p1, show (2 : Int32) * nI (α 2 4) = nI (2 * α 2 4) from pk_mul 2 _, i1, nI_clamp (by omega)]
        refine ⟨vp_in_nI (by omega) (by omega), ?_⟩
        intro s2 f2
        have p2 : s2 0 33 = nI (α 2 4) := by rw [f2, um_ne _ _ _ (by omega), p1]
        rw [p2, i1]
        intro s3 f3
        obtain ⟨hr, hi⟩ := h1 (by omega)
        have p3 : s3 0 33 = nI (α 2 4 + 1) := by rw [f3, um_at]
        have cc : ∀ c, c ≠ 0 → c ≠ 23 → s3 c = τ c := fun c a1 a2 => by rw [f3, um_ne _ _ _ a1, f2, um_ne _ _ _ a2, f1, um_ne _ _ _ a2]
        have c0 : ∀ j, j ≠ 33 → s3 0 j = τ 0 j := fun j a1 => by rw [f3, um_nei _ _ a1, f2, um_ne _ _ _ (by omega), f1, um_ne _ _ _ (by omega)]
        refine ⟨hr.trans p3.symm, seA α b m, β, OkA_out seA_S hO ⟨by rw [seA_24]; omega, fun j hj => ?_⟩ ?_, hi, IM_out seA_S hM (fun c h => cc c (by omega) (by omega)) (fun j h => c0 j (by omega)) ⟨by rw [p3, seA_24], fun j hj => ?_⟩ ?_ (by rw [c0 4 (by omega)]; exact hM.2.2.2.2.2.2)⟩
        · rw [seA_24] at hj
          rw [seA_6, seA_7]
          by_cases c : j = α 2 4
          · rw [if_pos c, if_pos c]; omega
          · rw [if_neg c, if_neg c]; exact hO.2.2.2.1.2 j (by omega)
        · rw [seA_o (by omega) (by omega) (by omega)]; exact hO.2.2.2.2
        · rw [seA_24] at hj
          rw [seA_6, seA_7]
          have r9 : ∀ i, s3 23 i = if i = 2 * α 2 4 + 1 then nI m else if i = 2 * α 2 4 then nI b else τ 23 i := fun i => by
            rw [f3, um_ne _ _ _ (by omega), f2, um_any, f1, um_any]
            simp
          rw [r9, r9]
          by_cases c : j = α 2 4
          · subst c
            rw [if_neg (show ¬ 2 * α 2 4 = 2 * α 2 4 + 1 by omega), if_pos rfl, if_pos rfl, if_pos rfl, if_pos rfl]
            exact ⟨rfl, rfl⟩
          · rw [if_neg (show ¬ 2 * j = 2 * α 2 4 + 1 by omega), if_neg (show ¬ 2 * j = 2 * α 2 4 by omega), if_neg (show ¬ 2 * j + 1 = 2 * α 2 4 + 1 by omega), if_neg (show ¬ 2 * j + 1 = 2 * α 2 4 by omega), if_neg c, if_neg c]
            exact hM.2.2.2.2.1.2 j (by omega)
        · unfold SHM
          rw [cc 1 (by omega) (by omega), cc 2 (by omega) (by omega), cc 3 (by omega) (by omega), seA_o (by omega) (by omega) (by omega)]
          exact hM.2.2.2.2.2.1
      · obtain ⟨hr, hi⟩ := h2 (by omega)
        exact ⟨hr, α, β, hO, hi, hM⟩
    rw [hm, i_lt8 (by omega)]
    refine ⟨fun w => ?_, fun w => mod _ _ (fun y => absurd y w) (fun _ => ⟨rfl, hX⟩)⟩
    unfold wX2_put
    rw [hm, nI_clamp (by omega)]
    refine ⟨vp_in_nI (by omega) (by omega), ?_⟩
    intro s1 f1
    have p1 : s1 50 2 = nI (α 2 4) := by rw [f1, um_ne _ _ _ (by omega), hm]
    rw [p1, nI_clamp (by omega)]
    refine ⟨vp_in_nI (by omega) (by omega), ?_⟩
    intro s2 f2
    have p2 : s2 50 2 = nI (α 2 4) := by rw [f2, um_ne _ _ _ (by omega), p1]
    rw [p2, i1]
    intro s3 f3
    have p3 : s3 50 2 = nI (α 2 4 + 1) := by rw [f3, um_at]
    have cc : ∀ c, c ≠ 50 → c ≠ 51 → c ≠ 52 → s3 c = σ c := fun c a1 a2 a3 => by rw [f3, um_ne _ _ _ a1, f2, um_ne _ _ _ a3, f1, um_ne _ _ _ a2]
    refine mod _ _ (fun _ => ⟨p3, IX_out seA_S hX (fun c a1 a2 => cc c (by omega) (by omega) (by omega)) (fun j _ => by rw [cc 0 (by omega) (by omega) (by omega)]) ⟨by rw [p3, seA_24], fun j hj => ?_⟩ (fun i hi => ?_) (by rw [cc 0 (by omega) (by omega) (by omega)]; exact hX.1.2.2.2.2.2.2)⟩) (fun y => absurd w y)
    · rw [seA_24] at hj
      rw [seA_6, seA_7]
      have r1 : s3 51 j = if j = α 2 4 then nI b else σ 51 j := by
        rw [f3, um_ne _ _ _ (by omega), f2, um_ne _ _ _ (by omega), f1, um_any]
        simp
      have r2 : s3 52 j = if j = α 2 4 then nI m else σ 52 j := by
        rw [f3, um_ne _ _ _ (by omega), f2, um_any, f1, um_ne _ _ _ (by omega)]
        simp
      rw [r1, r2]
      by_cases c : j = α 2 4
      · rw [if_pos c, if_pos c, if_pos c, if_pos c]; exact ⟨rfl, rfl⟩
      · simp only [if_neg c]; exact hX.1.2.2.2.2.1.2 j (by omega)
    · rw [cc (54 + 2 * i) (by omega) (by omega) (by omega), cc (54 + 2 * i + 1) (by omega) (by omega) (by omega), seA_o (by omega) (by omega) (by omega)]
      exact hX.1.2.2.2.2.2.1 i hi
  · rw [if_neg g1]
    exact ⟨fun _ => badm _ rfl (fun z => g1 z.1), fun z => absurd rfl z⟩
theorem un24_S {α : DD} {n : Nat} : SameD α (un α 2 4 n) := ⟨⟨un_ne (by omega), un_ne (by omega), un_ne (by omega), un_ne (by omega), un_ne (by omega)⟩, un_nei (by omega), un_nei (by omega), un_nei (by omega), un_nei (by omega)⟩
theorem L24 : okL_24 RR := by
  intro σ τ ⟨α, β, hO, hX, hM⟩
  unfold wX6_forget
  intro x hx s1 e1
  unfold wX7_forget
  intro y hy t1 f1
  refine ⟨by rw [hx, hy, hX.1.2.2.2.2.1.1, hM.2.2.2.2.1.1], un α 2 4 0, β, OkA_out un24_S hO ⟨by rw [un_at]; omega, fun j hj => ?_⟩ ?_, IX_out un24_S hX (fun c a1 a2 => by rw [e1, um_ne _ _ _ (by omega)]) (fun j _ => by rw [e1, um_ne _ _ _ (by omega)]) ⟨by rw [e1, um_at, un_at]; rfl, fun j hj => ?_⟩ (fun i hi => ?_) ?_, IM_out un24_S hM (fun c h => by rw [f1, um_ne _ _ _ (by omega)]) (fun j h => by rw [f1, um_nei _ _ (by omega)]) ⟨by rw [f1, um_at, un_at]; rfl, fun j hj => ?_⟩ ?_ ?_⟩
  · rw [un_at] at hj; omega
  · rw [un_ne (by omega)]; exact hO.2.2.2.2
  · rw [un_at] at hj; omega
  · rw [e1, um_ne _ _ _ (by omega), um_ne _ _ _ (by omega), un_ne (by omega)]; exact hX.1.2.2.2.2.2.1 i hi
  · rw [e1, um_ne _ _ _ (by omega)]; exact hX.1.2.2.2.2.2.2
  · rw [un_at] at hj; omega
  · unfold SHM; rw [f1, um_ne _ _ _ (by omega), um_ne _ _ _ (by omega), um_ne _ _ _ (by omega), un_ne (by omega)]; exact hM.2.2.2.2.2.1
  · rw [f1, um_nei _ _ (by omega)]; exact hM.2.2.2.2.2.2
