theorem SameD_8 {α α' : DD} (h : ∀ r, r ≠ 8 → α' r = α r) : SameD α α' := by
  refine ⟨⟨h 0 (by omega), h 1 (by omega), h 3 (by omega), h 4 (by omega), h 5 (by omega)⟩, ?_, ?_, ?_, ?_⟩ <;> rw [h 2 (by omega)]
theorem IX_sh {σ τ : Mem} {α α' : DD} {β β' : Mem} (hα : ∀ r, r ≠ 8 → α' r = α r) (hX : IX σ α β) (cc : ∀ c, (c < 54 ∨ 61 < c) → τ c = σ c) (h2 : SHX τ α' β') (h3 : β' 5 0 = β 5 0) : IX τ α' β' := by
  refine IX_out (SameD_8 hα) hX (fun c a1 a2 => cc c (by omega)) (fun j _ => by rw [cc 0 (by omega)]) ?_ h2 (by rw [cc 0 (by omega), h3]; exact hX.1.2.2.2.2.2.2)
  unfold SEX
  rw [cc 50 (by omega), cc 51 (by omega), cc 52 (by omega), hα 2 (by omega), hα 6 (by omega), hα 7 (by omega)]
  exact hX.1.2.2.2.2.1
theorem IM_sh {σ τ : Mem} {α α' : DD} {β β' : Mem} (hα : ∀ r, r ≠ 8 → α' r = α r) (hM : IM σ α β) (cc : ∀ c, c ≠ 1 → c ≠ 2 → c ≠ 3 → c ≠ 4 → τ c = σ c) (h2 : SHM τ α' β') (h3 : β' 5 0 = β 5 0) : IM τ α' β' := by
  have c0 := cc 0 (by omega) (by omega) (by omega) (by omega)
  refine IM_out (SameD_8 hα) hM (fun c a1 => cc c (by omega) (by omega) (by omega) (by omega)) (fun j _ => by rw [c0]) ?_ h2 (by rw [c0, h3]; exact hM.2.2.2.2.2.2)
  unfold SEM
  rw [c0, cc 23 (by omega) (by omega) (by omega) (by omega), hα 2 (by omega), hα 6 (by omega), hα 7 (by omega)]
  exact hM.2.2.2.2.1
theorem OkA_sh {α α' : DD} {β β' : Mem} (hα : ∀ r, r ≠ 8 → α' r = α r) (hO : OkA α β) (h2 : ∀ s, s < 4 → α' 8 s ≤ 60 ∧ (β' 4 s = -1 ∨ ∃ f, f ≤ 2 ∧ β' 4 s = nI f)) : OkA α' β' := by
  refine OkA_out (SameD_8 hα) hO ?_ h2
  rw [hα 2 (by omega), hα 6 (by omega), hα 7 (by omega)]
  exact hO.2.2.2.1
def shB (β : Mem) (s : Nat) (f : Nat) : Mem := fun c i => if c = s then 0 else if (c = 4 ∧ i = s) then nI f else β c i
theorem L31 : okL_31 RR := by
  intro σ τ a1 a2 a3 ⟨α, β, hO, hX, hM⟩
  unfold wX6_sheet
  refine s_isSheetX ?_
  by_cases g1 : (0 ≤ a1.toInt ∧ a1.toInt ≤ 3)
  · rw [if_pos g1]
    refine ⟨fun z => absurd z one_ne, fun _ => s_isForm ?_⟩
    by_cases g2 : (0 ≤ a2.toInt ∧ a2.toInt ≤ 2)
    · rw [if_pos g2]
      refine ⟨fun z => absurd z one_ne, fun _ => ?_⟩
      obtain ⟨s, hs, rfl⟩ := nat_of g1.1 (n := 3) g1.2 (by omega)
      obtain ⟨f, hf, rfl⟩ := nat_of g2.1 (n := 2) g2.2 (by omega)
      have hs4 : s < 4 := by omega
      have mod : ∀ (Q : Int32 → Mem → Prop), (a3 ≤ 60 → (0 ≤ a3 → (vp_in (nI s) 4 ∧ (∀ σ44 : Mem, σ44 = um τ 1 (nI s).toNatClampNeg (nI f) → (vp_in (nI s) 4 ∧ (∀ σ51 : Mem, σ51 = um σ44 2 (nI s).toNatClampNeg a3 → (∃ N55, wX7_sheet_55 Q N55 (nI s) a3 (0 : Int32) σ51)))))) ∧ (¬ 0 ≤ a3 → wX7_finds 5 τ (fun r34 σ34 => Q r34 σ34))) → (¬ a3 ≤ 60 → Q (-2) τ) → wX7_sheet (nI s) (nI f) a3 τ Q := fun Q h1 h2 => by
        unfold wX7_sheet
        refine s_isSheetM ?_
        rw [if_pos g1]
        refine ⟨fun z => absurd z one_ne, fun _ => s_in (a := 0) (b := 2) rfl rfl ?_⟩
        rw [if_pos g2]
        exact ⟨fun z => absurd z one_ne, fun _ => ⟨h1, h2⟩⟩
      refine ⟨fun z => ⟨fun y => ?_, fun y => ?_⟩, fun z => mod _ (fun y => absurd y z) (fun _ => ⟨rfl, α, β, hO, hX, hM⟩)⟩
      · have z' := z
        have y' := y
        rw [show (a3 ≤ (60 : Int32)) = (a3.toInt ≤ 60) from lek a3 (k := 60) (by omega)] at z
        rw [lez] at y
        obtain ⟨n, hn, rfl⟩ := nat_of y (n := 60) z (by omega)
        rw [nI_clamp (by omega)]
        refine ⟨vp_in_nI (by omega) (by omega), ?_⟩
        intro s1 e1
        refine ⟨vp_in_nI (by omega) (by omega), ?_⟩
        intro s2 e2
        refine ⟨vp_in_nI (by omega) (by omega), s_fill (by omega) ?_⟩
        have X1 : IX (fillM s2 (54 + 2 * s + 1) 60 0) (un α 8 s n) (shB β s f) := by
          refine IX_sh (fun r h => un_ne h) hX (fun c h => by rw [fillM_ne _ (by omega), e2, um_ne _ _ _ (by omega), e1, um_ne _ _ _ (by omega)]) (fun q hq => ?_) (by simp [shB]; omega)
          by_cases c : q = s
          · subst c
            refine ⟨?_, ?_, fun i hi => ?_⟩
            · rw [fillM_ne _ (by omega), e2, um_nei _ _ (by omega), e1, um_at]
              unfold shB
              rw [if_neg (by omega), if_pos ⟨rfl, rfl⟩]
            · rw [fillM_ne _ (by omega), e2, um_at, un_at]
            · rw [un_at] at hi
              rw [fillM_at _ (by omega)]
              unfold shB
              rw [if_pos rfl]
          · obtain ⟨q1, q2, q3⟩ := hX.1.2.2.2.2.2.1 q hq
            refine ⟨?_, ?_, fun i hi => ?_⟩
            · rw [fillM_ne _ (by omega), e2, um_ne _ _ _ (by omega), e1, um_ne _ _ _ (by omega)]
              unfold shB
              rw [if_neg (by omega), if_neg (by omega)]
              exact q1
            · rw [fillM_ne _ (by omega), e2, um_ne _ _ _ (by omega), e1, um_ne _ _ _ (by omega), un_nei c]
              exact q2
            · rw [un_nei c] at hi
              rw [fillM_ne _ (by omega), e2, um_ne _ _ _ (by omega), e1, um_ne _ _ _ (by omega)]
              unfold shB
              rw [if_neg c, if_neg (by omega)]
              exact q3 i hi
        refine mod _ (fun _ => ⟨fun _ => ⟨vp_in_nI (by omega) (by omega), ?_⟩, fun w => absurd y' w⟩) (fun w => absurd z' w)
        rw [nI_clamp (by omega)]
        intro t1 f1
        refine ⟨vp_in_nI (by omega) (by omega), ?_⟩
        intro t2 f2
        have key := up_loop (fun N j => ∀ ω, (∀ c, c ≠ 3 → ω c = t2 c) → (∀ i, (i < 60 * s ∨ 60 * s + 60 ≤ i) → ω 3 i = t2 3 i) → (∀ i, i < j → ω 3 (60 * s + i) = 0) → wX7_sheet_55 (fun r1 τ1 => nI n = r1 ∧ RR (fillM s2 (54 + 2 * s + 1) 60 0) τ1) N (nI s) (nI n) (nI j) ω) n ?_ ?_ 0 (Nat.zero_le _)
        · obtain ⟨N, hN⟩ := key
          exact ⟨N, hN t2 (fun _ _ => rfl) (fun _ _ => rfl) (fun i hi => absurd hi (Nat.not_lt_zero _))⟩
        · intro N ω w1 w2 w3
          rw [wX7_sheet_55, i_le (by omega) (by omega)]
          refine ⟨fun _ => ⟨rfl, un α 8 s n, shB β s f, ?_, X1, ?_⟩, fun w => absurd (Nat.le_refl _) w⟩
          · refine OkA_sh (fun r h => un_ne h) hO (fun q hq => ?_)
            by_cases c : q = s
            · subst c
              rw [un_at]
              refine ⟨hn, Or.inr ⟨f, hf, ?_⟩⟩
              unfold shB
              rw [if_neg (by omega), if_pos ⟨rfl, rfl⟩]
            · rw [un_nei c]
              have : shB β s f 4 q = β 4 q := by
                unfold shB
                rw [if_neg (by omega), if_neg (by omega)]
              rw [this]
              exact hO.2.2.2.2 q hq
          · refine IM_sh (fun r h => un_ne h) hM (fun c a1 a2 a3 a4 => by rw [w1 c a3, f2, um_ne _ _ _ a2, f1, um_ne _ _ _ a1]) (fun q hq => ?_) (by simp [shB]; omega)
            rw [w1 1 (by omega), w1 2 (by omega)]
            by_cases c : q = s
            · subst c
              refine ⟨?_, ?_, fun i hi => ?_⟩
              · rw [f2, um_ne _ _ _ (by omega), f1, um_at]
                unfold shB
                rw [if_neg (by omega), if_pos ⟨rfl, rfl⟩]
              · rw [f2, um_at, un_at]
              · rw [un_at] at hi
                rw [w3 i hi]
                unfold shB
                rw [if_pos rfl]
            · obtain ⟨q1, q2, q3⟩ := hM.2.2.2.2.2.1 q hq
              have q60 := (hO.2.2.2.2 q hq).1
              refine ⟨?_, ?_, fun i hi => ?_⟩
              · rw [f2, um_ne _ _ _ (by omega), f1, um_nei _ _ c]
                unfold shB
                rw [if_neg (by omega), if_neg (by omega)]
                exact q1
              · rw [f2, um_nei _ _ c, f1, um_ne _ _ _ (by omega), un_nei c]
                exact q2
              · rw [un_nei c] at hi
                rw [w2 (60 * q + i) (by omega), f2, um_ne _ _ _ (by omega), f1, um_ne _ _ _ (by omega)]
                unfold shB
                rw [if_neg c, if_neg (by omega)]
                exact q3 i hi
        · intro N j hj ih ω w1 w2 w3
          have ea : (60 : Int32) * nI s + nI j = nI (60 * s + j) := by
            rw [show (60 : Int32) * nI s = nI (60 * s) from pk_mul 60 s]; exact nI_add _ _
          rw [wX7_sheet_55, i_le (by omega) (by omega), ea, nI_clamp (by omega), i1]
          refine ⟨fun w => absurd w (by omega), fun _ => ⟨vp_in_nI (by omega) (by omega), ?_⟩⟩
          intro ω2 h2
          refine ih ω2 (fun c hc => by rw [h2, um_ne _ _ _ hc, w1 c hc]) (fun i hi => by rw [h2, um_nei _ _ (by omega), w2 i hi]) (fun i hi => ?_)
          by_cases c : i = j
          · rw [h2, c, um_at]
          · rw [h2, um_nei _ _ (by omega), w3 i (by omega)]
      · refine s_found hX (fun ρ hρ => mod _ (fun _ => ⟨fun w => absurd w y, fun _ => s_finds hM (fun ω hω => ⟨rfl, _, _, OkA_found hO, hρ, hω⟩)⟩) (fun w => absurd z w))
    · rw [if_neg g2]
      refine ⟨fun _ => ?_, fun z => absurd rfl z⟩
      unfold wX7_sheet
      refine s_isSheetM ?_
      rw [if_pos g1]
      refine ⟨fun z => absurd z one_ne, fun _ => s_in (a := 0) (b := 2) rfl rfl ?_⟩
      rw [if_neg g2]
      exact ⟨fun _ => ⟨rfl, α, β, hO, hX, hM⟩, fun z => absurd rfl z⟩
  · rw [if_neg g1]
    refine ⟨fun _ => ?_, fun z => absurd rfl z⟩
    unfold wX7_sheet
    refine s_isSheetM ?_
    rw [if_neg g1]
    exact ⟨fun _ => ⟨rfl, α, β, hO, hX, hM⟩, fun z => absurd rfl z⟩
theorem L32 : okL_32 RR := by
  intro σ τ a1 ⟨α, β, hO, hX, hM⟩
  unfold wX6_lose
  refine s_isSheetX ?_
  by_cases g1 : (0 ≤ a1.toInt ∧ a1.toInt ≤ 3)
  · rw [if_pos g1]
    refine ⟨fun _ => ?_, fun z => absurd z one_ne⟩
    obtain ⟨s, hs, rfl⟩ := nat_of g1.1 (n := 3) g1.2 (by omega)
    have hs4 : s < 4 := by omega
    have hl := lost_of hO hs4
    have x1 := hX.1.2.2.2.2.2.1 s hs4
    have m1 := hM.2.2.2.2.2.1 s hs4
    rw [nI_clamp (by omega), x1.1]
    refine ⟨vp_in_nI (by omega) (by omega), fun z => ⟨vp_in_nI (by omega) (by omega), ?_⟩, fun z => s_found hX (fun ρ hρ => ?_)⟩
    · intro s1 e1
      refine ⟨vp_in_nI (by omega) (by omega), ?_⟩
      unfold wX7_lose
      refine s_isSheetM ?_
      rw [if_pos g1]
      refine ⟨fun _ => ?_, fun z => absurd z one_ne⟩
      rw [nI_clamp (by omega), m1.1, hl]
      refine ⟨vp_in_nI (by omega) (by omega), fun _ => ⟨vp_in_nI (by omega) (by omega), ?_⟩, fun y => absurd z y⟩
      intro t1 f1
      refine ⟨vp_in_nI (by omega) (by omega), ?_, α, um β 4 s (-1), ?_, ?_, ?_⟩
      · rw [e1, um_nei _ _ (by omega), f1, um_ne _ _ _ (by omega), x1.2.1, m1.2.1]
      · refine OkA_sh (fun r _ => rfl) hO (fun q hq => ⟨(hO.2.2.2.2 q hq).1, ?_⟩)
        by_cases c : q = s
        · subst c; exact Or.inl (um_at _ _ _ _)
        · rw [um_nei _ _ c]; exact (hO.2.2.2.2 q hq).2
      · refine IX_sh (fun r _ => rfl) hX (fun c h => by rw [e1, um_ne _ _ _ (by omega)]) (fun q hq => ?_) (by rw [um_ne _ _ _ (by omega)])
        obtain ⟨q1, q2, q3⟩ := hX.1.2.2.2.2.2.1 q hq
        refine ⟨?_, ?_, fun i hi => ?_⟩
        · by_cases c : q = s
          · subst c; rw [e1, um_at, um_at]
          · rw [e1, um_ne _ _ _ (by omega), um_nei _ _ c]; exact q1
        · rw [e1, um_any, if_neg (by omega)]; exact q2
        · rw [e1, um_ne _ _ _ (by omega), um_ne _ _ _ (by omega)]; exact q3 i hi
      · refine IM_sh (fun r _ => rfl) hM (fun c a1 a2 a3 a4 => by rw [f1, um_ne _ _ _ a1]) (fun q hq => ?_) (by rw [um_ne _ _ _ (by omega)])
        obtain ⟨q1, q2, q3⟩ := hM.2.2.2.2.2.1 q hq
        refine ⟨?_, ?_, fun i hi => ?_⟩
        · by_cases c : q = s
          · subst c; rw [f1, um_at, um_at]
          · rw [f1, um_nei _ _ c, um_nei _ _ c]; exact q1
        · rw [f1, um_ne _ _ _ (by omega)]; exact q2
        · rw [f1, um_ne _ _ _ (by omega), um_ne _ _ _ (by omega)]; exact q3 i hi
    · unfold wX7_lose
      refine s_isSheetM ?_
      rw [if_pos g1]
      refine ⟨fun _ => ?_, fun z => absurd z one_ne⟩
      rw [nI_clamp (by omega), m1.1, hl]
      exact ⟨vp_in_nI (by omega) (by omega), fun y => absurd z y, fun _ => s_finds hM (fun ω hω => ⟨rfl, _, _, OkA_found hO, hρ, hω⟩)⟩
  · rw [if_neg g1]
    refine ⟨fun z => absurd rfl z, fun _ => ?_⟩
    unfold wX7_lose
    refine s_isSheetM ?_
    rw [if_neg g1]
    exact ⟨fun z => absurd rfl z, fun _ => ⟨rfl, α, β, hO, hX, hM⟩⟩
