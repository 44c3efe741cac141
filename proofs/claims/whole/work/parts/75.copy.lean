theorem L35 : okL_35 RR := by
  intro σ τ a1 a2 a3 a4 a5 ⟨α, β, hO, hX, hM⟩
  unfold wX6_copy
  refine s_isSheetX ?_
  by_cases g1 : (0 ≤ a1.toInt ∧ a1.toInt ≤ 3)
  · rw [if_pos g1]
    refine ⟨fun z => absurd z one_ne, fun _ => s_isSheetX ?_⟩
    by_cases g2 : (0 ≤ a3.toInt ∧ a3.toInt ≤ 3)
    · rw [if_pos g2]
      refine ⟨fun _ => ?_, fun z => absurd z one_ne⟩
      obtain ⟨s, hs, rfl⟩ := nat_of g1.1 (n := 3) g1.2 (by omega)
      obtain ⟨t, ht, rfl⟩ := nat_of g2.1 (n := 3) g2.2 (by omega)
      have hs4 : s < 4 := by omega
      have ht4 : t < 4 := by omega
      have s60 := (hO.2.2.2.2 s hs4).1
      have t60 := (hO.2.2.2.2 t ht4).1
      obtain ⟨x1, x2, x3⟩ := hX.1.2.2.2.2.2.1 s hs4
      obtain ⟨y1, y2, y3⟩ := hX.1.2.2.2.2.2.1 t ht4
      obtain ⟨m1, m2, m3⟩ := hM.2.2.2.2.2.1 s hs4
      obtain ⟨n1, n2, n3⟩ := hM.2.2.2.2.2.1 t ht4
      have ls := lost_of hO hs4
      have lt := lost_of hO ht4
      have ls' : (β 4 s < 0) = (β 4 s = -1) := by
        have : (β 4 s < 0) = ¬ (0 ≤ β 4 s) := by rw [ltz, lez]; apply propext; omega
        rw [this, ls, Decidable.not_not]
      have mod : ∀ (Q : Int32 → Mem → Prop), (β 4 s = -1 ∨ β 4 t = -1 → wX7_finds (1 : Int32) τ (fun r σ1 => Q r σ1)) → (¬ (β 4 s = -1 ∨ β 4 t = -1) → ¬ β 4 s = β 4 t → wX7_finds (4 : Int32) τ (fun r σ1 => Q r σ1)) → (¬ (β 4 s = -1 ∨ β 4 t = -1) → β 4 s = β 4 t → ¬ (holdsA (α 8 s) a2 a5 = true ∧ holdsA (α 8 t) a4 a5 = true) → wX7_finds (2 : Int32) τ (fun r σ1 => Q r σ1)) → (¬ (β 4 s = -1 ∨ β 4 t = -1) → β 4 s = β 4 t → (holdsA (α 8 s) a2 a5 = true ∧ holdsA (α 8 t) a4 a5 = true) → ∃ N, wX7_copy_120 Q N (nI s) a2 (nI t) a4 a5 (0 : Int32) τ) → wX7_copy (nI s) a2 (nI t) a4 a5 τ Q := by
        intro Q h1 h2 h3 h4
        have hv : (holdsA (α 8 s) a2 a5 = true ∧ holdsA (α 8 t) a4 a5 = true) = ((0 ≤ a2.toInt ∧ 0 ≤ a5.toInt ∧ a2.toInt + a5.toInt ≤ α 8 s) ∧ (0 ≤ a4.toInt ∧ 0 ≤ a5.toInt ∧ a4.toInt + a5.toInt ≤ α 8 t)) := by simp [holdsA]
        unfold wX7_copy
        refine s_isSheetM ?_
        rw [if_pos g1]
        refine ⟨fun z => absurd z one_ne, fun _ => s_isSheetM ?_⟩
        rw [if_pos g2]
        refine ⟨fun _ => ⟨vp_in_nI (by omega) (by omega), ?_⟩, fun z => absurd z one_ne⟩
        rw [nI_clamp (show s < 2 ^ 31 by omega), nI_clamp (show t < 2 ^ 31 by omega), m1, n1, m2, n2, ls', lt, ltz, ltz, ltz, Int64.lt_iff_toInt_lt, Int64.le_iff_toInt_le, i64add, i64add, Int32.toInt_toInt64, Int32.toInt_toInt64, toI (show α 8 s < 2 ^ 31 by omega), toI (show α 8 t < 2 ^ 31 by omega)]
        refine ⟨fun z => h1 (Or.inl z), fun z => ⟨vp_in_nI (by omega) (by omega), fun y => ⟨vp_in_nI (by omega) (by omega), vp_in_nI (by omega) (by omega), fun w => ?_, fun w => h2 (by rintro (v | v); exact z v; exact y v) w⟩, fun y => h1 (Or.inr (Decidable.not_not.mp y))⟩⟩
        have nl : ¬ (β 4 s = -1 ∨ β 4 t = -1) := by rintro (v | v); exact z v; exact y v
        refine ⟨fun v => h3 nl w (by rw [hv]; omega), fun v => ⟨fun u => h3 nl w (by rw [hv]; omega), fun u => ⟨fun k => h3 nl w (by rw [hv]; omega), fun k => ⟨vp_in_nI (by omega) (by omega), fun j => h3 nl w (by rw [hv]; omega), fun j => ⟨vp_in_nI (by omega) (by omega), fun i => h4 nl w (by rw [hv]; omega), fun i => h3 nl w (by rw [hv]; omega)⟩⟩⟩⟩⟩
      rw [nI_clamp (show s < 2 ^ 31 by omega), nI_clamp (show t < 2 ^ 31 by omega), x1, y1]
      have lose : (β 4 s = -1 ∨ β 4 t = -1) → wX6_found (1 : Int32) σ (fun r53 σ53 => wX7_copy (nI s) a2 (nI t) a4 a5 τ (fun r1 τ1 => r53 = r1 ∧ RR σ53 τ1)) := fun l => s_found hX (fun ρ hρ => mod _ (fun _ => s_finds hM (fun ω hω => ⟨rfl, _, _, OkA_found hO, hρ, hω⟩)) (fun z => absurd l z) (fun z => absurd l z) (fun z => absurd l z))
      refine ⟨vp_in_nI (by omega) (by omega), vp_in_nI (by omega) (by omega), fun z => lose (Or.inl z), fun z => ⟨fun y => ⟨fun w => ?_, fun w => ?_⟩, fun y => lose (Or.inr y)⟩⟩
      · have nl : ¬ (β 4 s = -1 ∨ β 4 t = -1) := by rintro (v | v); exact z v; exact y v
        have out : ¬ (holdsA (α 8 s) a2 a5 = true ∧ holdsA (α 8 t) a4 a5 = true) → wX6_found (2 : Int32) σ (fun r53 σ53 => wX7_copy (nI s) a2 (nI t) a4 a5 τ (fun r1 τ1 => r53 = r1 ∧ RR σ53 τ1)) := fun l => s_found hX (fun ρ hρ => mod _ (fun z => absurd z nl) (fun _ z => absurd w z) (fun _ _ _ => s_finds hM (fun ω hω => ⟨rfl, _, _, OkA_found hO, hρ, hω⟩)) (fun _ _ z => absurd z l))
        refine s_holds x2 s60 ?_
        by_cases c1 : holdsA (α 8 s) a2 a5 = true
        · rw [if_pos c1]
          refine ⟨fun v => absurd v one_ne, fun _ => s_holds y2 t60 ?_⟩
          by_cases c2 : holdsA (α 8 t) a4 a5 = true
          · rw [if_pos c2]
            refine ⟨fun _ => ?_, fun v => absurd v one_ne⟩
            have hc : holdsA (α 8 s) a2 a5 = true ∧ holdsA (α 8 t) a4 a5 = true := ⟨c1, c2⟩
            simp only [holdsA, decide_eq_true_eq] at c1 c2
            obtain ⟨i, hi, rfl⟩ := nat_of c1.1 (n := 60) (by omega) (by omega)
            obtain ⟨j, hj, rfl⟩ := nat_of c2.1 (n := 60) (by omega) (by omega)
            obtain ⟨n, hn, rfl⟩ := nat_of c1.2.1 (n := 60) (by omega) (by omega)
            rw [toI (by omega), toI (by omega)] at c1 c2
            rw [nI_clamp (show i < 2 ^ 31 by omega), nI_clamp (show j < 2 ^ 31 by omega), nI_clamp (show n < 2 ^ 31 by omega)]
            refine ⟨?_, ?_⟩
            · unfold cpOk
              rw [ltz, ltz, ltz, toI (by omega), toI (by omega), toI (by omega), nI_clamp (show i < 2 ^ 31 by omega), nI_clamp (show j < 2 ^ 31 by omega), nI_clamp (show n < 2 ^ 31 by omega)]
              omega
            · intro s1 e1
              subst e1
              refine mod _ (fun z => absurd z nl) (fun _ z => absurd w z) (fun _ _ z => absurd hc z) (fun _ _ _ => s_copyM hs4 ht4 hO hM (by omega) (by omega) (fun ρ hρ => ⟨rfl, α, _, OkA_copy ht4 hO, IX_copy hs4 ht4 hO hX (by omega) (by omega), hρ⟩))
          · rw [if_neg c2]
            exact ⟨fun v => absurd rfl v, fun _ => out (fun v => c2 v.2)⟩
        · rw [if_neg c1]
          exact ⟨fun _ => out (fun v => c1 v.1), fun v => absurd rfl v⟩
      · have nl : ¬ (β 4 s = -1 ∨ β 4 t = -1) := by rintro (v | v); exact z v; exact y v
        exact s_found hX (fun ρ hρ => mod _ (fun z => absurd z nl) (fun _ _ => s_finds hM (fun ω hω => ⟨rfl, _, _, OkA_found hO, hρ, hω⟩)) (fun _ z => absurd z w) (fun _ z => absurd z w))
    · rw [if_neg g2]
      refine ⟨fun z => absurd rfl z, fun _ => ?_⟩
      unfold wX7_copy
      refine s_isSheetM ?_
      rw [if_pos g1]
      refine ⟨fun z => absurd z one_ne, fun _ => s_isSheetM ?_⟩
      rw [if_neg g2]
      exact ⟨fun z => absurd rfl z, fun _ => ⟨rfl, α, β, hO, hX, hM⟩⟩
  · rw [if_neg g1]
    refine ⟨fun _ => ?_, fun z => absurd rfl z⟩
    unfold wX7_copy
    refine s_isSheetM ?_
    rw [if_neg g1]
    exact ⟨fun _ => ⟨rfl, α, β, hO, hX, hM⟩, fun z => absurd rfl z⟩
