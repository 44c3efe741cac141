theorem okB_0 {B : Nat → Nat} {i : Nat} (h : i % 4 = 0) : okB B i = (decide (97 ≤ B i) && decide (B i ≤ 108) && !(anyN (fun j => B (4 * j) - 97 == B i - 97) (i / 4))) := by unfold okB; rw [if_pos h]
theorem okB_1 {B : Nat → Nat} {i : Nat} (h : i % 4 = 1) : okB B i = (B i == 114 || B i == 108) := by unfold okB; rw [if_neg (show ¬ i % 4 = 0 by omega), if_pos h]
theorem okB_2 {B : Nat → Nat} {i : Nat} (h : i % 4 = 2) : okB B i = (decide (48 ≤ B i) && decide (B i ≤ 57)) := by unfold okB; rw [if_neg (show ¬ i % 4 = 0 by omega), if_neg (show ¬ i % 4 = 1 by omega), if_pos h]
theorem okB_3 {B : Nat → Nat} {i : Nat} (h : i % 4 = 3) : okB B i = (B i == 59) := by unfold okB; rw [if_neg (show ¬ i % 4 = 0 by omega), if_neg (show ¬ i % 4 = 1 by omega), if_neg (show ¬ i % 4 = 2 by omega)]
theorem toI {n : Nat} (h : n < 2 ^ 31) : (nI n).toInt = (n : Int) := nI_toInt h
theorem s_goesOn {B : Nat → Nat} {i : Nat} {x2 : Int32} {σ : Mem} {Q : Int32 → Mem → Prop} (hB : B i ≤ 255) (ht : i % 4 = 0 → ∀ p, p < 32 → bt x2 p = anyN (fun j => B (4 * j) - 97 == p) (i / 4)) (hq : Q (if okB B i = true then 1 else 0) σ) : wX3_goesOn (nI (i % 4)) (nI (B i)) x2 σ Q := by
  have h4 : i % 4 < 4 := Nat.mod_lt _ (by omega)
  have tb := toI (n := B i) (by omega)
  have tm := toI (n := i % 4) (by omega)
  unfold wX3_goesOn
  refine ⟨fun z => ?_, fun z => ?_, fun z => ?_, fun z => ?_⟩
  · have z0 : i % 4 = 0 := by rw [neq0 (by omega)] at z; exact z
    rw [okB_0 z0] at hq
    refine ⟨fun y => ?_, fun y => ⟨fun w => ?_, fun w => ?_⟩⟩
    · have y2 : nI (B i) < nI 97 := y
      rw [i_lt (by omega) (by omega)] at y2
      have e : ¬ 97 ≤ B i := by omega
      simpa [e] using hq
    · have w2 : nI 108 < nI (B i) := w
      rw [i_lt (by omega) (by omega)] at w2
      have e : ¬ B i ≤ 108 := by omega
      simpa [e] using hq
    · have y2 : ¬ nI (B i) < nI 97 := y
      have w2 : ¬ nI 108 < nI (B i) := w
      rw [i_lt (by omega) (by omega)] at y2 w2
      have e97 : nI (B i) - (97 : Int32) = nI (B i - 97) := pk_sub (b := 97) (by omega)
      rw [e97]
      refine s_has (by omega) ?_
      rw [ht z0 _ (by omega)]
      have e1 : 97 ≤ B i := by omega
      have e2 : B i ≤ 108 := by omega
      cases hz : anyN (fun j => B (4 * j) - 97 == B i - 97) (i / 4)
      · refine ⟨fun q => absurd rfl q, fun _ => ?_⟩
        simpa [e1, e2, hz] using hq
      · refine ⟨fun _ => ?_, fun q => absurd q (by decide)⟩
        simpa [e1, e2, hz] using hq
  · have z1 : nI (i % 4) = nI 1 := z
    rw [i_eq (by omega) (by omega)] at z1
    rw [okB_1 z1] at hq
    have k1 : (nI (B i) = (114 : Int32)) = (B i = 114) := i_eq (b := 114) (by omega) (by omega)
    have k2 : (nI (B i) = (108 : Int32)) = (B i = 108) := i_eq (b := 108) (by omega) (by omega)
    rw [k1, k2]
    refine ⟨fun y => ?_, fun y => ⟨fun w => ?_, fun w => ?_⟩⟩
    · simpa [y] using hq
    · simpa [y, w] using hq
    · simpa [w] using hq
  · have z1 : nI (i % 4) = nI 2 := z
    rw [i_eq (by omega) (by omega)] at z1
    rw [okB_2 z1] at hq
    have k1 : (nI (B i) < (48 : Int32)) = (B i < 48) := i_lt (b := 48) (by omega) (by omega)
    have k2 : ((57 : Int32) < nI (B i)) = (57 < B i) := i_lt (a := 57) (by omega) (by omega)
    rw [k1, k2]
    refine ⟨fun y => ?_, fun y => ⟨fun w => ?_, fun w => ?_⟩⟩
    · have e : ¬ 48 ≤ B i := by omega
      simpa [e] using hq
    · have e : ¬ B i ≤ 57 := by omega
      simpa [e] using hq
    · have e1 : 48 ≤ B i := by omega
      have e2 : B i ≤ 57 := by omega
      simpa [e1, e2] using hq
  · rw [tm] at z
    rw [okB_3 (by omega)] at hq
    refine ⟨bzi _, ?_⟩
    have k1 : (nI (B i) = (59 : Int32)) = (B i = 59) := i_eq (b := 59) (by omega) (by omega)
    simp only [k1]
    simpa using hq
set_option maxHeartbeats 1000000 in
theorem s_takeDancers {α : DD} {t : Nat} {σ : Mem} {Q : Int32 → Mem → Prop} (ht : t < 9) (hn : α 2 0 ≤ 31) (hB : ∀ i, i < α 2 0 → α 0 i ≤ 255) (h2 : σ t 2 = nI (α 2 0)) (hb : ∀ i, i < α 2 0 → σ (t + 1) i = nI (α 0 i))
    (hQ : ∀ τ, (∀ c, c ≠ 10 → c ≠ 11 → c ≠ 12 → c ≠ 13 → τ c = σ c) → (∀ j, j ≠ 4 → τ 10 j = σ 10 j) → τ 10 4 = nI (nDa α) → (∀ d, d < nDa α → τ 11 d = nI (plA (α 0) d) ∧ τ 12 d = nI (wyA (α 0) d) ∧ τ 13 d = nI (coA (α 0) d)) → Q (flt0 α) τ) : wX3_takeDancers 10 t σ Q := by
  unfold wX3_takeDancers
  intro s1 h1
  have c1 : ∀ c, c ≠ 10 → s1 c = σ c := fun c hc => by rw [h1, um_ne _ _ _ hc]
  have key := up_loop (fun n j => ∀ τ x2, (∀ c, c ≠ 11 → c ≠ 12 → c ≠ 13 → τ c = s1 c) → (∀ i, i < j → okB (α 0) i = true) → (∀ p, p < 32 → bt x2 p = anyN (fun e => α 0 (4 * e) - 97 == p) ((j + 3) / 4)) → (∀ d, (4 * d < j → τ 11 d = nI (plA (α 0) d)) ∧ (4 * d + 1 < j → τ 12 d = nI (wyA (α 0) d)) ∧ (4 * d + 2 < j → τ 13 d = nI (coA (α 0) d))) → wX3_takeDancers_9 Q n 10 t x2 (nI j) τ) (α 2 0) ?_ ?_ 0 (Nat.zero_le _)
  · obtain ⟨n, hn⟩ := key
    exact ⟨n, hn s1 0 (fun _ _ _ _ => rfl) (fun i hi => absurd hi (Nat.not_lt_zero _)) (fun p _ => by rw [b_0]; rfl) (fun d => ⟨fun h => absurd h (Nat.not_lt_zero _), fun h => absurd h (Nat.not_lt_zero _), fun h => absurd h (Nat.not_lt_zero _)⟩)⟩
  · intro n τ x2 f1 f2 f3 f4
    have e2 : τ t 2 = nI (α 2 0) := by rw [f1 t (by omega) (by omega) (by omega), c1 t (by omega)]; exact h2
    have hbad : bad0 α = α 2 0 := fbad_all f2
    have k10 : ∀ j, j ≠ 4 → τ 10 j = σ 10 j := fun j hj => by rw [f1 10 (by omega) (by omega) (by omega), h1, um_nei _ _ hj]
    have k4 : τ 10 4 = 0 := by rw [f1 10 (by omega) (by omega) (by omega), h1, um_at]
    rw [wX3_takeDancers_9, e2, i_le (by omega) (by omega)]
    refine ⟨fun _ => ?_, fun z => absurd (Nat.le_refl _) z⟩
    have good : (¬ (0 < α 2 0 ∧ ¬ α 2 0 % 4 = 3)) → wX3_takeDancers_172 Q 10 t τ := fun hg => by
      unfold wX3_takeDancers_172
      intro ω hω
      have ed : (τ t 2 + (1 : Int32)) / (4 : Int32) = nI ((α 2 0 + 1) / 4) := by rw [e2, i1, div4 (by omega)]
      rw [ed] at hω
      have eN : nDa α = (α 2 0 + 1) / 4 := by unfold nDa; rw [if_neg (by omega), if_neg hg]
      have eF : flt0 α = -1 := by unfold flt0; rw [if_neg (by omega), if_neg hg]
      have := hQ ω (fun c a b c2 d => by rw [hω, um_ne _ _ _ a, f1 c b c2 d, c1 c a]) (fun j hj => by rw [hω, um_nei _ _ hj]; exact k10 j hj) (by rw [hω, um_at, eN]) (fun d hd => by
        have h3 := (nDa_ok hd).2
        rw [hω, um_ne _ _ _ (by omega), um_ne _ _ _ (by omega), um_ne _ _ _ (by omega)]
        exact ⟨(f4 d).1 (by omega), (f4 d).2.1 (by omega), (f4 d).2.2 (by omega)⟩)
      rw [eF] at this
      exact this
    unfold wX3_takeDancers_150
    rw [e2, nle0 (by omega), rem4 (by omega)]
    refine ⟨fun z => good (by omega), fun z => ⟨fun y => ?_, fun y => ?_⟩⟩
    · have y2 : nI (α 2 0 % 4) = nI 3 := y
      rw [i_eq (by omega) (by omega)] at y2
      exact good (by omega)
    · have y2 : ¬ nI (α 2 0 % 4) = nI 3 := y
      rw [i_eq (by omega) (by omega)] at y2
      have eN : nDa α = 0 := by unfold nDa; rw [if_neg (by omega), if_pos ⟨by omega, y2⟩]
      have eF : flt0 α = nI (α 2 0) := by unfold flt0; rw [if_neg (by omega), if_pos ⟨by omega, y2⟩]
      have := hQ τ (fun c a b c2 d => by rw [f1 c b c2 d, c1 c a]) k10 (by rw [k4, eN]; rfl) (fun d hd => absurd hd (by rw [eN]; omega))
      rw [eF] at this
      exact this
  · intro n j hj ih τ x2 f1 f2 f3 f4
    have e2 : τ t 2 = nI (α 2 0) := by rw [f1 t (by omega) (by omega) (by omega), c1 t (by omega)]; exact h2
    have eb : τ (t + 1) j = nI (α 0 j) := by rw [f1 (t + 1) (by omega) (by omega) (by omega), c1 (t + 1) (by omega)]; exact hb j hj
    have hBj := hB j hj
    have cj : (nI j).toNatClampNeg = j := nI_clamp (by omega)
    have cq : (nI (j / 4)).toNatClampNeg = j / 4 := nI_clamp (by omega)
    have vq : vp_in (nI (j / 4)) 8 := vp_in_nI (by omega) (by omega)
    have k10 : ∀ j, j ≠ 4 → τ 10 j = σ 10 j := fun j hj => by rw [f1 10 (by omega) (by omega) (by omega), h1, um_nei _ _ hj]
    have k4 : τ 10 4 = 0 := by rw [f1 10 (by omega) (by omega) (by omega), h1, um_at]
    have bad : okB (α 0) j = false → Q (nI j) τ := fun hz => by
      have hbad : bad0 α = j := fbad_at f2 hz hj
      have eN : nDa α = 0 := by unfold nDa; rw [if_pos (by omega)]
      have eF : flt0 α = nI j := by unfold flt0; rw [if_pos (by omega), hbad]
      have := hQ τ (fun c a b c2 d => by rw [f1 c b c2 d, c1 c a]) k10 (by rw [k4, eN]; rfl) (fun d hd => absurd hd (by rw [eN]; omega))
      rw [eF] at this
      exact this
    rw [wX3_takeDancers_9, e2, i_le (by omega) (by omega)]
    refine ⟨fun z => absurd z (by omega), fun _ x4 hx4 => ?_⟩
    rw [div4 (by omega)] at hx4
    subst hx4
    rw [cj, eb]
    refine ⟨vp_in_nI (by omega) (by omega), fun x5 hx5 => ?_⟩
    subst hx5
    simp only [rem4 (show j < 2 ^ 31 by omega), cq, i1]
    refine ⟨fun z => ?_, fun _ => s_goesOn (B := α 0) hBj (fun z p hp => by rw [f3 p hp, show (j + 3) / 4 = j / 4 by omega]) ?_⟩
    · have z2 : nI 8 ≤ nI (j / 4) := z
      rw [i_le (by omega) (by omega)] at z2
      omega
    · cases hok : okB (α 0) j
      · exact ⟨fun q => absurd rfl q, fun _ => bad hok⟩
      · have ok2 : ∀ i, i < j + 1 → okB (α 0) i = true := fun i hi => by
          by_cases e : i = j
          · subst e; exact hok
          · exact f2 i (by omega)
        have tm := toI (n := j % 4) (by omega)
        refine ⟨fun _ => ⟨fun z => ?_, fun z => ?_, fun z => ?_, fun z => ?_⟩, fun q => absurd q (by decide)⟩
        · rw [neq0 (by omega)] at z
          have h97 : 97 ≤ α 0 j ∧ α 0 j ≤ 108 := by
            rw [okB_0 z] at hok
            simp at hok
            omega
          have e97 : nI (α 0 j) - (97 : Int32) = nI (α 0 j - 97) := pk_sub (b := 97) (by omega)
          rw [e97]
          refine ⟨vq, fun ω hω => ⟨vq, fun x hx => ?_⟩⟩
          have k : ω 11 (j / 4) = nI (α 0 j - 97) := by rw [hω, um_at]
          rw [k] at hx
          refine ih ω x (fun c a b c2 => by rw [hω, um_ne _ _ _ a]; exact f1 c a b c2) ok2 (fun p hp => ?_) (fun d => ⟨fun h => ?_, fun h => ?_, fun h => ?_⟩)
          · rw [hx, b_or, f3 p hp, bt_one (by omega) hp]
            rw [show (j + 1 + 3) / 4 = j / 4 + 1 by omega, show (j + 3) / 4 = j / 4 by omega]
            show (_ || _) = (_ || (α 0 (4 * (j / 4)) - 97 == p))
            rw [show 4 * (j / 4) = j by omega]
            congr 1
            by_cases e : p = α 0 j - 97
            · subst e; simp
            · have e2 : ¬ α 0 j - 97 = p := fun q => e q.symm
              simp [e, e2]
          · by_cases e : d = j / 4
            · subst e
              rw [k]
              unfold plA
              rw [show 4 * (j / 4) = j by omega]
            · rw [hω, um_nei _ _ e]
              exact (f4 d).1 (by omega)
          · rw [hω, um_ne _ _ _ (by omega)]
            exact (f4 d).2.1 (by omega)
          · rw [hω, um_ne _ _ _ (by omega)]
            exact (f4 d).2.2 (by omega)
        · have z1 : nI (j % 4) = nI 1 := z
          rw [i_eq (by omega) (by omega)] at z1
          refine ⟨vq, fun ω hω => ?_⟩
          have k1 : (nI (α 0 j) = (114 : Int32)) = (α 0 j = 114) := i_eq (b := 114) (by omega) (by omega)
          simp only [k1] at hω
          refine ih ω x2 (fun c a b c2 => by rw [hω, um_ne _ _ _ b]; exact f1 c a b c2) ok2 (fun p hp => by rw [f3 p hp, show (j + 1 + 3) / 4 = (j + 3) / 4 by omega]) (fun d => ⟨fun h => ?_, fun h => ?_, fun h => ?_⟩)
          · rw [hω, um_ne _ _ _ (by omega)]
            exact (f4 d).1 (by omega)
          · by_cases e : d = j / 4
            · subst e
              rw [hω, um_at]
              unfold wyA
              rw [show 4 * (j / 4) + 1 = j by omega]
              split <;> rfl
            · rw [hω, um_nei _ _ e]
              exact (f4 d).2.1 (by omega)
          · rw [hω, um_ne _ _ _ (by omega)]
            exact (f4 d).2.2 (by omega)
        · have z1 : nI (j % 4) = nI 2 := z
          rw [i_eq (by omega) (by omega)] at z1
          have h48 : 48 ≤ α 0 j := by
            rw [okB_2 z1] at hok
            simp at hok
            omega
          have e48 : nI (α 0 j) - (48 : Int32) = nI (α 0 j - 48) := pk_sub (b := 48) (by omega)
          rw [e48]
          refine ⟨vq, fun ω hω => ?_⟩
          refine ih ω x2 (fun c a b c2 => by rw [hω, um_ne _ _ _ c2]; exact f1 c a b c2) ok2 (fun p hp => by rw [f3 p hp, show (j + 1 + 3) / 4 = (j + 3) / 4 by omega]) (fun d => ⟨fun h => ?_, fun h => ?_, fun h => ?_⟩)
          · rw [hω, um_ne _ _ _ (by omega)]
            exact (f4 d).1 (by omega)
          · rw [hω, um_ne _ _ _ (by omega)]
            exact (f4 d).2.1 (by omega)
          · by_cases e : d = j / 4
            · subst e
              rw [hω, um_at]
              unfold coA
              rw [show 4 * (j / 4) + 2 = j by omega]
            · rw [hω, um_nei _ _ e]
              exact (f4 d).2.2 (by omega)
        · rw [tm] at z
          refine ih τ x2 f1 ok2 (fun p hp => by rw [f3 p hp, show (j + 1 + 3) / 4 = (j + 3) / 4 by omega]) (fun d => ⟨fun h => (f4 d).1 (by omega), fun h => (f4 d).2.1 (by omega), fun h => (f4 d).2.2 (by omega)⟩)
