theorem s_stepOf {b : Nat} {σ : Mem} {Q : Int32 → Mem → Prop} (hb : b ≤ 255) (hq : Q (if stC b = 9 then -1 else nI (stC b)) σ) : wX3_stepOf (nI b) σ Q := by
  have tb := toI (n := b) (by omega)
  have e : ∀ k, k < 2 ^ 31 → nI b = nI k → b = k := fun k hk h => by
    rw [i_eq (by omega) hk] at h
    exact h
  unfold wX3_stepOf
  refine ⟨fun z => ?_, fun z => ?_, fun z => ?_, fun z => ?_, fun z => ?_, fun z => ?_, fun z => ?_, fun z => ?_⟩
  · have := e 111 (by omega) z; subst this; exact hq
  · have := e 112 (by omega) z; subst this; exact hq
  · have := e 113 (by omega) z; subst this; exact hq
  · have := e 114 (by omega) z; subst this; exact hq
  · have := e 115 (by omega) z; subst this; exact hq
  · have := e 116 (by omega) z; subst this; exact hq
  · have := e 117 (by omega) z; subst this; exact hq
  · rw [tb] at z
    have e9 : stC b = 9 := by
      unfold stC
      rw [if_neg (by omega), if_neg (by omega), if_neg (by omega), if_neg (by omega)]
    rw [e9] at hq
    exact hq
set_option maxHeartbeats 1000000 in
theorem s_takeSteps {α : DD} {t : Nat} {σ : Mem} {Q : Int32 → Mem → Prop} (ht : t < 9) (hn : α 2 1 ≤ 24) (hB : ∀ i, i < α 2 1 → α 1 i ≤ 255) (h2 : σ t 2 = nI (α 2 1)) (hb : ∀ i, i < α 2 1 → σ (t + 1) i = nI (α 1 i))
    (hQ : ∀ τ, (∀ c, c ≠ 14 → τ c = σ c) → (∀ b, b < 24 → τ 14 b = nI (stA α b)) → Q (flt1 α) τ) : wX3_takeSteps 10 t σ Q := by
  unfold wX3_takeSteps
  refine s_fill (by omega) ?_
  have key := up_loop (fun n j => ∀ τ, (∀ c, c ≠ 14 → τ c = σ c) → (∀ i, i < j → ¬ stC (α 1 i) = 9) → (∀ i, i < j → τ 14 i = nI (stC (α 1 i))) → (∀ i, j ≤ i → i < 24 → τ 14 i = 2) → wX3_takeSteps_10 Q n 10 t (nI j) τ) (α 2 1) ?_ ?_ 0 (Nat.zero_le _)
  · obtain ⟨n, hn⟩ := key
    exact ⟨n, hn _ (fun c hc => fillM_ne σ hc) (fun i hi => absurd hi (Nat.not_lt_zero _)) (fun i hi => absurd hi (Nat.not_lt_zero _)) (fun i _ hi => fillM_at σ hi)⟩
  · intro n τ f1 f2 f3 f4
    have e2 : τ t 2 = nI (α 2 1) := by rw [f1 t (by omega)]; exact h2
    have hbad : bad1 α = α 2 1 := fbad_all (fun i hi => by simpa using f2 i hi)
    have eF : flt1 α = -1 := by unfold flt1; rw [if_neg (by omega)]
    have fin := hQ τ f1 (fun b hb => by
      unfold stA
      rw [if_neg (by omega)]
      split
      · rename_i h; exact f3 b h
      · rename_i h; rw [f4 b (by omega) hb]; rfl)
    rw [eF] at fin
    rw [wX3_takeSteps_10, e2, i_le (by omega) (by omega)]
    exact ⟨fun _ => fin, fun z => absurd (Nat.le_refl _) z⟩
  · intro n j hj ih τ f1 f2 f3 f4
    have e2 : τ t 2 = nI (α 2 1) := by rw [f1 t (by omega)]; exact h2
    have eb : τ (t + 1) j = nI (α 1 j) := by rw [f1 (t + 1) (by omega)]; exact hb j hj
    have cj : (nI j).toNatClampNeg = j := nI_clamp (by omega)
    have h3 := stC_le (α 1 j)
    rw [wX3_takeSteps_10, e2, i_le (by omega) (by omega)]
    simp only [cj, eb, i1]
    refine ⟨fun z => absurd z (by omega), fun _ => ⟨fun z => ?_, fun _ => ⟨vp_in_nI (by omega) (by omega), s_stepOf (hB j hj) ?_⟩⟩⟩
    · have z2 : nI 24 ≤ nI j := z
      rw [i_le (by omega) (by omega)] at z2
      omega
    · by_cases e9 : stC (α 1 j) = 9
      · rw [if_pos e9]
        refine ⟨fun z => absurd rfl z, fun _ => s_fill (by omega) ?_⟩
        have hbad : bad1 α = j := fbad_at (fun i hi => by simpa using f2 i hi) (by simpa using e9) hj
        have eF : flt1 α = nI j := by unfold flt1; rw [if_pos (by omega), hbad]
        have := hQ (fillM τ (10 + 4) 24 2) (fun c hc => by rw [fillM_ne _ hc]; exact f1 c hc) (fun b hb => by
          unfold stA
          rw [if_pos (by omega)]
          exact fillM_at τ hb)
        rw [eF] at this
        exact this
      · rw [if_neg e9]
        refine ⟨fun _ => ⟨vp_in_nI (by omega) (by omega), fun ω hω => ih ω (fun c hc => by rw [hω, um_ne _ _ _ hc]; exact f1 c hc) (fun i hi => ?_) (fun i hi => ?_) (fun i h4 h5 => ?_)⟩, fun z => ?_⟩
        · by_cases e : i = j
          · subst e; exact e9
          · exact f2 i (by omega)
        · by_cases e : i = j
          · subst e; rw [hω, um_at]
          · rw [hω, um_nei _ _ e]; exact f3 i (by omega)
        · rw [hω, um_nei _ _ (by omega)]; exact f4 i (by omega) h5
        · have := toI (n := stC (α 1 j)) (by omega)
          rw [z] at this
          exact absurd this (by have : ((-1 : Int32)).toInt = -1 := by decide
                                omega)
/-! the model's texts -/
theorem s_still {σ : Mem} {Q : Mem → Prop} (hQ : ∀ τ, (∀ c, c ≠ 0 → c ≠ 8 → τ c = σ c) → (∀ j, j ≠ 9 → τ 0 j = σ 0 j) → τ 0 9 = 0 → (∀ b, b < 24 → τ 8 b = 2) → Q τ) : wX7_still σ Q := by
  unfold wX7_still
  intro s1 h1
  have key := up_loop (fun n j => ∀ τ, (∀ c, c ≠ 8 → τ c = s1 c) → (∀ i, i < j → τ 8 i = 2) → wX7_still_7 Q n (nI j) τ) 24 ?_ ?_ 0 (Nat.zero_le _)
  · obtain ⟨n, hn⟩ := key
    exact ⟨n, hn s1 (fun _ _ => rfl) (fun i hi => absurd hi (Nat.not_lt_zero _))⟩
  · intro n τ f1 f2
    rw [wX7_still_7]
    exact ⟨fun _ => hQ τ (fun c c0 c8 => by rw [f1 c c8, h1, um_ne _ _ _ c0]) (fun j hj => by rw [f1 0 (by omega), h1, um_nei _ _ hj]) (by rw [f1 0 (by omega), h1, um_at]) f2, fun z => absurd (show nI 24 ≤ nI 24 from nI_le (Nat.le_refl _) (by omega)) z⟩
  · intro n j hj ih τ f1 f2
    have cj : (nI j).toNatClampNeg = j := nI_clamp (by omega)
    rw [wX7_still_7]
    simp only [cj, i1]
    refine ⟨fun z => absurd (show nI 24 ≤ nI j from z) (nI_ge hj (by omega)), fun _ => ⟨vp_in_nI (by omega) (by omega), fun ω hω => ih ω (fun c hc => by rw [hω, um_ne _ _ _ hc]; exact f1 c hc) (fun i hi => ?_)⟩⟩
    by_cases e : i = j
    · subst e; rw [hω, um_at]
    · rw [hω, um_nei _ _ e]; exact f2 i (by omega)
def TXM (σ : Mem) (α : DD) : Prop := σ 6 0 = nI (α 2 0) ∧ σ 6 1 = nI (α 2 1) ∧ (∀ i, i < α 2 0 → σ 5 i = nI (α 0 i)) ∧ ∀ i, i < α 2 1 → σ 5 (32 + i) = nI (α 1 i)
set_option maxHeartbeats 1000000 in
theorem s_readsSteps {α : DD} {σ : Mem} {Q : Int32 → Mem → Prop} (hn : α 2 1 ≤ 24) (hB : ∀ i, i < α 2 1 → α 1 i ≤ 255) (hT : TXM σ α)
    (hQ : ∀ τ, (∀ c, c ≠ 0 → c ≠ 8 → τ c = σ c) → (∀ j, j ≠ 9 → τ 0 j = σ 0 j) → τ 0 9 = nI (toA α) → (∀ b, b < 24 → τ 8 b = nI (stA α b)) → Q (flt1 α) τ) : wX7_readsSteps σ Q := by
  unfold wX7_readsSteps
  refine s_still (fun s1 a1 a2 a3 a4 => ?_)
  have key := up_loop (fun n j => ∀ τ, (∀ c, c ≠ 8 → τ c = s1 c) → (∀ i, i < j → ¬ stC (α 1 i) = 9) → (∀ i, i < j → τ 8 i = nI (stC (α 1 i))) → (∀ i, j ≤ i → i < 24 → τ 8 i = 2) → wX7_readsSteps_6 Q n (nI j) τ) (α 2 1) ?_ ?_ 0 (Nat.zero_le _)
  · obtain ⟨n, hn⟩ := key
    exact ⟨n, hn s1 (fun _ _ => rfl) (fun i hi => absurd hi (Nat.not_lt_zero _)) (fun i hi => absurd hi (Nat.not_lt_zero _)) (fun i _ hi => a4 i hi)⟩
  · intro n τ f1 f2 f3 f4
    have e2 : τ 6 1 = nI (α 2 1) := by rw [f1 6 (by omega), a1 6 (by omega) (by omega)]; exact hT.2.1
    have hbad : bad1 α = α 2 1 := fbad_all (fun i hi => by simpa using f2 i hi)
    have eF : flt1 α = -1 := by unfold flt1; rw [if_neg (by omega)]
    have eT : toA α = α 2 1 := by unfold toA; rw [if_neg (by omega)]
    rw [wX7_readsSteps_6, e2, i_le (by omega) (by omega)]
    refine ⟨fun _ => ?_, fun z => absurd (Nat.le_refl _) z⟩
    unfold wX7_readsSteps_94
    intro ω hω
    rw [e2] at hω
    have fin := hQ ω (fun c c0 c8 => by rw [hω, um_ne _ _ _ c0, f1 c c8]; exact a1 c c0 c8) (fun j hj => by rw [hω, um_nei _ _ hj, f1 0 (by omega)]; exact a2 j hj) (by rw [hω, um_at, eT]) (fun b hb => by
      rw [hω, um_ne _ _ _ (by omega)]
      unfold stA
      rw [if_neg (by omega)]
      split
      · rename_i h; exact f3 b h
      · rename_i h; rw [f4 b (by omega) hb]; rfl)
    rw [eF] at fin
    exact fin
  · intro n j hj ih τ f1 f2 f3 f4
    have e2 : τ 6 1 = nI (α 2 1) := by rw [f1 6 (by omega), a1 6 (by omega) (by omega)]; exact hT.2.1
    have e32 : (32 : Int32) + nI j = nI (32 + j) := nI_add 32 j
    have c32 : (nI (32 + j)).toNatClampNeg = 32 + j := nI_clamp (by omega)
    have eb : τ 5 (32 + j) = nI (α 1 j) := by rw [f1 5 (by omega), a1 5 (by omega) (by omega)]; exact hT.2.2.2 j hj
    have cj : (nI j).toNatClampNeg = j := nI_clamp (by omega)
    have h3 := stC_le (α 1 j)
    have hb := hB j hj
    rw [wX7_readsSteps_6, e2, i_le (by omega) (by omega)]
    simp only [e32, c32, cj, eb, i1]
    refine ⟨fun z => absurd z (by omega), fun _ => ⟨vp_in_nI (by omega) (by omega), fun x2 hx2 x3 hx3 => ?_⟩⟩
    have ex : x3 = if stC (α 1 j) = 9 then -9 else nI (stC (α 1 j)) := by
      rw [hx3, hx2]
      have k1 : (nI (α 1 j) = (111 : Int32)) = (α 1 j = 111) := i_eq (b := 111) (by omega) (by omega)
      have k2 : (nI (α 1 j) = (117 : Int32)) = (α 1 j = 117) := i_eq (b := 117) (by omega) (by omega)
      have k3 : (nI (α 1 j) = (115 : Int32)) = (α 1 j = 115) := i_eq (b := 115) (by omega) (by omega)
      have k4 : (nI (α 1 j) = (116 : Int32)) = (α 1 j = 116) := i_eq (b := 116) (by omega) (by omega)
      simp only [k1, k2, k3, k4]
      unfold stC
      by_cases q1 : α 1 j = 111
      · simp [q1]; rfl
      · by_cases q2 : α 1 j = 117
        · simp [q2]; rfl
        · by_cases q3 : α 1 j = 115
          · simp [q3]; rfl
          · by_cases q4 : α 1 j = 116
            · simp [q4]; rfl
            · simp [q1, q2, q3, q4]
    by_cases e9 : stC (α 1 j) = 9
    · rw [if_pos e9] at ex
      refine ⟨fun z => absurd ex z, fun _ => s_still (fun ω g1 g2 g3 g4 => ?_)⟩
      have hbad : bad1 α = j := fbad_at (fun i hi => by simpa using f2 i hi) (by simpa using e9) hj
      have eF : flt1 α = nI j := by unfold flt1; rw [if_pos (by omega), hbad]
      have eT : toA α = 0 := by unfold toA; rw [if_pos (by omega)]
      have := hQ ω (fun c c0 c8 => by rw [g1 c c0 c8, f1 c c8]; exact a1 c c0 c8) (fun j hj => by rw [g2 j hj, f1 0 (by omega)]; exact a2 j hj) (by rw [g3, eT]; rfl) (fun b hb => by
        unfold stA
        rw [if_pos (by omega)]
        exact g4 b hb)
      rw [eF] at this
      exact this
    · rw [if_neg e9] at ex
      refine ⟨fun _ => ⟨vp_in_nI (by omega) (by omega), fun ω hω => ih ω (fun c hc => by rw [hω, um_ne _ _ _ hc]; exact f1 c hc) (fun i hi => ?_) (fun i hi => ?_) (fun i h4 h5 => ?_)⟩, fun z => ?_⟩
      · by_cases e : i = j
        · subst e; exact e9
        · exact f2 i (by omega)
      · by_cases e : i = j
        · subst e; rw [hω, um_at, ex]
        · rw [hω, um_nei _ _ e]; exact f3 i (by omega)
      · rw [hω, um_nei _ _ (by omega)]; exact f4 i (by omega) h5
      · have := toI (n := stC (α 1 j)) (by omega)
        rw [← ex, z] at this
        exact absurd this (by have : ((-9 : Int32)).toInt = -9 := by decide
                              omega)
