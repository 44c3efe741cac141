theorem s_isTaken {B : Nat → Nat} {m p : Nat} {σ : Mem} {Q : Int32 → Mem → Prop} (hm : m ≤ 8) (hp : p < 2 ^ 31) (hb : ∀ e, e < m → B (4 * e) - 97 < 2 ^ 31 ∧ σ 7 (3 * e) = nI (B (4 * e) - 97)) (hq : Q (if anyN (fun e => B (4 * e) - 97 == p) m = true then 1 else 0) σ) : wX7_isTaken (nI m) (nI p) σ Q := by
  have key := up_loop (fun n j => wX7_isTaken_5 Q n (nI m) (nI p) (if anyN (fun e => B (4 * e) - 97 == p) j = true then 1 else 0) (nI j) σ) m ?_ ?_ 0 (Nat.zero_le _)
  · obtain ⟨n, hn⟩ := key
    exact ⟨n, hn⟩
  · intro n
    rw [wX7_isTaken_5, i_le (by omega) (by omega)]
    exact ⟨fun _ => ⟨bzi _, hq⟩, fun z => absurd (Nat.le_refl _) z⟩
  · intro n j hj ih
    obtain ⟨b1, b2⟩ := hb j hj
    have c3 : (nI (3 * j)).toNatClampNeg = 3 * j := nI_clamp (by omega)
    rw [wX7_isTaken_5, i_le (by omega) (by omega)]
    simp only [i3, c3, i1, b2]
    refine ⟨fun z => absurd z (by omega), fun _ => ⟨fun z => ?_, fun z => ⟨vp_in_nI (by omega) (by omega), fun y => ?_, fun y => ?_⟩⟩⟩
    · have e : anyN (fun e => B (4 * e) - 97 == p) j = true := by
        cases h : anyN (fun e => B (4 * e) - 97 == p) j
        · rw [h] at z; exact absurd rfl z
        · rfl
      simp only [anyN, e] at ih
      simpa using ih
    · have e : anyN (fun e => B (4 * e) - 97 == p) j = false := by
        cases h : anyN (fun e => B (4 * e) - 97 == p) j
        · rfl
        · rw [h] at z; exact absurd z (by decide)
      rw [i_eq b1 hp] at y
      simp only [anyN, e] at ih
      simpa [y] using ih
    · rw [i_eq b1 hp] at y
      simp only [anyN, y] at ih
      simpa using ih
theorem nine (n : Nat) (h : n < 2 ^ 31) : ¬ nI n = (-9 : Int32) := fun z => by
  have := toI h
  rw [z] at this
  have e : ((-9 : Int32)).toInt = -9 := by decide
  omega
set_option maxHeartbeats 1000000 in
theorem s_readsDancers {α : DD} {σ : Mem} {Q : Int32 → Mem → Prop} (hn : α 2 0 ≤ 31) (hB : ∀ i, i < α 2 0 → α 0 i ≤ 255) (hT : TXM σ α)
    (hQ : ∀ τ, (∀ c, c ≠ 0 → c ≠ 7 → τ c = σ c) → (∀ j, j ≠ 7 → τ 0 j = σ 0 j) → τ 0 7 = nI (nDa α) → (∀ d, d < nDa α → τ 7 (3 * d) = nI (plA (α 0) d) ∧ τ 7 (3 * d + 1) = nI (wyA (α 0) d) ∧ τ 7 (3 * d + 2) = nI (coA (α 0) d)) → Q (flt0 α) τ) : wX7_readsDancers σ Q := by
  unfold wX7_readsDancers
  intro s1 h1 x1 hx1
  have e1 : x1 = nI (α 2 0) := by rw [hx1, h1, um_ne _ _ _ (by omega)]; exact hT.1
  subst e1
  have c1 : ∀ c, c ≠ 0 → s1 c = σ c := fun c hc => by rw [h1, um_ne _ _ _ hc]
  have g1 : ∀ j, j ≠ 7 → s1 0 j = σ 0 j := fun j hj => by rw [h1, um_nei _ _ hj]
  have z7 : s1 0 7 = 0 := by rw [h1, um_at]
  have key := up_loop (fun n j => ∀ τ, (∀ c, c ≠ 0 → c ≠ 7 → τ c = σ c) → (∀ i, i ≠ 7 → τ 0 i = σ 0 i) → τ 0 7 = nI ((j + 1) / 4) → (∀ i, i < j → okB (α 0) i = true) → (∀ d, (4 * d < j → τ 7 (3 * d) = nI (plA (α 0) d)) ∧ (4 * d + 1 < j → τ 7 (3 * d + 1) = nI (wyA (α 0) d)) ∧ (4 * d + 2 < j → τ 7 (3 * d + 2) = nI (coA (α 0) d))) → wX7_readsDancers_14 Q n (nI (α 2 0)) (nI j) τ) (α 2 0) ?_ ?_ 0 (Nat.zero_le _)
  · obtain ⟨n, hn⟩ := key
    exact ⟨n, hn s1 (fun c c0 _ => c1 c c0) g1 (by rw [z7]; rfl) (fun i hi => absurd hi (Nat.not_lt_zero _)) (fun d => ⟨fun h => absurd h (Nat.not_lt_zero _), fun h => absurd h (Nat.not_lt_zero _), fun h => absurd h (Nat.not_lt_zero _)⟩)⟩
  · intro n τ f1 f2 f3 f4 f5
    have hbad : bad0 α = α 2 0 := fbad_all f4
    rw [wX7_readsDancers_14, i_le (by omega) (by omega)]
    refine ⟨fun _ => ?_, fun z => absurd (Nat.le_refl _) z⟩
    have good : (¬ (0 < α 2 0 ∧ ¬ α 2 0 % 4 = 3)) → Q (-1) τ := fun hg => by
      have eN : nDa α = (α 2 0 + 1) / 4 := by unfold nDa; rw [if_neg (by omega), if_neg hg]
      have eF : flt0 α = -1 := by unfold flt0; rw [if_neg (by omega), if_neg hg]
      have := hQ τ f1 f2 (by rw [f3, eN]) (fun d hd => by
        have h3 := (nDa_ok hd).2
        exact ⟨(f5 d).1 (by omega), (f5 d).2.1 (by omega), (f5 d).2.2 (by omega)⟩)
      rw [eF] at this
      exact this
    unfold wX7_readsDancers_109
    rw [nle0 (by omega), rem4 (by omega)]
    refine ⟨fun z => good (by omega), fun z => ⟨fun y => ?_, fun y => ?_⟩⟩
    · have y2 : nI (α 2 0 % 4) = nI 3 := y
      rw [i_eq (by omega) (by omega)] at y2
      exact good (by omega)
    · have y2 : ¬ nI (α 2 0 % 4) = nI 3 := y
      rw [i_eq (by omega) (by omega)] at y2
      intro ω hω
      have eN : nDa α = 0 := by unfold nDa; rw [if_neg (by omega), if_pos ⟨by omega, y2⟩]
      have eF : flt0 α = nI (α 2 0) := by unfold flt0; rw [if_neg (by omega), if_pos ⟨by omega, y2⟩]
      have := hQ ω (fun c a b => by rw [hω, um_ne _ _ _ a]; exact f1 c a b) (fun j hj => by rw [hω, um_nei _ _ hj]; exact f2 j hj) (by rw [hω, um_at, eN]; rfl) (fun d hd => absurd hd (by rw [eN]; omega))
      rw [eF] at this
      exact this
  · intro n j hj ih τ f1 f2 f3 f4 f5
    have eb : τ 5 j = nI (α 0 j) := by rw [f1 5 (by omega) (by omega)]; exact hT.2.2.1 j hj
    have hBj := hB j hj
    have cj : (nI j).toNatClampNeg = j := nI_clamp (by omega)
    have tm := toI (n := j % 4) (by omega)
    have tb := toI (n := α 0 j) (by omega)
    have bad : okB (α 0) j = false → wX7_readsDancers_58 Q (nI j) τ := fun hz => by
      unfold wX7_readsDancers_58
      intro ω hω
      have hbad : bad0 α = j := fbad_at f4 hz hj
      have eN : nDa α = 0 := by unfold nDa; rw [if_pos (by omega)]
      have eF : flt0 α = nI j := by unfold flt0; rw [if_pos (by omega), hbad]
      have := hQ ω (fun c a b => by rw [hω, um_ne _ _ _ a]; exact f1 c a b) (fun j hj => by rw [hω, um_nei _ _ hj]; exact f2 j hj) (by rw [hω, um_at, eN]; rfl) (fun d hd => absurd hd (by rw [eN]; omega))
      rw [eF] at this
      exact this
    have ok2 : okB (α 0) j = true → ∀ i, i < j + 1 → okB (α 0) i = true := fun hok i hi => by
      by_cases e : i = j
      · subst e; exact hok
      · exact f4 i (by omega)
    have next : ∀ v : Nat, okB (α 0) j = true → (j % 4 = 0 → v = plA (α 0) (j / 4)) → (j % 4 = 1 → v = wyA (α 0) (j / 4)) → (j % 4 = 2 → v = coA (α 0) (j / 4)) → wX7_readsDancers_65 (fun x1 x2 ρ => wX7_readsDancers_14 Q n x1 x2 ρ) Q (nI (α 2 0)) (nI j) (nI (j % 4)) (nI v) τ := by
      intro v hok v0 v1 v2
      have k3 : ((3 : Int32) ≤ nI (j % 4)) = (3 ≤ j % 4) := i_le (a := 3) (by omega) (by omega)
      have k2 : (nI (j % 4) = (2 : Int32)) = (j % 4 = 2) := i_eq (b := 2) (by omega) (by omega)
      have e84 : ∀ ρ : Mem, (∀ c, c ≠ 0 → c ≠ 7 → ρ c = σ c) → (∀ i, ρ 0 i = τ 0 i) → (∀ d, (4 * d < j + 1 → ρ 7 (3 * d) = nI (plA (α 0) d)) ∧ (4 * d + 1 < j + 1 → ρ 7 (3 * d + 1) = nI (wyA (α 0) d)) ∧ (4 * d + 2 < j + 1 → ρ 7 (3 * d + 2) = nI (coA (α 0) d))) → wX7_readsDancers_84 (fun x1 x2 ρ => wX7_readsDancers_14 Q n x1 x2 ρ) Q (nI (α 2 0)) (nI j) (nI (j % 4)) ρ := by
        intro ρ r1 r2 r3
        unfold wX7_readsDancers_84
        intro ω hω
        simp only [i1]
        refine ih ω (fun c a b => by rw [hω, um_ne _ _ _ a]; exact r1 c a b) (fun i hi => by rw [hω, um_nei _ _ hi, r2]; exact f2 i hi) ?_ (ok2 hok) (fun d => ?_)
        · rw [hω, um_at, r2, f3]
          simp only [k2]
          by_cases q : j % 4 = 2
          · rw [if_pos q, i1, show (j + 1 + 1) / 4 = (j + 1) / 4 + 1 by omega]
          · rw [if_neg q]
            have : nI ((j + 1) / 4) + (0 : Int32) = nI ((j + 1) / 4) := nI_add _ 0
            rw [this, show (j + 1 + 1) / 4 = (j + 1) / 4 by omega]
        · rw [hω, um_ne _ _ _ (by omega)]
          exact r3 d
      unfold wX7_readsDancers_65
      rw [k3]
      refine ⟨fun z => e84 τ f1 (fun _ => rfl) (fun d => ⟨fun h => (f5 d).1 (by omega), fun h => (f5 d).2.1 (by omega), fun h => (f5 d).2.2 (by omega)⟩), fun z => ?_⟩
      have ei : (3 : Int32) * (nI j / (4 : Int32)) + nI (j % 4) = nI (3 * (j / 4) + j % 4) := by rw [div4 (by omega), i3, nI_add]
      have ci : (nI (3 * (j / 4) + j % 4)).toNatClampNeg = 3 * (j / 4) + j % 4 := nI_clamp (by omega)
      rw [ei, ci]
      refine ⟨vp_in_nI (by omega) (by omega), fun ρ hρ => e84 ρ (fun c a b => by rw [hρ, um_ne _ _ _ b]; exact f1 c a b) (fun i => by rw [hρ, um_ne _ _ _ (by omega)]) (fun d => ⟨fun h => ?_, fun h => ?_, fun h => ?_⟩)⟩
      · by_cases e : 4 * d = j
        · have e2 : 3 * d = 3 * (j / 4) + j % 4 := by omega
          rw [e2, hρ, um_at, v0 (by omega), show d = j / 4 by omega]
        · rw [hρ, um_nei _ _ (by omega)]; exact (f5 d).1 (by omega)
      · by_cases e : 4 * d + 1 = j
        · have e2 : 3 * d + 1 = 3 * (j / 4) + j % 4 := by omega
          rw [e2, hρ, um_at, v1 (by omega), show d = j / 4 by omega]
        · rw [hρ, um_nei _ _ (by omega)]; exact (f5 d).2.1 (by omega)
      · by_cases e : 4 * d + 2 = j
        · have e2 : 3 * d + 2 = 3 * (j / 4) + j % 4 := by omega
          rw [e2, hρ, um_at, v2 (by omega), show d = j / 4 by omega]
        · rw [hρ, um_nei _ _ (by omega)]; exact (f5 d).2.2 (by omega)
    rw [wX7_readsDancers_14, i_le (by omega) (by omega)]
    refine ⟨fun z => absurd z (by omega), fun _ x3 hx3 => ?_⟩
    rw [rem4 (by omega)] at hx3
    subst hx3
    rw [cj, eb, div4 (by omega)]
    refine ⟨vp_in_nI (by omega) (by omega), ?_⟩
    unfold wX7_dancerOf
    have kz : (nI (j % 4) = (0 : Int32)) = (j % 4 = 0) := neq0 (by omega)
    refine ⟨fun z => s_in (a := 97) (b := 108) rfl rfl ?_, fun z => ?_, fun z => s_in (a := 48) (b := 57) rfl rfl ?_, fun z => ?_⟩
    · rw [kz] at z
      rw [tb]
      by_cases hr : (97 : Int) ≤ (α 0 j : Int) ∧ (α 0 j : Int) ≤ 108
      · rw [if_pos hr]
        have e97 : nI (α 0 j) - (97 : Int32) = nI (α 0 j - 97) := pk_sub (b := 97) (by omega)
        rw [e97]
        refine ⟨fun y => absurd y (by rw [if_neg (by decide)]; exact nine _ (by omega)), fun _ => ?_⟩
        rw [if_neg (by decide), kz]
        refine ⟨fun y => absurd z y, fun _ => s_isTaken (B := α 0) (by omega) (by omega) (fun e he => ⟨by have := hB (4 * e) (by omega); omega, (f5 e).1 (by omega)⟩) ?_⟩
        have h1 : 97 ≤ α 0 j := by omega
        have h2 : α 0 j ≤ 108 := by omega
        cases ha : anyN (fun e => α 0 (4 * e) - 97 == α 0 j - 97) (j / 4)
        · refine ⟨fun _ => next (α 0 j - 97) (by rw [okB_0 z]; simp [h1, h2, ha]) (fun _ => by unfold plA; rw [show 4 * (j / 4) = j by omega]) (fun q => by omega) (fun q => by omega), fun y => absurd rfl y⟩
        · exact ⟨fun y => absurd y (by decide), fun _ => bad (by rw [okB_0 z]; simp [h1, h2, ha])⟩
      · rw [if_neg hr]
        refine ⟨fun _ => bad ?_, fun y => absurd (by rw [if_pos rfl]) y⟩
        rw [okB_0 z]
        by_cases h1 : 97 ≤ α 0 j
        · have h2 : ¬ α 0 j ≤ 108 := by omega
          simp [h2]
        · simp [h1]
    · have z1 : nI (j % 4) = nI 1 := z
      rw [i_eq (by omega) (by omega)] at z1
      have k1 : (nI (α 0 j) = (114 : Int32)) = (α 0 j = 114) := i_eq (b := 114) (by omega) (by omega)
      have k2 : (nI (α 0 j) = (108 : Int32)) = (α 0 j = 108) := i_eq (b := 108) (by omega) (by omega)
      simp only [k1, k2, kz]
      by_cases q1 : α 0 j = 114
      · rw [if_pos q1]
        refine ⟨fun y => absurd y (by decide), fun _ => ⟨fun _ => next 0 (by rw [okB_1 z1]; simp [q1]) (fun q => by omega) (fun _ => by unfold wyA; rw [show 4 * (j / 4) + 1 = j by omega, if_pos q1]) (fun q => by omega), fun y => by omega⟩⟩
      · rw [if_neg q1]
        by_cases q2 : α 0 j = 108
        · rw [if_pos q2]
          refine ⟨fun y => absurd y (by decide), fun _ => ⟨fun _ => next 1 (by rw [okB_1 z1]; simp [q2]) (fun q => by omega) (fun _ => by unfold wyA; rw [show 4 * (j / 4) + 1 = j by omega, if_neg q1]) (fun q => by omega), fun y => by omega⟩⟩
        · rw [if_neg q2]
          exact ⟨fun _ => bad (by rw [okB_1 z1]; simp [q1, q2]), fun y => absurd rfl y⟩
    · have z1 : nI (j % 4) = nI 2 := z
      rw [i_eq (by omega) (by omega)] at z1
      rw [tb]
      by_cases hr : (48 : Int) ≤ (α 0 j : Int) ∧ (α 0 j : Int) ≤ 57
      · rw [if_pos hr]
        have e48 : nI (α 0 j) - (48 : Int32) = nI (α 0 j - 48) := pk_sub (b := 48) (by omega)
        rw [e48]
        refine ⟨fun y => absurd y (by rw [if_neg (by decide)]; exact nine _ (by omega)), fun _ => ?_⟩
        rw [if_neg (by decide), kz]
        have h1 : 48 ≤ α 0 j := by omega
        have h2 : α 0 j ≤ 57 := by omega
        exact ⟨fun _ => next (α 0 j - 48) (by rw [okB_2 z1]; simp [h1, h2]) (fun q => by omega) (fun q => by omega) (fun _ => by unfold coA; rw [show 4 * (j / 4) + 2 = j by omega]), fun y => by omega⟩
      · rw [if_neg hr]
        refine ⟨fun _ => bad ?_, fun y => absurd (by rw [if_pos rfl]) y⟩
        rw [okB_2 z1]
        by_cases h1 : 48 ≤ α 0 j
        · have h2 : ¬ α 0 j ≤ 57 := by omega
          simp [h2]
        · simp [h1]
    · rw [tm] at z
      have k1 : (nI (α 0 j) = (59 : Int32)) = (α 0 j = 59) := i_eq (b := 59) (by omega) (by omega)
      simp only [k1, kz]
      by_cases q1 : α 0 j = 59
      · rw [if_pos q1]
        exact ⟨fun y => absurd y (by decide), fun _ => ⟨fun _ => next 0 (by rw [okB_3 (by omega)]; simp [q1]) (fun q => by omega) (fun q => by omega) (fun q => by omega), fun y => by omega⟩⟩
      · rw [if_neg q1]
        exact ⟨fun _ => bad (by rw [okB_3 (by omega)]; simp [q1]), fun y => absurd rfl y⟩
