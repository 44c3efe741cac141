def MM (σ : Mem) (nd b s : Nat) (wr : Nat → Bool) (D : DD) : Prop := RGM σ D nd ∧ (∀ i, i < nd → σ 11 i = nI (D 9 i) ∧ bt (σ 0 19) i = !(D 3 i == 0) ∧ bt (σ 0 25) i = wr i) ∧ σ 0 7 = nI nd ∧ σ 22 b = nI (D 4 3) ∧ σ 8 b = nI s
def FrG (σ τ : Mem) (b : Nat) : Prop := (∀ c, c ≠ 0 → c ≠ 13 → c ≠ 14 → c ≠ 15 → c ≠ 16 → c ≠ 17 → c ≠ 22 → τ c = σ c) ∧ (∀ j, j ≠ 20 → j ≠ 26 → j ≠ 27 → τ 0 j = σ 0 j) ∧ ∀ i, i ≠ b → τ 22 i = σ 22 i
theorem FrG.rf {σ : Mem} {b : Nat} : FrG σ σ b := ⟨fun _ _ _ _ _ _ _ _ => rfl, fun _ _ _ _ => rfl, fun _ _ => rfl⟩
theorem FrG.tr {σ τ ρ : Mem} {b : Nat} (h : FrG σ τ b) (g : FrG τ ρ b) : FrG σ ρ b := ⟨fun c a1 a2 a3 a4 a5 a6 a7 => (g.1 c a1 a2 a3 a4 a5 a6 a7).trans (h.1 c a1 a2 a3 a4 a5 a6 a7), fun j a1 a2 a3 => (g.2.1 j a1 a2 a3).trans (h.2.1 j a1 a2 a3), fun i hi => (g.2.2 i hi).trans (h.2.2 i hi)⟩
theorem FrW.toG {σ τ : Mem} {b : Nat} (h : FrW σ τ) : FrG σ τ b := ⟨fun c a1 a2 a3 a4 a5 a6 _ => h.1 c a1 a2 a3 a4 a5 a6, h.2, fun i _ => by rw [h.1 22 (by omega) (by omega) (by omega) (by omega) (by omega) (by omega)]⟩
theorem MM_met {σ τ : Mem} {nd b s : Nat} {wr : Nat → Bool} {D : DD} (h : MM σ nd b s wr D) (e : τ = um σ 22 b (σ 22 b + 1)) : MM τ nd b s wr (un D 4 3 (D 4 3 + 1)) ∧ FrG σ τ b := by
  obtain ⟨h1, h2, h3, h4, h5⟩ := h
  have ec : ∀ c, c ≠ 22 → τ c = σ c := fun c hc => by rw [e, um_ne _ _ _ hc]
  refine ⟨⟨?_, fun i hi => ?_, ?_, ?_, ?_⟩, fun c _ _ _ _ _ _ a7 => ec c a7, fun j _ _ _ => by rw [ec 0 (by omega)], fun i hi => by rw [e, um_nei _ _ hi]⟩
  · have k := RG_met (v := D 4 3 + 1) h1
    unfold RGM at k ⊢
    rw [ec 10 (by omega), ec 12 (by omega), ec 13 (by omega), ec 14 (by omega), ec 15 (by omega), ec 17 (by omega), ec 16 (by omega), ec 0 (by omega)]
    exact k
  · rw [ec 11 (by omega), ec 0 (by omega)]
    simpa [un] using h2 i hi
  · rw [ec 0 (by omega)]; exact h3
  · rw [e, um_at, h4, i1]; simp [un]
  · rw [ec 8 (by omega)]; exact h5
theorem MM_cross {σ τ : Mem} {nd b s o u : Nat} {wr : Nat → Bool} {D : DD} (h : MM σ nd b s wr D) (hR : RGM τ (crossD D b o u) nd) (hF : FrW σ τ) : MM τ nd b s wr (crossD D b o u) := by
  obtain ⟨h1, h2, h3, h4, h5⟩ := h
  refine ⟨hR, fun i hi => ?_, ?_, ?_, ?_⟩
  · rw [hF.1 11 (by omega) (by omega) (by omega) (by omega) (by omega) (by omega), hF.2 19 (by omega) (by omega) (by omega), hF.2 25 (by omega) (by omega) (by omega), crossD_keep (Or.inr (Or.inr (Or.inr rfl))), crossD_keep (Or.inr (Or.inr (Or.inl rfl)))]
    exact h2 i hi
  · rw [hF.2 7 (by omega) (by omega) (by omega)]; exact h3
  · rw [hF.1 22 (by omega) (by omega) (by omega) (by omega) (by omega) (by omega), crossD_43]; exact h4
  · rw [hF.1 8 (by omega) (by omega) (by omega) (by omega) (by omega) (by omega)]; exact h5
set_option maxHeartbeats 1000000 in
theorem sM_meeting {nd len b s a c : Nat} {wr : Nat → Bool} {D : DD} {σ : Mem} {Q : Mem → Prop} (h8 : nd ≤ 8) (h30 : len ≤ 30) (hb : b < 24) (hs : s < 2 ^ 31) (hW : WF D nd len) (ha : a < nd) (hc : c < nd) (hne : a ≠ c) (hM : MM σ nd b s wr D)
    (hm : ¬ D 1 a = D 1 c ∧ ¬ D 9 a = D 9 c ∧ ((D 0 a = D 9 c ∧ D 0 c = D 9 a) ∨ D 0 a = D 0 c))
    (hQ : ∀ τ, MM τ nd b s wr (pairD s wr b a c D) → FrG σ τ b → Q τ) : wX7_meeting (nI b) (nI a) (nI c) σ Q := by
  have ca : (nI a).toNatClampNeg = a := nI_clamp (by omega)
  have cb : (nI b).toNatClampNeg = b := nI_clamp (by omega)
  have vb : vp_in (nI b) 24 := vp_in_nI (by omega) (by omega)
  have wa := (hW.1 a ha).2.1
  unfold wX7_meeting
  simp only [ca, cb]
  refine ⟨vb, vb, fun τ hτ => ?_⟩
  obtain ⟨m1, f1⟩ := MM_met hM hτ
  have ha2 := (m1.2.1 a ha).2.1
  have hc2 := (m1.2.1 c hc).2.1
  have u3 : ∀ i, un D 4 3 (D 4 3 + 1) 3 i = D 3 i := fun i => by simp [un]
  have u1 : ∀ i, un D 4 3 (D 4 3 + 1) 1 i = D 1 i := fun i => by simp [un]
  rw [u3] at ha2 hc2
  refine s_isIn (by omega) ?_
  rw [ha2]
  by_cases z1 : D 3 a = 0
  · have t1 : (D 3 a == 0) = true := by simp [z1]
    rw [t1]
    refine ⟨fun y => absurd rfl y, fun _ => s_isIn (by omega) ?_⟩
    rw [hc2]
    by_cases z2 : D 3 c = 0
    · have t2 : (D 3 c == 0) = true := by simp [z2]
      rw [t2]
      refine ⟨fun _ => ⟨vb, vp_in_nI (by omega) (by omega), fun x4 h4 => s_isIn (by omega) (s_isIn (by omega) (fun x5 h5 => ?_))⟩, fun y => absurd rfl y⟩
      rw [(m1.2.1 a ha).2.2, (m1.2.1 c hc).2.2] at h5
      have h4' : x4 = if ((s == 0) == (D 1 a == 0)) then 1 else 0 := by
        rw [h4, m1.2.2.2.2, (m1.1.1 a ha).2.1, u1]
        have e1 : (s = 0) = ((s == 0) = true) := by simp
        have e2 : (D 1 a = 0) = ((D 1 a == 0) = true) := by simp
        simp only [neq0 hs, neq0 (show D 1 a < 2 ^ 31 by omega), e1, e2]
        cases (s == 0) <;> cases (D 1 a == 0) <;> simp
      have h5' : x5 = if (wr a != wr c) then 1 else 0 := by
        rw [h5]
        cases wr a <;> cases wr c <;> simp
      have hWu := WF_met (v := D 4 3 + 1) hW
      refine ⟨fun z => ?_, fun z => ?_⟩
      · have hf : firstD s (D 1 a) (wr a) (wr c) = false := by
          rw [h4', h5'] at z
          unfold firstD
          cases q1 : ((s == 0) == (D 1 a == 0)) <;> cases q2 : (wr a != wr c) <;> simp [q1, q2] at z ⊢
        refine sM_weaves h8 h30 hWu hc ha (fun q => hne q.symm) m1.1 (fun ρ r1 r2 => hQ ρ ?_ (f1.tr r2.toG))
        unfold pairD
        rw [if_pos hm, if_pos ⟨z1, z2⟩, hf]
        exact MM_cross m1 r1 r2
      · have hf : firstD s (D 1 a) (wr a) (wr c) = true := by
          rw [h4', h5'] at z
          unfold firstD
          cases q1 : ((s == 0) == (D 1 a == 0)) <;> cases q2 : (wr a != wr c) <;> simp [q1, q2] at z ⊢
        refine sM_weaves h8 h30 hWu ha hc hne m1.1 (fun ρ r1 r2 => hQ ρ ?_ (f1.tr r2.toG))
        unfold pairD
        rw [if_pos hm, if_pos ⟨z1, z2⟩, hf]
        exact MM_cross m1 r1 r2
    · have t2 : (D 3 c == 0) = false := by simp [z2]
      rw [t2]
      refine ⟨fun y => absurd y (by decide), fun _ => hQ τ ?_ f1⟩
      unfold pairD
      rw [if_pos hm, if_neg (fun y => z2 y.2)]
      exact m1
  · have t1 : (D 3 a == 0) = false := by simp [z1]
    rw [t1]
    refine ⟨fun _ => hQ τ ?_ f1, fun y => absurd y (by decide)⟩
    unfold pairD
    rw [if_pos hm, if_neg (fun y => z1 y.1)]
    exact m1
theorem sM_inner {nd len b s a : Nat} {wr : Nat → Bool} {D0 : DD} {σ0 : Mem} {K : Int32 → Int32 → Mem → Prop} {Q : Mem → Prop} (h8 : nd ≤ 8) (h30 : len ≤ 30) (hb : b < 24) (hs : s < 2 ^ 31) (ha : a < nd) (hW : WF D0 nd len)
    (hK : ∀ τ, MM τ nd b s wr (innerD s wr b a D0 (nd - (a + 1))) → FrG σ0 τ b → K (nI b) (nI a + 1) τ) :
    ∀ k, k ≤ nd - (a + 1) → ∃ n, ∀ σ, MM σ nd b s wr (innerD s wr b a D0 k) → FrG σ0 σ b → wX7_goes_130 K Q n (nI b) (nI a) (nI (a + 1 + k)) σ := by
  refine up_loop (fun n k => ∀ σ, MM σ nd b s wr (innerD s wr b a D0 k) → FrG σ0 σ b → wX7_goes_130 K Q n (nI b) (nI a) (nI (a + 1 + k)) σ) _ ?_ ?_
  · intro n σ hM hF
    rw [wX7_goes_130, hM.2.2.1, i_le (by omega) (by omega)]
    exact ⟨fun _ => hK σ hM hF, fun z => absurd (by omega) z⟩
  · intro n k hk ih σ hM hF
    have hWk := WF_inner (s := s) (wr := wr) hW hb ha k (by omega)
    obtain ⟨D, hD⟩ : ∃ D, D = innerD s wr b a D0 k := ⟨_, rfl⟩
    have hnext : innerD s wr b a D0 (k + 1) = pairD s wr b a (a + 1 + k) (innerD s wr b a D0 k) := rfl
    rw [hnext] at ih
    rw [← hD] at hM hWk ih
    obtain ⟨c, hc⟩ : ∃ c, c = a + 1 + k := ⟨_, rfl⟩
    have ec : a + 1 + (k + 1) = c + 1 := by omega
    rw [ec] at ih
    rw [← hc] at ih ⊢
    have hcn : c < nd := by omega
    have hac : a ≠ c := by omega
    rw [wX7_goes_130, hM.2.2.1, i_le (by omega) (by omega)]
    simp only [i1]
    refine ⟨fun z => absurd z (by omega), fun _ => sM_meets h8 ha hcn (fun i hi => ⟨(hWk.1 i hi).1, (hWk.1 i hi).2.1, (hWk.1 i hi).2.2.2⟩) (fun i hi => (hM.1.1 i hi).1) (fun i hi => (hM.1.1 i hi).2.1) (fun i hi => (hM.2.1 i hi).1) ?_⟩
    by_cases hm : (¬ D 1 a = D 1 c ∧ ¬ D 9 a = D 9 c ∧ ((D 0 a = D 9 c ∧ D 0 c = D 9 a) ∨ D 0 a = D 0 c))
    · rw [if_pos hm]
      refine ⟨fun y => absurd y (by decide), fun _ => sM_meeting h8 h30 hb hs hWk ha hcn hac hM hm (fun τ m1 f1 => ih τ m1 (hF.tr f1))⟩
    · rw [if_neg hm]
      refine ⟨fun _ => ih σ ?_ hF, fun y => absurd rfl y⟩
      unfold pairD
      rw [if_neg hm]
      exact hM
theorem sM_meetAll {nd len b s : Nat} {wr : Nat → Bool} {D0 : DD} {σ : Mem} {Q : Mem → Prop} (h8 : nd ≤ 8) (h30 : len ≤ 30) (hb : b < 24) (hs : s < 2 ^ 31) (hW : WF D0 nd len) (hM : MM σ nd b s wr D0)
    (hQ : ∀ τ, MM τ nd b s wr (meetD s wr b nd D0 nd) → FrG σ τ b → Q τ) : ∃ n, wX7_goes_117 Q n (nI b) (nI 0) σ := by
  have key := up_loop (fun n a => ∀ τ, MM τ nd b s wr (meetD s wr b nd D0 a) → FrG σ τ b → wX7_goes_117 Q n (nI b) (nI a) τ) nd ?_ ?_ 0 (Nat.zero_le _)
  · obtain ⟨n, hn⟩ := key
    exact ⟨n, hn σ hM FrG.rf⟩
  · intro n τ m1 f1
    rw [wX7_goes_117, m1.2.2.1, i_le (by omega) (by omega)]
    exact ⟨fun _ => hQ τ m1 f1, fun z => absurd (Nat.le_refl _) z⟩
  · intro n a ha ih τ m1 f1
    rw [wX7_goes_117, m1.2.2.1, i_le (by omega) (by omega)]
    refine ⟨fun z => absurd z (by omega), fun _ => ?_⟩
    intro x4 h4
    rw [i1] at h4
    subst h4
    obtain ⟨k, hk⟩ := sM_inner (K := fun x1 x3 ρ => wX7_goes_117 Q n x1 x3 ρ) (Q := Q) (σ0 := σ) (D0 := meetD s wr b nd D0 a) h8 h30 hb hs ha (WF_meet hW hb a (by omega)) (fun ρ m2 f2 => by
      rw [i1]
      exact ih ρ m2 f2) 0 (Nat.zero_le _)
    exact ⟨k, hk τ m1 f1⟩
theorem rem12 {n : Nat} (h : n < 2 ^ 31) : nI n - nI n / (12 : Int32) * (12 : Int32) = nI (n % 12) := pk_rem (d := 12) h (by omega) (by omega)
set_option maxHeartbeats 1000000 in
theorem sM_goes {nd len b s ne : Nat} {act : Nat → Bool} {ek eb en : Nat → Nat} {D : DD} {σ : Mem} {wr : Nat → Bool} {Q : Mem → Prop} (h8 : nd ≤ 8) (h30 : len ≤ 30) (hb : b < 24) (hs : s < 2 ^ 31) (hW : WF D nd len) (hR : RGM σ D nd) (h7 : σ 0 7 = nI nd) (hh : ∀ i, i < nd → bt (σ 0 19) i = !(D 3 i == 0)) (hwr : ∀ i, i < nd → bt (σ 0 25) i = wr i) (hE : EVM σ ne ek eb en) (hm : ∀ e, e < ne → bt (σ 0 14) e = !act e) (h22 : σ 22 b = nI (D 4 3)) (h8b : σ 8 b = nI s)
    (hQ : ∀ τ, MM τ nd b s wr (meetD s wr b nd (moveD (bkOf act ek eb en ne 0 b) D) nd) → (∀ c, c ≠ 0 → c ≠ 10 → c ≠ 11 → c ≠ 13 → c ≠ 14 → c ≠ 15 → c ≠ 16 → c ≠ 17 → c ≠ 22 → τ c = σ c) → (∀ j, j ≠ 20 → j ≠ 26 → j ≠ 27 → τ 0 j = σ 0 j) → (∀ i, i ≠ b → τ 22 i = σ 22 i) → Q τ) : wX7_goes (nI b) σ Q := by
  unfold wX7_goes
  refine sM_toldIn (k := 0) (by omega) hb hE hm (fun r hr => ?_)
  generalize bkOf act ek eb en ne 0 b = st at hr hQ
  have key := up_loop (fun n j => ∀ τ, (∀ c, c ≠ 10 → c ≠ 11 → τ c = σ c) → (∀ i, i < j → τ 11 i = nI (D 0 i) ∧ τ 10 i = nI (movedP st D i)) → (∀ i, j ≤ i → i < nd → τ 10 i = nI (D 0 i)) → wX7_goes_9 Q n (nI b) r (nI j) τ) nd ?_ ?_ 0 (Nat.zero_le _)
  · obtain ⟨n, hn⟩ := key
    exact ⟨n, hn σ (fun _ _ _ => rfl) (fun i hi => absurd hi (Nat.not_lt_zero _)) (fun i _ hi => (hR.1 i hi).1)⟩
  · intro n τ f1 f2 f3
    rw [wX7_goes_9, f1 0 (by omega) (by omega), h7, i_le (by omega) (by omega)]
    refine ⟨fun _ => ?_, fun z => absurd (Nat.le_refl _) z⟩
    have hMM : MM τ nd b s wr (moveD st D) := by
      refine ⟨?_, fun i hi => ⟨?_, ?_, ?_⟩, ?_, ?_, ?_⟩
      · unfold RGM
        rw [f1 12 (by omega) (by omega), f1 13 (by omega) (by omega), f1 14 (by omega) (by omega), f1 15 (by omega) (by omega), f1 17 (by omega) (by omega), f1 16 (by omega) (by omega), f1 0 (by omega) (by omega)]
        exact RG_move hR (fun i hi => (f2 i hi).2)
      · rw [(f2 i hi).1]; simp [moveD]
      · rw [f1 0 (by omega) (by omega), hh i hi]; simp [moveD]
      · rw [f1 0 (by omega) (by omega)]; exact hwr i hi
      · rw [f1 0 (by omega) (by omega)]; exact h7
      · rw [f1 22 (by omega) (by omega), h22]; simp [moveD]
      · rw [f1 8 (by omega) (by omega)]; exact h8b
    refine sM_meetAll h8 h30 hb hs (WF_move hW) hMM (fun ρ m1 g1 => hQ ρ m1 (fun c a0 a10 a11 a13 a14 a15 a16 a17 a22 => by rw [g1.1 c a0 a13 a14 a15 a16 a17 a22]; exact f1 c a10 a11) (fun j j1 j2 j3 => by rw [g1.2.1 j j1 j2 j3, f1 0 (by omega) (by omega)]) (fun i hi => by rw [g1.2.2 i hi, f1 22 (by omega) (by omega)]))
  · intro n j hj ih τ f1 f2 f3
    have cj : (nI j).toNatClampNeg = j := nI_clamp (by omega)
    have vj : vp_in (nI j) 8 := vp_in_nI (by omega) (by omega)
    have p12 := (hW.1 j hj).1
    have w1 := (hW.1 j hj).2.1
    have l1 := hW.left h8 h30 hj
    have e1 := f3 j (Nat.le_refl _) hj
    have step : ∀ y0 : Int32, (y0 = 0 ∧ movedP st D j = stepP (D 1 j) (D 0 j)) ∨ (¬ y0 = 0 ∧ movedP st D j = D 0 j) → wX7_goes_50 (fun x1 x2 x3 ρ => wX7_goes_9 Q n x1 x2 x3 ρ) Q (nI b) r (nI j) y0 τ := by
      intro y0 hy
      unfold wX7_goes_50
      simp only [cj, i1, e1]
      refine ⟨vj, vj, fun ρ hρ => ?_⟩
      have k2 : ρ 10 j = nI (D 0 j) := by rw [hρ, um_ne _ _ _ (by omega)]; exact e1
      have k1 : ρ 12 j = nI (D 1 j) := by rw [hρ, um_ne _ _ _ (by omega), f1 12 (by omega) (by omega)]; exact (hR.1 j hj).2.1
      have fin : ∀ ω, ω = um ρ 10 j (nI (movedP st D j)) → wX7_goes_9 Q n (nI b) r (nI (j + 1)) ω := fun ω hω => by
        refine ih ω (fun c h2 h3 => by rw [hω, um_ne _ _ _ h2, hρ, um_ne _ _ _ h3]; exact f1 c h2 h3) (fun i hi => ?_) (fun i h1 h2 => by rw [hω, um_nei _ _ (by omega), hρ, um_ne _ _ _ (by omega)]; exact f3 i (by omega) h2)
        by_cases e : i = j
        · subst e
          rw [hω, um_ne _ _ _ (by omega), um_at, hρ, um_at]
          exact ⟨rfl, rfl⟩
        · rw [hω, um_ne _ _ _ (by omega), um_nei _ _ e, hρ, um_nei _ _ e, um_ne _ _ _ (by omega)]
          exact f2 i (by omega)
      refine ⟨fun z => ⟨vj, vj, vj, fun ω hω => fin ω ?_⟩, fun z => ⟨vj, vj, fun ω hω => fin ω ?_⟩⟩
      · have hy2 := hy.resolve_right (fun q => q.1 z)
        rw [hω, k1, k2, hy2.2]
        have e2 : nI (D 0 j) + (if nI (D 1 j) = 0 then (1 : Int32) else (11 : Int32)) = nI (D 0 j + (if D 1 j = 0 then 1 else 11)) := by
          simp only [neq0 (show D 1 j < 2 ^ 31 by omega)]
          by_cases q : D 1 j = 0
          · simp only [q, if_true]; exact nI_add _ 1
          · simp only [q, if_false]; exact nI_add _ 11
        rw [e2]
        have e3 : D 0 j + (if D 1 j = 0 then 1 else 11) < 2 ^ 31 := by split <;> omega
        rw [rem12 e3]
        have e4 : (D 0 j + (if D 1 j = 0 then 1 else 11)) % 12 = stepP (D 1 j) (D 0 j) := by
          unfold stepP
          by_cases q : D 1 j = 0
          · simp only [q, if_true]
            split <;> omega
          · simp only [q, if_false]
            split <;> omega
        rw [e4]
      · have hy2 := hy.resolve_left (fun q => z q.1)
        rw [hω, k2, hy2.2]
    rw [wX7_goes_9, f1 0 (by omega) (by omega), h7, i_le (by omega) (by omega)]
    refine ⟨fun z => absurd z (by omega), fun _ => s_isIn (by omega) ?_⟩
    rw [hr j (by omega)]
    cases hst : st j
    · refine ⟨fun z => absurd rfl z, fun _ => s_isIn (by omega) ?_⟩
      rw [f1 0 (by omega) (by omega), hh j hj]
      cases h3 : (D 3 j == 0)
      · have h3' : ¬ D 3 j = 0 := by simpa using h3
        exact ⟨fun _ => step 0 (Or.inl ⟨rfl, by unfold movedP; rw [if_neg (by rw [hst]; simp [h3'])]⟩), fun z => absurd z (by decide)⟩
      · have h3' : D 3 j = 0 := by simpa using h3
        have k13 : τ 13 j = nI (D 2 j) := by rw [f1 13 (by omega) (by omega)]; exact (hR.1 j hj).2.2
        refine ⟨fun z => absurd rfl z, fun _ => ?_⟩
        simp only [cj, k13, neq0 (show D 2 j < 2 ^ 31 by omega)]
        exact ⟨vj, fun z => step 0 (Or.inl ⟨rfl, by unfold movedP; rw [if_neg (by rw [hst]; simp [z])]⟩), fun z => step 1 (Or.inr ⟨by decide, by unfold movedP; rw [if_pos (Or.inr ⟨h3', z⟩)]⟩)⟩
    · exact ⟨fun _ => step 1 (Or.inr ⟨by decide, by unfold movedP; rw [if_pos (Or.inl hst)]⟩), fun z => absurd z (by decide)⟩
