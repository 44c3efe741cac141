theorem crossD_keep {D : DD} {b o u r i : Nat} (h : r = 0 ∨ r = 1 ∨ r = 3 ∨ r = 9) : crossD D b o u r i = D r i := by
  unfold crossD
  split
  · rcases h with rfl | rfl | rfl | rfl <;> simp [unwindD, un]
  · split
    · rcases h with rfl | rfl | rfl | rfl <;> simp [weaveD, un]
    · rfl
theorem crossD_43 {D : DD} {b o u : Nat} : crossD D b o u 4 3 = D 4 3 := by
  unfold crossD
  split
  · simp [unwindD, un]
  · split
    · simp [weaveD, un]
    · rfl
theorem un43 {D : DD} {v r i : Nat} (h : r = 0 ∨ r = 1 ∨ r = 3 ∨ r = 9) : un D 4 3 v r i = D r i := by
  rcases h with rfl | rfl | rfl | rfl <;> simp [un]
theorem pairD_keep {D : DD} {s b a c r i : Nat} {wr : Nat → Bool} (h : r = 0 ∨ r = 1 ∨ r = 3 ∨ r = 9) : pairD s wr b a c D r i = D r i := by
  unfold pairD
  split
  · split
    · split
      · rw [crossD_keep h, un43 h]
      · rw [crossD_keep h, un43 h]
    · rw [un43 h]
  · rfl
theorem innerD_keep {D : DD} {s b a r i : Nat} {wr : Nat → Bool} (h : r = 0 ∨ r = 1 ∨ r = 3 ∨ r = 9) : ∀ k, innerD s wr b a D k r i = D r i
  | 0 => rfl
  | k + 1 => by
    show pairD s wr b a (a + 1 + k) (innerD s wr b a D k) r i = D r i
    rw [pairD_keep h, innerD_keep h k]
theorem meetD_keep {D : DD} {s b nd r i : Nat} {wr : Nat → Bool} (h : r = 0 ∨ r = 1 ∨ r = 3 ∨ r = 9) : ∀ a, meetD s wr b nd D a r i = D r i
  | 0 => rfl
  | a + 1 => by
    show innerD s wr b a (meetD s wr b nd D a) (nd - (a + 1)) r i = D r i
    rw [innerD_keep h, meetD_keep h a]
theorem s_haveMet {d nd a c : Nat} {D : DD} {σ : Mem} {Q : Int32 → Mem → Prop} (h8 : nd ≤ 8) (ha : a < nd) (hc : c < nd) (h12 : ∀ i, i < nd → D 0 i < 12 ∧ D 9 i < 12) (hp : ∀ i, i < nd → σ (d + 2) i = nI (D 0 i)) (hbf : ∀ i, i < nd → σ (d + 3) i = nI (D 9 i))
    (hq : Q (if (¬ D 9 a = D 9 c ∧ ((D 0 a = D 9 c ∧ D 0 c = D 9 a) ∨ D 0 a = D 0 c)) then 1 else 0) σ) : wX0_haveMet d (nI a) (nI c) σ Q := by
  have ca : (nI a).toNatClampNeg = a := nI_clamp (by omega)
  have cc : (nI c).toNatClampNeg = c := nI_clamp (by omega)
  have va : vp_in (nI a) 8 := vp_in_nI (by omega) (by omega)
  have vc : vp_in (nI c) 8 := vp_in_nI (by omega) (by omega)
  have k1 := h12 a ha
  have k2 := h12 c hc
  unfold wX0_haveMet
  simp only [ca, cc, hp a ha, hp c hc, hbf a ha, hbf c hc]
  rw [i_eq (a := D 9 a) (b := D 9 c) (by omega) (by omega), i_eq (a := D 0 a) (b := D 0 c) (by omega) (by omega), i_eq (a := D 0 a) (b := D 9 c) (by omega) (by omega), i_eq (a := D 0 c) (b := D 9 a) (by omega) (by omega)]
  refine ⟨va, vc, fun z1 => ⟨va, vc, fun z2 => ?_, fun z2 => ⟨va, vc, fun z3 => ?_, fun z3 => ⟨vc, va, fun z4 => ?_, fun z4 => ?_⟩⟩⟩, fun z1 => ?_⟩
  · rw [if_pos ⟨z1, Or.inr z2⟩] at hq; exact hq
  · rw [if_neg (fun z => z.2.elim (fun y => z3 y.1) z2)] at hq; exact hq
  · rw [if_neg (fun z => z.2.elim (fun y => z4 y.2) z2)] at hq; exact hq
  · rw [if_pos ⟨z1, Or.inl ⟨z3, z4⟩⟩] at hq; exact hq
  · rw [if_neg (fun z => z.1 z1)] at hq; exact hq
def XM (σ : Mem) (d nd b : Nat) (wr : Nat → Bool) (D : DD) : Prop := RGX σ d D nd ∧ (∀ i, i < nd → σ (d + 3) i = nI (D 9 i) ∧ bt (σ d 15) i = (D 3 i == 0) ∧ bt (σ (d + 1) (24 + b)) i = wr i) ∧ σ d 14 = nI nd ∧ σ (d + 10) b = nI (D 4 3)
def FrM (σ τ : Mem) (d b : Nat) : Prop := (∀ c, c ≠ d → c ≠ d + 5 → c ≠ d + 10 → c ≠ d + 11 → c ≠ d + 12 → c ≠ d + 13 → c ≠ d + 14 → τ c = σ c) ∧ (∀ j, j ≠ 16 → j ≠ 17 → j ≠ 18 → τ d j = σ d j) ∧ ∀ i, i ≠ b → τ (d + 10) i = σ (d + 10) i
theorem FrM.rf {σ : Mem} {d b : Nat} : FrM σ σ d b := ⟨fun _ _ _ _ _ _ _ _ => rfl, fun _ _ _ _ => rfl, fun _ _ => rfl⟩
theorem FrM.tr {σ τ ρ : Mem} {d b : Nat} (h : FrM σ τ d b) (g : FrM τ ρ d b) : FrM σ ρ d b := ⟨fun c a1 a2 a3 a4 a5 a6 a7 => (g.1 c a1 a2 a3 a4 a5 a6 a7).trans (h.1 c a1 a2 a3 a4 a5 a6 a7), fun j a1 a2 a3 => (g.2.1 j a1 a2 a3).trans (h.2.1 j a1 a2 a3), fun i hi => (g.2.2 i hi).trans (h.2.2 i hi)⟩
theorem FrC.toM {σ τ : Mem} {d b : Nat} (h : FrC σ τ d) : FrM σ τ d b := ⟨fun c a1 a2 _ a4 a5 a6 a7 => h.1 c a1 a2 a4 a5 a6 a7, h.2, fun i _ => by rw [h.1 (d + 10) (by omega) (by omega) (by omega) (by omega) (by omega) (by omega)]⟩
/-- behind a pair that meets: the count of who met, then the crossing -/
theorem XM_met {σ τ : Mem} {d nd b : Nat} {wr : Nat → Bool} {D : DD} (h : XM σ d nd b wr D) (e : τ = um σ (d + 10) b (σ (d + 10) b + 1)) : XM τ d nd b wr (un D 4 3 (D 4 3 + 1)) ∧ FrM σ τ d b := by
  obtain ⟨h1, h2, h3, h4⟩ := h
  refine ⟨⟨?_, fun i hi => ?_, ?_, ?_⟩, fun c a1 a2 a3 a4 a5 a6 a7 => by simp [e, um, a3], fun j _ _ _ => by simp [e, um], fun i hi => by simp [e, um, upd, hi]⟩
  · have k := RG_met (v := D 4 3 + 1) h1
    unfold RGX at k ⊢
    simpa [e, um] using k
  · have := h2 i hi
    simpa [e, um, un] using this
  · simpa [e, um] using h3
  · simp [e, um, upd, un, h4, nI_1]
theorem XM_cross {σ τ : Mem} {d nd b o u : Nat} {wr : Nat → Bool} {D : DD} (h : XM σ d nd b wr D) (hR : RGX τ d (crossD D b o u) nd) (hF : FrC σ τ d) : XM τ d nd b wr (crossD D b o u) := by
  obtain ⟨h1, h2, h3, h4⟩ := h
  have f3 := hF.1 (d + 3) (by omega) (by omega) (by omega) (by omega) (by omega) (by omega)
  have f1 := hF.1 (d + 1) (by omega) (by omega) (by omega) (by omega) (by omega) (by omega)
  have f10 := hF.1 (d + 10) (by omega) (by omega) (by omega) (by omega) (by omega) (by omega)
  refine ⟨hR, fun i hi => ?_, ?_, ?_⟩
  · rw [f3, f1, hF.2 15 (by omega) (by omega) (by omega), crossD_keep (Or.inr (Or.inr (Or.inr rfl))), crossD_keep (Or.inr (Or.inr (Or.inl rfl)))]
    exact h2 i hi
  · rw [hF.2 14 (by omega) (by omega) (by omega)]
    exact h3
  · rw [f10, crossD_43]
    exact h4
theorem i1 (n : Nat) : nI n + (1 : Int32) = nI (n + 1) := nI_1 n
set_option maxHeartbeats 1000000 in
theorem sX_inner {d nd len b s a : Nat} {wr : Nat → Bool} {D0 : DD} {σ0 : Mem} {K2 : Nat → Int32 → Int32 → Int32 → Mem → Prop} {Q : Mem → Prop} (h8 : nd ≤ 8) (h30 : len ≤ 30) (hb : b < 24) (hs : s < 2 ^ 31) (ha : a < nd) (hW : WF D0 nd len)
    (hK : ∀ τ, XM τ d nd b wr (innerD s wr b a D0 (nd - (a + 1))) → FrM σ0 τ d b → K2 d (nI b) (nI s) (nI a + 1) τ) :
    ∀ k, k ≤ nd - (a + 1) → ∃ n, ∀ σ, XM σ d nd b wr (innerD s wr b a D0 k) → FrM σ0 σ d b → wX0_meetAll_15 K2 Q n d (nI b) (nI s) (nI a) (nI (a + 1 + k)) σ := by
  refine up_loop (fun n k => ∀ σ, XM σ d nd b wr (innerD s wr b a D0 k) → FrM σ0 σ d b → wX0_meetAll_15 K2 Q n d (nI b) (nI s) (nI a) (nI (a + 1 + k)) σ) _ ?_ ?_
  · intro n σ hM hF
    rw [wX0_meetAll_15, hM.2.2.1, i_le (by omega) (by omega)]
    exact ⟨fun _ => hK σ hM hF, fun z => absurd (by omega) z⟩
  · intro n k hk ih σ hM hF
    have hWk := WF_inner (s := s) (wr := wr) hW hb ha k (by omega)
    obtain ⟨D, hD⟩ : ∃ D, D = innerD s wr b a D0 k := ⟨_, rfl⟩
    have hnext : innerD s wr b a D0 (k + 1) = pairD s wr b a (a + 1 + k) (innerD s wr b a D0 k) := rfl
    rw [hnext] at ih
    rw [← hD] at hM hWk ih
    obtain ⟨c, hc⟩ : ∃ c, c = a + 1 + k := ⟨_, rfl⟩
    have ec : a + 1 + (k + 1) = c + 1 := by omega
    rw [ec] at ih
    rw [← hc] at ih ⊢
    have hcn : c < nd := by omega
    have hac : a ≠ c := by omega
    have ca : (nI a).toNatClampNeg = a := nI_clamp (by omega)
    have cc : (nI c).toNatClampNeg = c := nI_clamp (by omega)
    have cb : (nI b).toNatClampNeg = b := nI_clamp (by omega)
    have vb : vp_in (nI b) 24 := vp_in_nI (by omega) (by omega)
    have wa := hWk.1 a ha
    have wc := hWk.1 c hcn
    rw [wX0_meetAll_15, hM.2.2.1, i_le (by omega) (by omega)]
    simp only [ca, cc, cb, i1]
    refine ⟨fun z => absurd z (by omega), fun _ => ⟨vp_in_nI (by omega) (by omega), vp_in_nI (by omega) (by omega), ?_, ?_⟩⟩
    · intro z
      rw [(hM.1.1 a ha).2.1, (hM.1.1 c hcn).2.1, i_eq (by omega) (by omega)] at z
      refine ih σ ?_ hF
      unfold pairD
      rw [if_neg (fun y => y.1 z)]
      exact hM
    · intro z
      rw [(hM.1.1 a ha).2.1, (hM.1.1 c hcn).2.1, i_eq (by omega) (by omega)] at z
      refine s_haveMet h8 ha hcn (fun i hi => ⟨(hWk.1 i hi).1, (hWk.1 i hi).2.2.2⟩) (fun i hi => (hM.1.1 i hi).1) (fun i hi => (hM.2.1 i hi).1) ?_
      by_cases hm : (¬ D 9 a = D 9 c ∧ ((D 0 a = D 9 c ∧ D 0 c = D 9 a) ∨ D 0 a = D 0 c))
      · rw [if_pos hm]
        refine ⟨fun _ => ⟨vb, vb, ?_⟩, fun y => absurd y (by decide)⟩
        intro τ hτ
        obtain ⟨m1, f1⟩ := XM_met hM hτ
        have ha2 := (hM.2.1 a ha).2.1
        have hc2 := (hM.2.1 c hcn).2.1
        have e15 : τ d 15 = σ d 15 := f1.2.1 15 (by omega) (by omega) (by omega)
        have hpair : (D 3 a = 0 ∧ D 3 c = 0) ∨ ¬ (D 3 a = 0 ∧ D 3 c = 0) := by omega
        refine s_has (by omega) ?_
        rw [e15, ha2]
        by_cases z1 : D 3 a = 0
        · have t1 : (D 3 a == 0) = true := by simp [z1]
          rw [t1]
          refine ⟨fun y => absurd y (by decide), fun _ => s_has (by omega) ?_⟩
          rw [hc2]
          by_cases z2 : D 3 c = 0
          · have t2 : (D 3 c == 0) = true := by simp [z2]
            rw [t2]
            refine ⟨fun y => absurd y (by decide), fun _ => ?_⟩
            refine sX_cross (wa := wr a) (wc := wr c) h8 h30 (WF_met (v := D 4 3 + 1) hWk) ha hcn hac hb hs m1.1 (m1.2.1 a ha).2.2 (m1.2.1 c hcn).2.2 ?_
            intro ρ r1 r2
            have e1 : un D 4 3 (D 4 3 + 1) 1 a = D 1 a := by simp [un]
            rw [e1] at r1
            refine ih ρ ?_ ((hF.tr f1).tr r2.toM)
            unfold pairD
            rw [if_pos ⟨z, hm⟩, if_pos ⟨z1, z2⟩]
            cases hf : firstD s (D 1 a) (wr a) (wr c)
            · rw [hf] at r1
              exact XM_cross m1 r1 r2
            · rw [hf] at r1
              exact XM_cross m1 r1 r2
          · have t2 : (D 3 c == 0) = false := by simp [z2]
            rw [t2]
            refine ⟨fun _ => ih τ ?_ (hF.tr f1), fun y => absurd rfl y⟩
            unfold pairD
            rw [if_pos ⟨z, hm⟩, if_neg (fun y => z2 y.2)]
            exact m1
        · have t1 : (D 3 a == 0) = false := by simp [z1]
          rw [t1]
          refine ⟨fun _ => ih τ ?_ (hF.tr f1), fun y => absurd rfl y⟩
          unfold pairD
          rw [if_pos ⟨z, hm⟩, if_neg (fun y => z1 y.1)]
          exact m1
      · rw [if_neg hm]
        refine ⟨fun y => absurd rfl y, fun _ => ih σ ?_ hF⟩
        unfold pairD
        rw [if_neg (fun y => hm y.2)]
        exact hM
theorem sX_meetAll {d nd len b s : Nat} {wr : Nat → Bool} {D0 : DD} {σ : Mem} {Q : Mem → Prop} (h8 : nd ≤ 8) (h30 : len ≤ 30) (hb : b < 24) (hs : s < 2 ^ 31) (hW : WF D0 nd len) (hM : XM σ d nd b wr D0)
    (hQ : ∀ τ, XM τ d nd b wr (meetD s wr b nd D0 nd) → FrM σ τ d b → Q τ) : wX0_meetAll d (nI b) (nI s) σ Q := by
  have key := up_loop (fun n a => ∀ τ, XM τ d nd b wr (meetD s wr b nd D0 a) → FrM σ τ d b → wX0_meetAll_2 Q n d (nI b) (nI s) (nI a) τ) nd ?_ ?_ 0 (Nat.zero_le _)
  · obtain ⟨n, hn⟩ := key
    exact ⟨n, hn σ hM FrM.rf⟩
  · intro n τ m1 f1
    rw [wX0_meetAll_2, m1.2.2.1, i_le (by omega) (by omega)]
    exact ⟨fun _ => hQ τ m1 f1, fun z => absurd (Nat.le_refl _) z⟩
  · intro n a ha ih τ m1 f1
    rw [wX0_meetAll_2, m1.2.2.1, i_le (by omega) (by omega)]
    refine ⟨fun z => absurd z (by omega), fun _ => ?_⟩
    intro x4 h4
    rw [i1] at h4
    subst h4
    obtain ⟨k, hk⟩ := sX_inner (K2 := fun b0 x1 x2 x3 ρ => wX0_meetAll_2 Q n b0 x1 x2 x3 ρ) (Q := Q) (σ0 := σ) (D0 := meetD s wr b nd D0 a) h8 h30 hb hs ha (WF_meet hW hb a (by omega)) (fun ρ m2 f2 => by
      rw [i1]
      exact ih ρ m2 f2) 0 (Nat.zero_le _)
    exact ⟨k, hk τ m1 f1⟩
