/-- the class's Dance at cell d holds the numbers D -/
def RGX (σ : Mem) (d : Nat) (D : DD) (nd : Nat) : Prop := RG (σ (d + 2)) (σ (d + 4)) (σ (d + 5)) (σ (d + 11)) (σ (d + 12)) (σ (d + 13)) (σ (d + 14)) (σ d 16) (σ d 17) (σ d 18) D nd
def FrC (σ τ : Mem) (d : Nat) : Prop := (∀ c, c ≠ d → c ≠ d + 5 → c ≠ d + 11 → c ≠ d + 12 → c ≠ d + 13 → c ≠ d + 14 → τ c = σ c) ∧ ∀ j, j ≠ 16 → j ≠ 17 → j ≠ 18 → τ d j = σ d j
theorem FrC.rf {σ : Mem} {d : Nat} : FrC σ σ d := ⟨fun _ _ _ _ _ _ _ => rfl, fun _ _ _ _ => rfl⟩
theorem nle0 {n : Nat} (h : n < 2 ^ 31) : (nI n ≤ (0 : Int32)) = (n = 0) := by
  have e : (0 : Int32) = nI 0 := rfl
  rw [e, i_le h (by omega)]
  exact propext ⟨fun h => by omega, fun h => by omega⟩
theorem neq0 {n : Nat} (h : n < 2 ^ 31) : (nI n = (0 : Int32)) = (n = 0) := by
  have e : (0 : Int32) = nI 0 := rfl
  rw [e, i_eq h (by omega)]
set_option maxHeartbeats 1000000 in
theorem sX_w192 {d nd len b o u : Nat} {D : DD} {σ : Mem} {Q : Mem → Prop} (h8 : nd ≤ 8) (h30 : len ≤ 30) (hW : WF D nd len) (ho : o < nd) (hu : u < nd) (hne : o ≠ u) (hR : RGX σ d D nd)
    (hq : ∀ τ, RGX τ d (if (0 < D 2 o ∧ 0 < D 2 u) then weaveD D b o u else D) nd → FrC σ τ d → Q τ) : wX0_cross_192 Q d (nI b) (nI o) (nI u) σ := by
  have e1 := (hR.1 o ho).2.2
  have e2 := (hR.1 u hu).2.2
  have e3 := hR.2.2.1
  have co : (nI o).toNatClampNeg = o := nI_clamp (by omega)
  have cu : (nI u).toNatClampNeg = u := nI_clamp (by omega)
  have l1 := hW.left h8 h30 ho
  have l2 := hW.left h8 h30 hu
  have hne2 : ¬ u = o := fun z => hne z.symm
  unfold wX0_cross_192
  simp only [co, cu]
  refine ⟨vp_in_nI (by omega) (by omega), fun hz => ?_, fun hz => ?_⟩
  · rw [e1, nle0 (by omega)] at hz
    refine hq σ ?_ FrC.rf
    rw [if_neg (by omega)]
    exact hR
  · rw [e1, nle0 (by omega)] at hz
    refine ⟨vp_in_nI (by omega) (by omega), fun hy => ?_, fun hy => ?_⟩
    · rw [e2, nle0 (by omega)] at hy
      refine hq σ ?_ FrC.rf
      rw [if_neg (by omega)]
      exact hR
    · rw [e2, nle0 (by omega)] at hy
      have hon := hW.room h8 h30 ho hu hne (by omega) (by omega)
      have con : (nI (D 4 0)).toNatClampNeg = D 4 0 := nI_clamp (by omega)
      have vin : vp_in (nI (D 4 0)) 120 := vp_in_nI hon (by omega)
      refine ⟨fun z => ?_, fun _ => ?_⟩
      · rw [e3] at z
        have z2 : nI 120 ≤ nI (D 4 0) := z
        rw [i_le (by omega) (by omega)] at z2
        omega
      · refine ⟨by rw [e3]; exact vin, ?_⟩
        intro s1 h1
        have f1 : s1 d 16 = nI (D 4 0) := by simp [h1, um, e3]
        refine ⟨by rw [f1]; exact vin, ?_⟩
        intro s2 h2
        have f2 : s2 d 16 = nI (D 4 0) := by simp [h2, um, f1]
        refine ⟨by rw [f2]; exact vin, ?_⟩
        intro s3 h3
        have f3 : s3 d 16 = nI (D 4 0) := by simp [h3, um, f2]
        refine ⟨vp_in_nI (by omega) (by omega), by rw [f3]; exact vin, ?_⟩
        intro s4 h4 s5 h5 s6 h6
        refine ⟨vp_in_nI (by omega) (by omega), vp_in_nI (by omega) (by omega), ?_⟩
        intro s7 h7
        refine ⟨vp_in_nI (by omega) (by omega), vp_in_nI (by omega) (by omega), ?_⟩
        intro t h9
        rw [e3, con] at h1
        rw [f1, con] at h2
        rw [f2, con] at h3
        rw [f3, con] at h4
        have key := RG_weave (b := b) hR ho hu hne (by omega) (by omega)
        refine hq t ?_ ⟨fun c k0 k5 k11 k12 k13 k14 => ?_, fun j j1 j2 j3 => ?_⟩
        · rw [if_pos ⟨by omega, by omega⟩]
          have k2 : t (d + 2) = σ (d + 2) := by simp [h9, h7, h6, h5, h4, h3, h2, h1, um]
          have k4 : t (d + 4) = σ (d + 4) := by simp [h9, h7, h6, h5, h4, h3, h2, h1, um]
          have k5 : t (d + 5) = upd (upd (σ (d + 5)) o (σ (d + 5) o - 1)) u (σ (d + 5) u - 1) := by simp [h9, h7, h6, h5, h4, h3, h2, h1, um, upd, hne2]
          have k11 : t (d + 11) = upd (σ (d + 11)) (D 4 0) (nI o) := by simp [h9, h7, h6, h5, h4, h3, h2, h1, um]
          have k12 : t (d + 12) = upd (σ (d + 12)) (D 4 0) (nI u) := by simp [h9, h7, h6, h5, h4, h3, h2, h1, um]
          have k13 : t (d + 13) = upd (σ (d + 13)) (D 4 0) (nI b) := by simp [h9, h7, h6, h5, h4, h3, h2, h1, um]
          have k14 : t (d + 14) = upd (σ (d + 14)) (D 4 0) (σ (d + 4) o) := by simp [h9, h7, h6, h5, h4, h3, h2, h1, um]
          have k16 : t d 16 = σ d 16 + 1 := by simp [h9, h7, h6, h5, h4, h3, h2, h1, um, upd]
          have k17 : t d 17 = σ d 17 + 1 := by simp [h9, h7, h6, h5, h4, h3, h2, h1, um, upd]
          have k18 : t d 18 = σ d 18 := by simp [h9, h7, h6, h5, h4, h3, h2, h1, um, upd]
          unfold RGX
          rw [k2, k4, k5, k11, k12, k13, k14, k16, k17, k18]
          exact key
        · simp [h9, h7, h6, h5, h4, h3, h2, h1, um, k0, k5, k11, k12, k13, k14]
        · simp [h9, h7, h6, h5, h4, h3, h2, h1, um, upd, j1, j2, j3]
set_option maxHeartbeats 1000000 in
theorem sX_cross {d nd len b a c s : Nat} {D : DD} {σ : Mem} {Q : Mem → Prop} {wa wc : Bool} (h8 : nd ≤ 8) (h30 : len ≤ 30) (hW : WF D nd len) (ha : a < nd) (hc : c < nd) (hne : a ≠ c) (hb : b < 24) (hs : s < 2 ^ 31) (hR : RGX σ d D nd) (hwa : bt (σ (d + 1) (24 + b)) a = wa) (hwc : bt (σ (d + 1) (24 + b)) c = wc)
    (hq : ∀ τ, RGX τ d (if firstD s (D 1 a) wa wc then crossD D b a c else crossD D b c a) nd → FrC σ τ d → Q τ) : wX0_cross d (nI a) (nI c) (nI b) (nI s) σ Q := by
  have ca : (nI a).toNatClampNeg = a := nI_clamp (by omega)
  have e24 : (24 : Int32) + nI b = nI (24 + b) := nI_add 24 b
  have c24 : (nI (24 + b)).toNatClampNeg = 24 + b := nI_clamp (by omega)
  unfold wX0_cross
  rw [e24, c24]
  refine ⟨vp_in_nI (by omega) (by omega), ?_⟩
  intro x5 h5 x6 h6 x7 h7
  rw [ca]
  refine ⟨vp_in_nI (by omega) (by omega), ?_⟩
  intro x8 hx8 x9 hx9 x10 h10
  have hx6 : x6 = if (wa != wc) then 1 else 0 := by
    rw [h6, and1, b_xor, b_sshr a (by omega) _ (by omega), b_sshr c (by omega) _ (by omega)]
    have ia : a < 32 := by omega
    have ic : c < 32 := by omega
    simp only [Nat.add_zero, ia, ic, if_true]
    rw [h5, hwa, hwc]
    cases wa <;> cases wc <;> rfl
  have hwy := (hR.1 a ha).2.1
  have hw1 := (hW.1 a ha).2.1
  have hx8' : x8 = if firstD s (D 1 a) wa wc then nI a else nI c := by
    rw [hx8, h7, hx6, hwy]
    simp only [neq0 hs, neq0 (show D 1 a < 2 ^ 31 by omega)]
    unfold firstD
    have e1 : (s = 0) = ((s == 0) = true) := by simp
    have e2 : (D 1 a = 0) = ((D 1 a == 0) = true) := by simp
    simp only [e1, e2]
    cases (s == 0) <;> cases (D 1 a == 0) <;> cases wa <;> cases wc <;> simp
  obtain ⟨o, u, ho, hu, hou, e8, e9, hq2⟩ : ∃ o u, o < nd ∧ u < nd ∧ o ≠ u ∧ x8 = nI o ∧ x9 = nI u ∧ (∀ τ, RGX τ d (crossD D b o u) nd → FrC σ τ d → Q τ) := by
    cases hf : firstD s (D 1 a) wa wc
    · refine ⟨c, a, hc, ha, fun z => hne z.symm, by rw [hx8', hf]; rfl, ?_, fun τ h => hq τ (by rw [hf]; exact h)⟩
      rw [hx9, hx8', hf]
      have : ¬ nI c = nI a := by rw [i_eq (by omega) (by omega)]; omega
      simp [this]
    · refine ⟨a, c, ha, hc, hne, by rw [hx8', hf]; rfl, ?_, fun τ h => hq τ (by rw [hf]; exact h)⟩
      rw [hx9, hx8', hf]
      simp
  subst e8
  subst e9
  clear hx8 hx9 hx8'
  have co : (nI o).toNatClampNeg = o := nI_clamp (by omega)
  have cu : (nI u).toNatClampNeg = u := nI_clamp (by omega)
  have e3 := hR.2.2.1
  have hon := hW.on h8 h30
  have hne2 : ¬ u = o := fun z => hou z.symm
  have weave : ¬ (0 < D 4 0 ∧ D 5 (D 4 0 - 1) = o ∧ D 6 (D 4 0 - 1) = u ∧ ¬ D 8 (D 4 0 - 1) = D 1 o) → wX0_cross_192 Q d (nI b) (nI o) (nI u) σ := fun hn => by
    refine sX_w192 h8 h30 hW ho hu hou hR (fun τ h1 h2 => hq2 τ ?_ h2)
    unfold crossD
    rw [if_neg hn]
    exact h1
  simp only [co, cu]
  rcases Nat.eq_zero_or_pos (D 4 0) with hz | hz
  · refine ⟨fun _ => weave (by omega), fun z => ?_⟩
    rw [h10, e3, hz] at z
    exact absurd (by decide) z
  · have e10 : x10 = nI (D 4 0 - 1) := by rw [h10, e3, nI_m1 hz]
    have r2 := hR.2.1 (D 4 0 - 1) (by omega)
    have w2 := hW.2.1 (D 4 0 - 1) (by omega)
    have wo := (hW.1 o ho).2.1
    have c10 : (nI (D 4 0 - 1)).toNatClampNeg = D 4 0 - 1 := nI_clamp (by omega)
    have v10 : vp_in (nI (D 4 0 - 1)) 120 := vp_in_nI (by omega) (by omega)
    rw [e10, c10]
    refine ⟨fun z => absurd z (nI_pos (by omega)), fun _ => ⟨v10, fun z => ?_, fun z1 => ⟨v10, fun z => ?_, fun z2 => ⟨v10, vp_in_nI (by omega) (by omega), fun z => ?_, fun z3 => ?_⟩⟩⟩⟩
    · rw [r2.1, i_eq (by omega) (by omega)] at z
      exact weave (fun q => z q.2.1)
    · rw [r2.2.1, i_eq (by omega) (by omega)] at z
      exact weave (fun q => z q.2.2.1)
    · rw [r2.2.2.2, (hR.1 o ho).2.1, i_eq (by omega) (by omega)] at z
      exact weave (fun q => q.2.2.2 z)
    · rw [r2.1, i_eq (by omega) (by omega)] at z1
      rw [r2.2.1, i_eq (by omega) (by omega)] at z2
      rw [r2.2.2.2, (hR.1 o ho).2.1, i_eq (by omega) (by omega)] at z3
      intro s1 h1 s2 h2
      refine ⟨vp_in_nI (by omega) (by omega), vp_in_nI (by omega) (by omega), ?_⟩
      intro s3 h3
      refine ⟨vp_in_nI (by omega) (by omega), vp_in_nI (by omega) (by omega), ?_⟩
      intro t h4
      have key := RG_unwind hR ho hu hou hz
      refine hq2 t ?_ ⟨fun c k0 k5 k11 k12 k13 k14 => ?_, fun j j1 j2 j3 => ?_⟩
      · unfold crossD
        rw [if_pos ⟨hz, z1, z2, z3⟩]
        have k2 : t (d + 2) = σ (d + 2) := by simp [h4, h3, h2, h1, um]
        have k4 : t (d + 4) = σ (d + 4) := by simp [h4, h3, h2, h1, um]
        have k5 : t (d + 5) = upd (upd (σ (d + 5)) o (σ (d + 5) o + 1)) u (σ (d + 5) u + 1) := by simp [h4, h3, h2, h1, um, upd, hne2]
        have k11 : t (d + 11) = σ (d + 11) := by simp [h4, h3, h2, h1, um]
        have k12 : t (d + 12) = σ (d + 12) := by simp [h4, h3, h2, h1, um]
        have k13 : t (d + 13) = σ (d + 13) := by simp [h4, h3, h2, h1, um]
        have k14 : t (d + 14) = σ (d + 14) := by simp [h4, h3, h2, h1, um]
        have k16 : t d 16 = σ d 16 - 1 := by simp [h4, h3, h2, h1, um, upd]
        have k17 : t d 17 = σ d 17 := by simp [h4, h3, h2, h1, um, upd]
        have k18 : t d 18 = σ d 18 + 1 := by simp [h4, h3, h2, h1, um, upd]
        unfold RGX
        rw [k2, k4, k5, k11, k12, k13, k14, k16, k17, k18]
        exact key
      · simp [h4, h3, h2, h1, um, k0, k5]
      · simp [h4, h3, h2, h1, um, upd, j1, j3]
