theorem n0 {n : Nat} (h : 0 = n) : (0 : Int32) = nI n := by subst h; rfl
theorem sX_turn {d nd : Nat} {w : Nat → Nat} {σ : Mem} {Q : Mem → Prop} (h8 : nd ≤ 8) (h14 : σ d 14 = nI nd) (hw : ∀ i, i < nd → σ (d + 4) i = nI (w i) ∧ w i ≤ 1)
    (hQ : ∀ τ, (∀ c, c ≠ d + 4 → τ c = σ c) → (∀ i, i < nd → τ (d + 4) i = nI (1 - w i)) → Q τ) : wX0_turn d σ Q := by
  have key := up_loop (fun n j => ∀ τ, (∀ c, c ≠ d + 4 → τ c = σ c) → (∀ i, i < j → τ (d + 4) i = nI (1 - w i)) → (∀ i, j ≤ i → i < nd → τ (d + 4) i = nI (w i)) → wX0_turn_2 Q n d (nI j) τ) nd ?_ ?_ 0 (Nat.zero_le _)
  · obtain ⟨n, hn⟩ := key
    exact ⟨n, hn σ (fun _ _ => rfl) (fun i hi => absurd hi (Nat.not_lt_zero _)) (fun i _ hi => (hw i hi).1)⟩
  · intro n τ f1 f2 f3
    rw [wX0_turn_2, f1 d (by omega), h14, i_le (by omega) (by omega)]
    exact ⟨fun _ => hQ τ f1 f2, fun z => absurd (Nat.le_refl _) z⟩
  · intro n j hj ih τ f1 f2 f3
    have cj : (nI j).toNatClampNeg = j := nI_clamp (by omega)
    have vj : vp_in (nI j) 8 := vp_in_nI (by omega) (by omega)
    have e1 := f3 j (Nat.le_refl _) hj
    have e2 := (hw j hj).2
    rw [wX0_turn_2, f1 d (by omega), h14, i_le (by omega) (by omega)]
    simp only [cj, i1, e1]
    refine ⟨fun z => absurd z (by omega), fun _ => ⟨vj, vj, ?_⟩⟩
    intro ρ hρ
    refine ih ρ (fun c hc => by rw [hρ, um_ne _ _ _ hc]; exact f1 c hc) (fun i hi => ?_) (fun i h1 h2 => ?_)
    · by_cases e : i = j
      · subst e
        rw [hρ, um_at]
        simp only [neq0 (show w i < 2 ^ 31 by omega)]
        by_cases z : w i = 0
        · simp [z]; rfl
        · have : w i = 1 := by omega
          simp [this]; rfl
      · rw [hρ, um_nei _ _ e]
        exact f2 i (by omega)
    · rw [hρ, um_nei _ _ (by omega)]
      exact f3 i (by omega) h2
set_option maxHeartbeats 1000000 in
theorem sX_goOn {d nd b len : Nat} {st : Nat → Bool} {D : DD} {σ : Mem} {Q : Mem → Prop} (h8 : nd ≤ 8) (h30 : len ≤ 30) (hb : b < 24) (hW : WF D nd len) (hR : RGX σ d D nd) (h14 : σ d 14 = nI nd) (hh : ∀ i, i < nd → bt (σ d 15) i = (D 3 i == 0)) (hst : ∀ i, i < nd → bt (σ (d + 1) b) i = st i)
    (hQ : ∀ τ, (∀ c, c ≠ d + 2 → c ≠ d + 3 → τ c = σ c) → (∀ i, i < nd → τ (d + 3) i = nI (D 0 i) ∧ τ (d + 2) i = nI (movedP st D i)) → Q τ) : wX0_goOn d (nI b) σ Q := by
  have e0 : (0 : Int32) + nI b = nI b := by
    have := nI_add 0 b
    rw [Nat.zero_add] at this
    exact this
  have cb : (nI b).toNatClampNeg = b := nI_clamp (by omega)
  unfold wX0_goOn
  rw [e0, cb]
  refine ⟨vp_in_nI (by omega) (by omega), ?_⟩
  intro x2 hx2
  have key := up_loop (fun n j => ∀ τ, (∀ c, c ≠ d + 2 → c ≠ d + 3 → τ c = σ c) → (∀ i, i < j → τ (d + 3) i = nI (D 0 i) ∧ τ (d + 2) i = nI (movedP st D i)) → (∀ i, j ≤ i → i < nd → τ (d + 2) i = nI (D 0 i)) → wX0_goOn_11 Q n d x2 (nI j) τ) nd ?_ ?_ 0 (Nat.zero_le _)
  · obtain ⟨n, hn⟩ := key
    exact ⟨n, hn σ (fun _ _ _ => rfl) (fun i hi => absurd hi (Nat.not_lt_zero _)) (fun i _ hi => (hR.1 i hi).1)⟩
  · intro n τ f1 f2 f3
    rw [wX0_goOn_11, f1 d (by omega) (by omega), h14, i_le (by omega) (by omega)]
    exact ⟨fun _ => hQ τ f1 f2, fun z => absurd (Nat.le_refl _) z⟩
  · intro n j hj ih τ f1 f2 f3
    have cj : (nI j).toNatClampNeg = j := nI_clamp (by omega)
    have vj : vp_in (nI j) 8 := vp_in_nI (by omega) (by omega)
    have p12 := (hW.1 j hj).1
    have w1 := (hW.1 j hj).2.1
    have l1 := hW.left h8 h30 hj
    have e1 := f3 j (Nat.le_refl _) hj
    rw [wX0_goOn_11, f1 d (by omega) (by omega), h14, i_le (by omega) (by omega)]
    simp only [cj, i1, e1]
    refine ⟨fun z => absurd z (by omega), fun _ => ⟨vj, vj, ?_⟩⟩
    intro ρ hρ
    have g1 : ∀ c, c ≠ d + 2 → c ≠ d + 3 → ρ c = σ c := fun c h2 h3 => by rw [hρ, um_ne _ _ _ h3]; exact f1 c h2 h3
    have g2 : ρ (d + 2) = τ (d + 2) := by rw [hρ, um_ne _ _ _ (by omega)]
    have g3 : ρ (d + 3) j = nI (D 0 j) := by rw [hρ, um_at]
    have g3' : ∀ i, i ≠ j → ρ (d + 3) i = τ (d + 3) i := fun i hi => by rw [hρ, um_nei _ _ hi]
    have stay : movedP st D j = D 0 j → wX0_goOn_11 Q n d x2 (nI (j + 1)) ρ := fun hm => by
      refine ih ρ g1 (fun i hi => ?_) (fun i h1 h2 => by rw [g2]; exact f3 i (by omega) h2)
      by_cases e : i = j
      · subst e
        exact ⟨g3, by rw [g2, hm]; exact e1⟩
      · rw [g3' i e, g2]
        exact f2 i (by omega)
    have move : movedP st D j = stepP (D 1 j) (D 0 j) → wX0_goOn_62 (fun b0 x2 x3 ρ => wX0_goOn_11 Q n b0 x2 x3 ρ) Q d x2 (nI j) ρ := fun hm => by
      have k1 : ρ (d + 4) j = nI (D 1 j) := by rw [g1 _ (by omega) (by omega)]; exact (hR.1 j hj).2.1
      have k2 : ρ (d + 2) j = nI (D 0 j) := by rw [g2]; exact e1
      have fin : ∀ ω, ω = um ρ (d + 2) j (nI (stepP (D 1 j) (D 0 j))) → wX0_goOn_11 Q n d x2 (nI (j + 1)) ω := fun ω hω => by
        refine ih ω (fun c h2 h3 => by rw [hω, um_ne _ _ _ h2]; exact g1 c h2 h3) (fun i hi => ?_) (fun i h1 h2 => by rw [hω, um_nei _ _ (by omega), g2]; exact f3 i (by omega) h2)
        by_cases e : i = j
        · subst e
          rw [hω, um_ne _ _ _ (by omega), um_at, hm]
          exact ⟨g3, rfl⟩
        · rw [hω, um_ne _ _ _ (by omega), um_nei _ _ e, g3' i e, g2]
          exact f2 i (by omega)
      unfold wX0_goOn_62
      simp only [cj, k1, k2, i1]
      refine ⟨vj, fun z => ⟨vj, fun y => ⟨vj, vj, fun ω hω => ?_⟩, fun y => ⟨vj, fun ω hω => ?_⟩⟩, fun z => ⟨vj, fun y => ⟨vj, vj, fun ω hω => ?_⟩, fun y => ⟨vj, fun ω hω => ?_⟩⟩⟩
      · rw [neq0 (by omega)] at z y
        refine fin ω ?_
        rw [hω, nI_m1 (by omega)]
        simp [stepP, z, y]
      · rw [neq0 (by omega)] at z y
        refine fin ω ?_
        rw [hω]
        simp [stepP, z, y]; rfl
      · rw [neq0 (by omega)] at z
        have y2 : ¬ D 0 j = 11 := fun q => y (by rw [q]; rfl)
        refine fin ω ?_
        rw [hω]
        simp [stepP, z, y2]
      · rw [neq0 (by omega)] at z
        have y2 : nI (D 0 j) = nI 11 := y
        rw [i_eq (by omega) (by omega)] at y2
        refine fin ω ?_
        rw [hω]
        simp [stepP, z, y2]; rfl
    refine s_has (by omega) ?_
    rw [hx2, hst j hj]
    cases hs : st j
    · refine ⟨fun z => absurd rfl z, fun _ => ?_⟩
      have k5 : ρ (d + 5) j = nI (D 2 j) := by rw [g1 _ (by omega) (by omega)]; exact (hR.1 j hj).2.2
      simp only [k5, neq0 (show D 2 j < 2 ^ 31 by omega)]
      refine ⟨vj, fun z => ?_, fun z => ?_⟩
      · rw [← hx2]
        exact move (by unfold movedP; rw [if_neg (by rw [hs]; simp [z])])
      · refine s_has (by omega) ?_
        rw [g1 d (by omega) (by omega), hh j hj]
        cases h3 : (D 3 j == 0)
        · have h3' : ¬ D 3 j = 0 := by simpa using h3
          refine ⟨fun _ => ?_, fun z => absurd rfl z⟩
          rw [← hx2]
          exact move (by unfold movedP; rw [if_neg (by rw [hs]; simp [h3'])])
        · have h3' : D 3 j = 0 := by simpa using h3
          refine ⟨fun z => absurd z (by decide), fun _ => ?_⟩
          rw [← hx2]
          exact stay (by unfold movedP; rw [if_pos (Or.inr ⟨h3', z⟩)])
    · refine ⟨fun _ => ?_, fun z => absurd z (by decide)⟩
      rw [← hx2]
      exact stay (by unfold movedP; rw [if_pos (Or.inl hs)])
/-- who does what when, of those events that are -/
def bkOf (act : Nat → Bool) (ek eb en : Nat → Nat) (ne : Nat) (k b i : Nat) : Bool := anyN (fun e => act e && (24 * ek e + eb e == 24 * k + b) && (en e == i)) ne
def EVX (σ : Mem) (ne : Nat) (ek eb en : Nat → Nat) : Prop := ne ≤ 8 ∧ σ 6 3 = nI ne ∧ ∀ e, e < ne → σ 7 e = nI (ek e) ∧ σ 8 e = nI (eb e) ∧ σ 9 e = nI (en e) ∧ ek e ≤ 2 ∧ eb e < 24 ∧ en e < 8
set_option maxHeartbeats 1000000 in
theorem sX_spread {d ne : Nat} {act : Nat → Bool} {ek eb en : Nat → Nat} {mask : Int32} {σ : Mem} {Q : Mem → Prop} (hd : 20 ≤ d) (hE : EVX σ ne ek eb en) (hm : ∀ e, e < ne → bt mask e = act e)
    (hQ : ∀ τ, (∀ c, c ≠ d + 1 → τ c = σ c) → (∀ k b i, k < 3 → b < 24 → i < 32 → bt (τ (d + 1) (24 * k + b)) i = bkOf act ek eb en ne k b i) → Q τ) : wX0_spread d mask σ Q := by
  obtain ⟨hne, h63, hev⟩ := hE
  unfold wX0_spread
  refine s_fill (by omega) ?_
  have key := up_loop (fun n j => ∀ τ, (∀ c, c ≠ d + 1 → τ c = σ c) → (∀ q i, q < 72 → i < 32 → bt (τ (d + 1) q) i = anyN (fun e => act e && (24 * ek e + eb e == q) && (en e == i)) j) → wX0_spread_10 Q n d mask (nI j) τ) ne ?_ ?_ 0 (Nat.zero_le _)
  · obtain ⟨n, hn⟩ := key
    refine ⟨n, hn _ (fun c hc => fillM_ne σ hc) (fun q i hq hi => ?_)⟩
    rw [fillM_at σ hq, b_0]
    rfl
  · intro n τ f1 f2
    rw [wX0_spread_10, f1 6 (by omega), h63, i_le (by omega) (by omega)]
    refine ⟨fun _ => hQ τ f1 (fun k b i hk hb hi => f2 _ i (by omega) hi), fun z => absurd (Nat.le_refl _) z⟩
  · intro n j hj ih τ f1 f2
    obtain ⟨e1, e2, e3, e4, e5, e6⟩ := hev j hj
    have cj : (nI j).toNatClampNeg = j := nI_clamp (by omega)
    have vj : vp_in (nI j) 8 := vp_in_nI (by omega) (by omega)
    have k1 : τ 7 j = nI (ek j) := by rw [f1 7 (by omega)]; exact e1
    have k2 : τ 8 j = nI (eb j) := by rw [f1 8 (by omega)]; exact e2
    have k3 : τ 9 j = nI (en j) := by rw [f1 9 (by omega)]; exact e3
    have kq : nI (ek j) * (24 : Int32) + nI (eb j) = nI (24 * ek j + eb j) := by
      have h1 : nI (ek j) * nI 24 = nI (ek j * 24) := pk_mul _ _
      have h2 : nI (ek j) * (24 : Int32) = nI (ek j * 24) := h1
      rw [h2, nI_add, Nat.mul_comm]
    have cq : (nI (24 * ek j + eb j)).toNatClampNeg = 24 * ek j + eb j := nI_clamp (by omega)
    have vq : vp_in (nI (24 * ek j + eb j)) 72 := vp_in_nI (by omega) (by omega)
    rw [wX0_spread_10, f1 6 (by omega), h63, i_le (by omega) (by omega)]
    refine ⟨fun z => absurd z (by omega), fun _ => s_has (by omega) ?_⟩
    simp only [cj, i1, k1, k2, k3, kq, cq]
    rw [hm j hj]
    cases ha : act j
    · refine ⟨fun _ => ih τ f1 (fun q i hq hi => ?_), fun z => absurd rfl z⟩
      rw [f2 q i hq hi]
      simp [anyN, ha]
    · refine ⟨fun z => absurd z (by decide), fun _ => ⟨vj, vj, vq, vj, vq, ?_⟩⟩
      intro ρ hρ
      refine ih ρ (fun c hc => by rw [hρ, um_ne _ _ _ hc]; exact f1 c hc) (fun q i hq hi => ?_)
      rw [hρ, um_row]
      by_cases e : q = 24 * ek j + eb j
      · subst e
        simp only [upd, if_true]
        rw [b_or, f2 _ i hq hi, bt_one (by omega) hi]
        by_cases e7 : i = en j
        · subst e7
          simp [anyN, ha]
        · have e8 : ¬ en j = i := fun z => e7 z.symm
          simp [anyN, ha, e7, e8]
      · have e9 : ¬ 24 * ek j + eb j = q := fun z => e z.symm
        simp only [upd, e, if_false]
        rw [f2 q i hq hi]
        simp [anyN, e9]
