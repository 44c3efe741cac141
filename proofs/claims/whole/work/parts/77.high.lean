theorem WFE {α : DD} {β : Mem} (hO : OkA α β) : WF (DE α) (nDa α) (α 2 2) := by
  have := WF_dance (bk := bkA α) (OkI_iA hO) 24 (Nat.le_refl _)
  rw [iA30, iA31] at this
  exact this
theorem onE {α : DD} {β : Mem} (hO : OkA α β) : DE α 4 0 ≤ 120 := (WFE hO).on hO.nd hO.2.1.2
theorem l_eq1 {n : Nat} (h : n < 2 ^ 31) : (nI n = (1 : Int32)) = (n = 1) := i_eq (b := 1) h (by omega)
def hiS (α : DD) (x1 x2 : Int32) : Int32 := if (gd x1 24 && gd x2 2) = true then nI (DB α (tn x1) 4 (if tn x2 = 0 then 0 else 3)) else -2
theorem X_high {x1 x2 : Int32} {α : DD} {β σ : Mem} {Q : Int32 → Mem → Prop} (hO : OkA α β) (hX : IX σ α β) (hq : ∀ ρ, IX ρ α β → Q (hiS α x1 x2) ρ) : wX6_high x1 x2 σ Q := by
  unfold wX6_high
  unfold hiS at hq
  refine G_beatX (g_ny (fun g1 => G_twoX (g_yn (fun g2 => ?_) (fun g2 => ?_))) (fun g1 => ?_))
  · rw [g1, g2] at hq
    obtain ⟨b, hb, rfl, e1⟩ := gd_of (by omega) g1
    obtain ⟨k, hk, rfl, e2⟩ := gd_of (by omega) g2
    rw [e1, e2] at hq
    rw [neq0 (by omega), nI_clamp (by omega)]
    refine ⟨fun z => s_danced hO hX (fun ρ hρ hD => ⟨vp_in_nI (by omega) (by omega), ?_⟩), fun z => s_danced hO hX (fun ρ hρ hD => ⟨vp_in_nI (by omega) (by omega), ?_⟩)⟩
    · rw [if_neg z] at hq
      rw [(hD.2 b hb).2.1]
      exact hq ρ hρ
    · rw [if_pos z] at hq
      rw [(hD.2 b hb).1]
      exact hq ρ hρ
  · rw [g1, g2] at hq; exact hq σ hX
  · rw [g1] at hq; exact hq σ hX
theorem M_highBy {b k : Nat} {α : DD} {σ : Mem} {Q : Int32 → Mem → Prop} (hD : DOM σ (iA α) (bkA α)) (hb : b < 24) (hk : k < 2) (hq : Q (nI (DB α b 4 (if k = 0 then 0 else 3))) σ) : wX7_highBy (nI b) (nI k) σ Q := by
  unfold wX7_highBy
  rw [neq0 (by omega), nI_clamp (by omega)]
  refine ⟨fun z => ⟨vp_in_nI (by omega) (by omega), ?_⟩, fun z => ⟨vp_in_nI (by omega) (by omega), ?_⟩⟩
  · rw [if_neg z] at hq
    rw [(hD.2 b hb).2.1]
    exact hq
  · rw [if_pos z] at hq
    rw [(hD.2 b hb).1]
    exact hq
theorem M_high {x1 x2 : Int32} {α : DD} {β σ : Mem} {Q : Int32 → Mem → Prop} (hO : OkA α β) (hM : IM σ α β) (hq : ∀ ρ, RM ρ α β → Q (hiS α x1 x2) ρ) : wX7_high x1 x2 σ Q := by
  unfold wX7_high
  unfold hiS at hq
  refine s_find hO hM (fun ρ hρ hD => G_beatM (g_ny (fun g1 => G_twoM (g_ny (fun g2 => ?_) (fun g2 => ?_))) (fun g1 => ?_)))
  · rw [g1, g2] at hq
    obtain ⟨b, hb, rfl, e1⟩ := gd_of (by omega) g1
    obtain ⟨k, hk, rfl, e2⟩ := gd_of (by omega) g2
    rw [e1, e2] at hq
    exact M_highBy hD hb hk (hq ρ hρ)
  · rw [g1, g2] at hq; exact hq ρ hρ
  · rw [g1] at hq; exact hq ρ hρ
theorem L11 : okL_11 RR := fun σ τ a1 a2 ⟨α, β, hO, hX, hM⟩ => X_high hO hX (fun ρ hρ => M_high hO hM (fun ω hω => ⟨rfl, α, β, hO, hρ, hω.1⟩))
/-! weave -/
def weB (α : DD) (i k : Nat) : Int32 := if i < DE α 4 0 then nI (DE α (5 + k) i) else -1
def weS (α : DD) (x1 x2 : Int32) : Int32 := if (gd x1 120 && gd x2 3) = true then weB α (tn x1) (tn x2) else -2
theorem X_weave {x1 x2 : Int32} {α : DD} {β σ : Mem} {Q : Int32 → Mem → Prop} (hO : OkA α β) (hX : IX σ α β) (hq : ∀ ρ, IX ρ α β → Q (weS α x1 x2) ρ) : wX6_weave x1 x2 σ Q := by
  have hon := onE hO
  unfold wX6_weave
  unfold weS at hq
  rw [ltz, ltz, show ((120 : Int32) ≤ x1) = ((120 : Int) ≤ x1.toInt) from kle x1 (k := 120) (by omega), show (x2 ≤ (2 : Int32)) = (x2.toInt ≤ 2) from lek x2 (k := 2) (by omega)]
  have bad : ¬ ((0 ≤ x1.toInt ∧ x1.toInt < 120) ∧ (0 ≤ x2.toInt ∧ x2.toInt < 3)) → Q (-2) σ := fun h => by
    rw [if_neg] at hq
    · exact hq σ hX
    · intro z
      rw [Bool.and_eq_true, gd_iff, gd_iff] at z
      exact h z
  refine ⟨fun z => bad (by omega), fun z => ⟨fun y => bad (by omega), fun y => ⟨fun w => bad (by omega), fun w => ⟨fun v => s_danced hO hX (fun ρ hρ hD => ?_), fun v => bad (by omega)⟩⟩⟩⟩
  have g1 : gd x1 120 = true := by rw [gd_iff]; omega
  have g2 : gd x2 3 = true := by rw [gd_iff]; omega
  rw [g1, g2] at hq
  obtain ⟨i, hi, rfl, e1⟩ := gd_of (by omega) g1
  obtain ⟨k, hk, rfl, e2⟩ := gd_of (by omega) g2
  rw [e1, e2] at hq
  have hR := hD.1.1
  have h16 : ρ 20 16 = nI (DE α 4 0) := hR.2.2.1
  rw [h16, i_lt (by omega) (by omega), nI_clamp (by omega), show (nI k = (0 : Int32)) = (k = 0) from neq0 (by omega), l_eq1 (by omega)]
  refine ⟨fun u => ?_, fun u => ?_⟩
  · obtain ⟨r1, r2, r3, _⟩ := hR.2.1 i u
    have q := hq ρ hρ
    simp only [if_true, Bool.and_self] at q
    unfold weB at q
    rw [if_pos u] at q
    refine ⟨fun t => ⟨vp_in_nI (by omega) (by omega), ?_⟩, fun t => ⟨vp_in_nI (by omega) (by omega), ?_⟩, fun t s => ⟨vp_in_nI (by omega) (by omega), ?_⟩⟩
    · subst t
      have : ρ 31 i = nI (DE α 5 i) := r1
      rw [this]; exact q
    · subst t
      have : ρ 32 i = nI (DE α 6 i) := r2
      rw [this]; exact q
    · have : k = 2 := by omega
      subst this
      have : ρ 33 i = nI (DE α 7 i) := r3
      rw [this]; exact q
  · have q := hq ρ hρ
    simp only [if_true, Bool.and_self] at q
    unfold weB at q
    rw [if_neg u] at q
    exact q
theorem M_weaveBy {i k : Nat} {α : DD} {β σ : Mem} {Q : Int32 → Mem → Prop} (hO : OkA α β) (hD : DOM σ (iA α) (bkA α)) (hi : i < 120) (hk : k < 3) (hq : Q (weB α i k) σ) : wX7_weaveBy (nI i) (nI k) σ Q := by
  have hon := onE hO
  have hR := hD.1.1
  have h16 : σ 0 20 = nI (DE α 4 0) := hR.2.2.1
  unfold wX7_weaveBy
  unfold weB at hq
  rw [h16, i_lt (by omega) (by omega), nI_clamp (by omega), neq0 (by omega), l_eq1 (by omega)]
  refine ⟨fun u => ?_, fun u => ?_⟩
  · obtain ⟨r1, r2, r3, _⟩ := hR.2.1 i u
    rw [if_pos u] at hq
    refine ⟨fun t => ⟨fun s => ⟨vp_in_nI (by omega) (by omega), ?_⟩, fun s => ⟨vp_in_nI (by omega) (by omega), ?_⟩⟩, fun t => ⟨vp_in_nI (by omega) (by omega), ?_⟩⟩
    · have : k = 2 := by omega
      subst this
      have : σ 17 i = nI (DE α 7 i) := r3
      rw [this]; exact hq
    · subst s
      have : σ 15 i = nI (DE α 6 i) := r2
      rw [this]; exact hq
    · subst t
      have : σ 14 i = nI (DE α 5 i) := r1
      rw [this]; exact hq
  · rw [if_neg u] at hq; exact hq
theorem M_weave {x1 x2 : Int32} {α : DD} {β σ : Mem} {Q : Int32 → Mem → Prop} (hO : OkA α β) (hM : IM σ α β) (hq : ∀ ρ, RM ρ α β → Q (weS α x1 x2) ρ) : wX7_weave x1 x2 σ Q := by
  unfold wX7_weave
  unfold weS at hq
  refine s_find hO hM (fun ρ hρ hD => G_in (n := 120) (m := 119) rfl rfl (g_ny (fun g1 => G_in (n := 3) (m := 2) rfl rfl (g_ny (fun g2 => ?_) (fun g2 => ?_))) (fun g1 => ?_)))
  · rw [g1, g2] at hq
    obtain ⟨b, hb, rfl, e1⟩ := gd_of (by omega) g1
    obtain ⟨k, hk, rfl, e2⟩ := gd_of (by omega) g2
    rw [e1, e2] at hq
    exact M_weaveBy hO hD hb hk (hq ρ hρ)
  · rw [g1, g2] at hq; exact hq ρ hρ
  · rw [g1] at hq; exact hq ρ hρ
theorem L12 : okL_12 RR := fun σ τ a1 a2 ⟨α, β, hO, hX, hM⟩ => X_weave hO hX (fun ρ hρ => M_weave hO hM (fun ω hω => ⟨rfl, α, β, hO, hρ, hω.1⟩))
