/-- the colour of the over of the i-th -/
def csA (co : Nat → Nat) (D : DD) (i : Nat) : Nat := co (D 5 i)
def cnt (p : Nat → Bool) : Nat → Nat
  | 0 => 0
  | n + 1 => if p n = true then cnt p n + 1 else cnt p n
theorem ovE {α : DD} {β : Mem} (hO : OkA α β) {i : Nat} (hi : i < DE α 4 0) : DE α 5 i < nDa α := ((WFE hO).2.1 i hi).1
theorem l_ge24 {n : Nat} (h : n < 2 ^ 31) : ((24 : Int32) ≤ nI n) = (24 ≤ n) := i_le (a := 24) (by omega) h
def shN (α : DD) (c : Nat) : Nat := cnt (fun i => coA (α 0) (DE α 5 i) == c) (DE α 4 0)
def shS (α : DD) (x : Int32) : Int32 := if gd x 10 = true then nI (shN α (tn x)) else -2
theorem X_shows {x1 : Int32} {α : DD} {β σ : Mem} {Q : Int32 → Mem → Prop} (hO : OkA α β) (hX : IX σ α β) (hq : ∀ ρ, IX ρ α β → Q (shS α x1) ρ) : wX6_shows x1 σ Q := by
  have hon := onE hO
  have hn := hO.nd
  unfold wX6_shows
  unfold shS at hq
  rw [ltz, show (x1 < (10 : Int32)) = (x1.toInt < 10) from ltk x1 (k := 10) (by omega)]
  have bad : ¬ (0 ≤ x1.toInt ∧ x1.toInt < 10) → Q (-2) σ := fun h => by
    rw [if_neg] at hq
    · exact hq σ hX
    · rw [gd_iff]; exact h
  refine ⟨fun z => bad (by omega), fun z => ⟨fun y => s_danced hO hX (fun ρ hρ hD => ?_), fun y => bad (by omega)⟩⟩
  have g1 : gd x1 10 = true := by rw [gd_iff]; omega
  rw [if_pos g1] at hq
  obtain ⟨c, hc, rfl, e1⟩ := gd_of (by omega) g1
  rw [e1] at hq
  have hR := hD.1.1
  have h16 : ρ 20 16 = nI (DE α 4 0) := hR.2.2.1
  have key := up_loop (fun N j => wX6_shows_23 Q N (nI c) (nI (cnt (fun i => coA (α 0) (DE α 5 i) == c) j)) (nI j) ρ) (DE α 4 0) ?_ ?_ 0 (Nat.zero_le _)
  · exact key
  · intro N
    rw [wX6_shows_23, h16, i_le (by omega) (by omega)]
    exact ⟨fun _ => hq ρ hρ, fun z => absurd (Nat.le_refl _) z⟩
  · intro N j hj ih
    have ho := ovE hO hj
    have r1 : ρ 31 j = nI (DE α 5 j) := (hR.2.1 j hj).1
    have r2 := hρ.1.2.2.2.1 (DE α 5 j) ho
    have r3 := coA_lt ho
    rw [wX6_shows_23, h16, i_le (by omega) (by omega), nI_clamp (by omega), r1, nI_clamp (by omega), r2, i_eq (by omega) (by omega), i1, i1]
    refine ⟨fun z => absurd z (by omega), fun _ => ⟨vp_in_nI (by omega) (by omega), vp_in_nI (by omega) (by omega), fun z => ?_, fun z => ?_⟩⟩
    · have : cnt (fun i => coA (α 0) (DE α 5 i) == c) (j + 1) = cnt (fun i => coA (α 0) (DE α 5 i) == c) j := by rw [cnt, if_neg (by simpa using z)]
      rw [this] at ih
      exact ih
    · have : cnt (fun i => coA (α 0) (DE α 5 i) == c) (j + 1) = cnt (fun i => coA (α 0) (DE α 5 i) == c) j + 1 := by rw [cnt, if_pos (by simpa using z)]
      rw [this] at ih
      exact ih
/-- the model's colour of the i-th: colours as told, or altered -/
theorem M_colourOf {n nd i : Nat} {ov co : Nat → Nat} {σ : Mem} {Q : Int32 → Mem → Prop} (h8 : nd ≤ 8) (hn : n ≤ 120) (hi : i < n) (hov : ∀ i, i < n → σ 14 i = nI (ov i) ∧ ov i < nd) (hco : ∀ d, d < nd → σ 7 (3 * d + 2) = nI (co d)) (hq : Q (nI (co (ov i))) σ) : wX7_colourOf (nI i) σ Q := by
  obtain ⟨r1, r2⟩ := hov i hi
  unfold wX7_colourOf
  rw [nI_clamp (by omega), r1, i3, i2, nI_clamp (by omega), hco _ r2]
  exact ⟨vp_in_nI (by omega) (by omega), vp_in_nI (by omega) (by omega), hq⟩
theorem M_ov {α : DD} {β σ : Mem} (hO : OkA α β) (hD : DOM σ (iA α) (bkA α)) : ∀ i, i < DE α 4 0 → σ 14 i = nI (DE α 5 i) ∧ DE α 5 i < nDa α := fun i hi => ⟨(hD.1.1.2.1 i hi).1, ovE hO hi⟩
theorem M_showsBy {c : Nat} {α : DD} {β σ : Mem} {Q : Int32 → Mem → Prop} (hO : OkA α β) (hM : RM σ α β) (hD : DOM σ (iA α) (bkA α)) (hc : c < 10) (hq : Q (nI (shN α c)) σ) : wX7_showsBy (nI c) σ Q := by
  have hon := onE hO
  have h16 : σ 0 20 = nI (DE α 4 0) := hD.1.1.2.2.1
  unfold wX7_showsBy
  have key := up_loop (fun N j => wX7_showsBy_4 Q N (nI c) (nI (cnt (fun i => coA (α 0) (DE α 5 i) == c) j)) (nI j) σ) (DE α 4 0) ?_ ?_ 0 (Nat.zero_le _)
  · exact key
  · intro N
    rw [wX7_showsBy_4, h16, i_le (by omega) (by omega)]
    exact ⟨fun _ => hq, fun z => absurd (Nat.le_refl _) z⟩
  · intro N j hj ih
    have r3 := coA_lt (ovE hO hj)
    rw [wX7_showsBy_4, h16, i_le (by omega) (by omega), i1]
    refine ⟨fun z => absurd z (by omega), fun _ => M_colourOf (co := coA (α 0)) hO.nd hon hj (M_ov hO hD) hM.2.2.1 ?_⟩
    intro y hy
    by_cases z : coA (α 0) (DE α 5 j) = c
    · have : cnt (fun i => coA (α 0) (DE α 5 i) == c) (j + 1) = cnt (fun i => coA (α 0) (DE α 5 i) == c) j + 1 := by rw [cnt, if_pos (by simpa using z)]
      rw [this] at ih
      rw [z, if_pos rfl, i1] at hy
      subst hy
      exact ih
    · have : cnt (fun i => coA (α 0) (DE α 5 i) == c) (j + 1) = cnt (fun i => coA (α 0) (DE α 5 i) == c) j := by rw [cnt, if_neg (by simpa using z)]
      rw [this] at ih
      rw [if_neg (by rw [i_eq (by omega) (by omega)]; exact z)] at hy
      have : y = nI (cnt (fun i => coA (α 0) (DE α 5 i) == c) j) := by rw [hy]; exact nI_add _ 0
      subst this
      exact ih
theorem M_shows {x1 : Int32} {α : DD} {β σ : Mem} {Q : Int32 → Mem → Prop} (hO : OkA α β) (hM : IM σ α β) (hq : ∀ ρ, RM ρ α β → Q (shS α x1) ρ) : wX7_shows x1 σ Q := by
  unfold wX7_shows
  unfold shS at hq
  refine s_find hO hM (fun ρ hρ hD => G_in (n := 10) (m := 9) rfl rfl (g_ny (fun g1 => ?_) (fun g1 => ?_)))
  · rw [if_pos g1] at hq
    obtain ⟨b, hb, rfl, e1⟩ := gd_of (by omega) g1
    rw [e1] at hq
    exact M_showsBy hO hρ hD hb (hq ρ hρ)
  · rw [if_neg (by rw [g1]; decide)] at hq; exact hq ρ hρ
theorem L13 : okL_13 RR := fun σ τ a1 ⟨α, β, hO, hX, hM⟩ => X_shows hO hX (fun ρ hρ => M_shows hO hM (fun ω hω => ⟨rfl, α, β, hO, hρ, hω.1⟩))
/-! sum -/
def suB (α : DD) (k : Nat) : Int32 := if k = 0 then nI (fb_sm (fun b => DB α b 4 3) 24) else if k = 1 then nI (DE α 4 1) else nI (DE α 4 2)
def suS (α : DD) (x : Int32) : Int32 := if gd x 3 = true then suB α (tn x) else -2
theorem X_allMet {d : Nat} {f : Nat → Nat} {σ : Mem} {Q : Int32 → Mem → Prop} (hf : ∀ b, b < 24 → σ (d + 10) b = nI (f b)) (hq : Q (nI (fb_sm f 24)) σ) : wX0_allMet d σ Q := by
  unfold wX0_allMet
  have key := up_loop (fun N j => wX0_allMet_4 Q N d (nI (fb_sm f j)) (nI j) σ) 24 ?_ ?_ 0 (Nat.zero_le _)
  · exact key
  · intro N
    rw [wX0_allMet_4, l_ge24 (by omega)]
    exact ⟨fun _ => hq, fun z => absurd (Nat.le_refl _) z⟩
  · intro N j hj ih
    rw [wX0_allMet_4, l_ge24 (by omega), nI_clamp (by omega), hf j hj, i1]
    refine ⟨fun z => absurd z (by omega), fun _ => ⟨vp_in_nI (by omega) (by omega), ?_⟩⟩
    intro y hy
    have : y = nI (fb_sm f (j + 1)) := by rw [hy, fb_sm_succ]; exact nI_add _ _
    subst this
    exact ih
theorem M_allMet {f : Nat → Nat} {σ : Mem} {Q : Int32 → Mem → Prop} (hf : ∀ b, b < 24 → σ 22 b = nI (f b)) (hq : Q (nI (fb_sm f 24)) σ) : wX7_allMet σ Q := by
  unfold wX7_allMet
  have key := up_loop (fun N j => wX7_allMet_4 Q N (nI (fb_sm f j)) (nI j) σ) 24 ?_ ?_ 0 (Nat.zero_le _)
  · exact key
  · intro N
    rw [wX7_allMet_4, l_ge24 (by omega)]
    exact ⟨fun _ => hq, fun z => absurd (Nat.le_refl _) z⟩
  · intro N j hj ih
    rw [wX7_allMet_4, l_ge24 (by omega), nI_clamp (by omega), hf j hj, i1]
    refine ⟨fun z => absurd z (by omega), fun _ => ⟨vp_in_nI (by omega) (by omega), ?_⟩⟩
    intro y hy
    have : y = nI (fb_sm f (j + 1)) := by rw [hy, fb_sm_succ]; exact nI_add _ _
    subst this
    exact ih
theorem X_sum {x1 : Int32} {α : DD} {β σ : Mem} {Q : Int32 → Mem → Prop} (hO : OkA α β) (hX : IX σ α β) (hq : ∀ ρ, IX ρ α β → Q (suS α x1) ρ) : wX6_sum x1 σ Q := by
  unfold wX6_sum
  refine ⟨fun z => s_danced hO hX (fun ρ hρ hD => X_allMet (f := fun b => DB α b 4 3) (fun b hb => (hD.2 b hb).2.1) ?_), fun z => s_danced hO hX (fun ρ hρ hD => ?_), fun z => s_danced hO hX (fun ρ hρ hD => ?_), fun z => ?_⟩
  · subst z; exact hq ρ hρ
  · subst z
    have : ρ 20 17 = nI (DE α 4 1) := hD.1.1.2.2.2.1
    rw [this]; exact hq ρ hρ
  · subst z
    have : ρ 20 18 = nI (DE α 4 2) := hD.1.1.2.2.2.2
    rw [this]; exact hq ρ hρ
  · unfold suS at hq
    rw [if_neg (by rw [gd_iff]; omega)] at hq
    exact hq σ hX
theorem M_sumBy {k : Nat} {α : DD} {σ : Mem} {Q : Int32 → Mem → Prop} (hD : DOM σ (iA α) (bkA α)) (hk : k < 3) (hq : Q (suB α k) σ) : wX7_sumBy (nI k) σ Q := by
  unfold wX7_sumBy
  unfold suB at hq
  have h1 : σ 0 26 = nI (DE α 4 1) := hD.1.1.2.2.2.1
  have h2 : σ 0 27 = nI (DE α 4 2) := hD.1.1.2.2.2.2
  rw [neq0 (by omega)]
  refine ⟨fun z => ?_, fun z => M_allMet (f := fun b => DB α b 4 3) (fun b hb => (hD.2 b hb).2.1) ?_⟩
  · rw [if_neg z] at hq
    by_cases c : k = 1
    · rw [if_pos c] at hq
      rw [if_pos (by rw [c]; rfl), h1]; exact hq
    · rw [if_neg c] at hq
      rw [if_neg (by rw [l_eq1 (by omega)]; exact c), h2]; exact hq
  · rw [if_pos z] at hq; exact hq
theorem M_sum {x1 : Int32} {α : DD} {β σ : Mem} {Q : Int32 → Mem → Prop} (hO : OkA α β) (hM : IM σ α β) (hq : ∀ ρ, RM ρ α β → Q (suS α x1) ρ) : wX7_sum x1 σ Q := by
  unfold wX7_sum
  unfold suS at hq
  refine s_find hO hM (fun ρ hρ hD => G_in (n := 3) (m := 2) rfl rfl (g_ny (fun g1 => ?_) (fun g1 => ?_)))
  · rw [if_pos g1] at hq
    obtain ⟨b, hb, rfl, e1⟩ := gd_of (by omega) g1
    rw [e1] at hq
    exact M_sumBy hD hb (hq ρ hρ)
  · rw [if_neg (by rw [g1]; decide)] at hq; exact hq ρ hρ
theorem L14 : okL_14 RR := fun σ τ a1 ⟨α, β, hO, hX, hM⟩ => X_sum hO hX (fun ρ hρ => M_sum hO hM (fun ω hω => ⟨rfl, α, β, hO, hρ, hω.1⟩))
