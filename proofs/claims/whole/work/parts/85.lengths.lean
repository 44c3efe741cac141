/-! lengths -/
def leF (α : DD) (v b : Nat) : Nat := danceD (un (iA α) 3 1 v) (bkA α) (b + 1) 4 0
def leP (α : DD) (v : Nat) : Bool := decide (2 ≤ v) && seB α (leF α v)
def leB (α : DD) : Int32 := orB (leP α) 31
theorem leP_2 {α : DD} {v : Nat} (h : 2 ≤ v) : leP α v = seB α (leF α v) := by unfold leP; rw [decide_eq_true h, Bool.true_and]
theorem leP_0 {α : DD} {v : Nat} (h : v < 2) : leP α v = false := by unfold leP; rw [decide_eq_false (by omega), Bool.false_and]
theorem leB_2 (α : DD) : orB (leP α) 2 = 0 := by
  rw [orB_n (by rw [leP_0 (by omega)]; decide), orB_n (by rw [leP_0 (by omega)]; decide)]; rfl
theorem leF_le {α : DD} {β : Mem} (hO : OkA α β) {v b : Nat} (hv : v ≤ 30) (hb : b < 24) : leF α v b ≤ 120 := on_le (OkI_le (OkI_iA hO) hv) (by omega)
def LR (σ : Mem) (α : DD) (j : Nat) : Prop := ∀ v, 2 ≤ v → v < j → ∀ b, b < 24 → σ 63 (24 * (v - 2) + b) = nI (leF α v b)
theorem row_e {j : Nat} (h : 2 ≤ j) : (nI j - (2 : Int32)) * (24 : Int32) = nI (24 * (j - 2)) := by
  rw [show nI j - (2 : Int32) = nI (j - 2) from nI_sub h, show nI (j - 2) * (24 : Int32) = nI ((j - 2) * 24) from pk_mul _ 24, Nat.mul_comm]
theorem IX_63 {σ τ : Mem} {α : DD} {β : Mem} (h : IX σ α β) (h0 : σ 0 12 = 0) (hc : ∀ c, c ≠ 63 → τ c = σ c) : IX τ α β := by
  obtain ⟨t, c1, c2, c3⟩ := h
  refine ⟨TOX_same t (fun c h => hc c (by omega)) (by rw [hc 0 (by omega)]), ?_, ?_, ?_⟩
  · rw [hc 0 (by omega)]
    rcases c1 with c1 | c1
    · exact Or.inl c1
    · exact Or.inr (DOK_same c1 (fun c h => hc c (by omega)))
  · exact Or.inl (by rw [hc 0 (by omega)]; exact h0)
  · rw [hc 0 (by omega), hc 62 (by omega)]; exact c3
theorem IX_012 {σ : Mem} {α : DD} {β : Mem} (h : IX σ α β) (hL : LR σ α 31) : IX (um σ 0 12 1) α β := by
  obtain ⟨t, c1, c2, c3⟩ := h
  refine ⟨TOX_same t (fun c h => um_ne _ _ _ (by omega)) (um_nei _ _ (by omega)), ?_, ?_, ?_⟩
  · rw [um_nei _ _ (by omega)]
    rcases c1 with c1 | c1
    · exact Or.inl c1
    · exact Or.inr (DOK_same c1 (fun c h => um_ne _ _ _ (by omega)))
  · refine Or.inr ?_
    rw [um_ne _ _ _ (by omega)]
    exact hL
  · rw [um_nei _ _ (by omega), um_ne _ _ _ (by omega)]; exact c3
set_option maxHeartbeats 1000000 in
theorem X_lengths {α : DD} {β σ : Mem} {Q : Int32 → Mem → Prop} (hO : OkA α β) (hX : IX σ α β) (hq : ∀ ρ, IX ρ α β → LR ρ α 31 → Q (leB α) ρ) : wX6_lengths σ Q := by
  unfold wX6_lengths
  refine X_become hO hX (fun τ t1 t2 _ _ => ?_)
  have key := up_loop (fun N j => 2 ≤ j → ∀ σ, IX σ α β → (∃ v, SKX σ 15 (un (iA α) 3 1 v) (evm (α 2 3))) → LR σ α j → wX6_lengths_15 Q N (orB (leP α) j) (nI j) σ) 31 ?_ ?_ 2 (by omega)
  · obtain ⟨N, hN⟩ := key
    have := hN (Nat.le_refl _) τ t1 ⟨iA α 3 1, by rw [un_self]; exact t2⟩ (fun v h1 h2 => absurd h1 (by omega))
    rw [leB_2] at this
    exact ⟨N, this⟩
  · intro N _ ρ r1 r2 r3
    rw [wX6_lengths_15, l_lt30 (by omega)]
    refine ⟨fun _ => fun s1 h1 => ?_, fun z => absurd (by omega) z⟩
    subst h1
    refine hq _ (IX_012 r1 r3) ?_
    unfold LR
    rw [um_ne _ _ _ (by omega)]
    exact r3
  · intro N j hj ih h2 ρ r1 ⟨v, r2⟩ r3
    rw [wX6_lengths_15, l_lt30 (by omega)]
    have go : ∀ ω, IX ω α β → (∃ v, SKX ω 15 (un (iA α) 3 1 v) (evm (α 2 3))) → LR ω α (j + 1) → wX6_lengths_72 (fun x1 x2 ρ => wX6_lengths_15 Q N x1 x2 ρ) Q (orB (leP α) j) (nI j) ω := fun ω o1 o2 o3 => by
      unfold wX6_lengths_72 wX6_rowOfLength
      rw [row_e h2, i1]
      refine X_comesOut (f := leF α j) hO o1 (by omega) (by omega) (fun b hb => ⟨o3 j h2 (by omega) b hb, leF_le hO (by omega) hb⟩) (g_ny (fun c => fun y hy => ?_) (fun c => ?_))
      · have e : orB (leP α) (j + 1) = _ := orB_y (p := leP α) (n := j) (by rw [leP_2 h2]; exact c)
        rw [e] at ih
        subst hy
        exact ih (by omega) ω o1 o2 o3
      · have e : orB (leP α) (j + 1) = _ := orB_n (p := leP α) (n := j) (by rw [leP_2 h2, c]; decide)
        rw [e] at ih
        exact ih (by omega) ω o1 o2 o3
    refine ⟨fun z => absurd z (by omega), fun _ => ⟨fun z => ?_, fun z => ?_⟩⟩
    · have L31 : LR ρ α 31 := by
        rcases r1.2.2.1 with c | c
        · exact absurd c z
        · exact c
      exact go ρ r1 ⟨v, r2⟩ (fun w a1 a2 => L31 w a1 (by omega))
    · intro s1 h1
      have S1 : SKX s1 15 (un (iA α) 3 1 j) (evm (α 2 3)) := by rw [h1]; exact SKX_le r2 (un_un _ _ _ _ _) un_at
      have X1 : IX s1 α β := by rw [h1]; exact IX_tr r1 (by omega) (by omega)
      have I1 : OkI (un (iA α) 3 1 j) := OkI_le (OkI_iA hO) (by omega)
      refine X_play (act := fun _ => true) X1 I1 S1 (bt_evA hO) (fun s2 x2 k2 d2 f2 => ?_)
      unfold wX6_rowOfLength
      rw [row_e h2]
      refine ⟨?_, fun s3 h3 => ?_⟩
      · refine ⟨⟨by decide, nI_pos (by omega), by decide⟩, by decide, ?_⟩
        rw [nI_clamp (by omega), cn24]; omega
      · rw [nI_clamp (by omega), cn0, cn24] at h3
        have c3 : ∀ c, c ≠ 63 → s3 c = s2 c := fun c hc => by rw [h3, cpM_ne _ hc]
        have z2 : s2 0 12 = 0 := by rw [f2 0 (by omega), h1, um_ne _ _ _ (by omega)]; exact z
        refine go s3 (IX_63 x2 z2 c3) ⟨j, ?_⟩ (fun w a1 a2 b hb => ?_)
        · unfold SKX
          rw [c3 15 (by omega), c3 (15 + 1) (by omega), c3 (15 + 2) (by omega), c3 (15 + 4) (by omega)]
          exact k2
        · rw [h3, cpM_at]
          by_cases e : w = j
          · subst e
            rw [if_pos (by omega), show 0 + (24 * (w - 2) + b - 24 * (w - 2)) = b by omega]
            exact (d2.2 b hb).1
          · rw [if_neg (by omega), f2 63 (by omega), h1, um_ne _ _ _ (by omega)]
            exact r3 w a1 (by omega) b hb
def LM (σ : Mem) (α : DD) (j : Nat) : Prop := ∀ v, 2 ≤ v → v < j → ∀ b, b < 24 → σ 24 (24 * v + b) = nI (leF α v b)
theorem HM_24 {σ : Mem} {α : DD} {β : Mem} {ι : DD} {co : Nat → Nat} {i : Nat} {x : Int32} (h : HM σ α β ι co) : HM (um σ 24 i x) α β ι co := by
  obtain ⟨m, ⟨k1, k2, k3, k4⟩, c, t⟩ := h
  refine ⟨IMz m (fun c hc => um_ne _ _ _ (by omega)) (fun j hj => by rw [um_ne _ _ _ (by omega)]), ⟨?_, ?_, fun i hi => ?_, fun b2 hb2 => ?_⟩, fun i hi => ?_, ?_⟩
  · rw [um_ne _ _ _ (by omega)]; exact k1
  · rw [um_ne _ _ _ (by omega)]; exact k2
  · rw [um_ne _ _ _ (by omega)]; exact k3 i hi
  · rw [um_ne _ _ _ (by omega)]; exact k4 b2 hb2
  · rw [um_ne _ _ _ (by omega)]; exact c i hi
  · rw [um_ne _ _ _ (by omega)]; exact t
theorem n24 (n : Nat) : (24 : Int32) * nI n = nI (24 * n) := pk_mul 24 n
set_option maxHeartbeats 1000000 in
theorem M_lengthsNow {α : DD} {β σ : Mem} {Q : Int32 → Mem → Prop} (hO : OkA α β) (hM : RM σ α β) (hq : ∀ ρ, RM ρ α β → LM ρ α 31 → Q (leB α) ρ) : wX7_lengthsNow σ Q := by
  have h14 : σ 0 14 = 0 := hM.1.2.2.2.1
  unfold wX7_lengthsNow
  intro x1 hx1
  rw [hM.2.1.2.1] at hx1
  subst hx1
  have key := up_loop (fun N j => 2 ≤ j → ∀ ρ, (∃ v, HM ρ α β (un (iA α) 3 1 v) (coA (α 0))) → ρ 0 14 = 0 → LM ρ α j → wX7_lengthsNow_9 Q N (nI (iA α 3 1)) (orB (leP α) j) (nI j) ρ) 31 ?_ ?_ 2 (by omega)
  · obtain ⟨N, hN⟩ := key
    have := hN (Nat.le_refl _) σ ⟨iA α 3 1, by rw [un_self]; exact RM_HM hM⟩ h14 (fun v h1 h2 => absurd h1 (by omega))
    rw [leB_2] at this
    exact ⟨N, this⟩
  · intro N _ ρ ⟨v, r1⟩ r2 r3
    rw [wX7_lengthsNow_9, l_ge31 (by omega)]
    refine ⟨fun _ => fun s1 h1 => hq s1 (HM_RM ?_ ?_) ?_, fun z => absurd (Nat.le_refl _) z⟩
    · rw [h1]; exact HM_le r1 (fun r i h => by rw [un_any, if_neg h]) rfl
    · rw [h1, um_nei _ _ (by omega)]; exact r2
    · unfold LM
      rw [h1, um_ne _ _ _ (by omega)]; exact r3
  · intro N j hj ih h2 ρ ⟨v, r1⟩ r2 r3
    rw [wX7_lengthsNow_9, l_ge31 (by omega)]
    refine ⟨fun z => absurd z (by omega), fun _ => fun s1 h1 => ?_⟩
    have H1 : HM s1 α β (un (iA α) 3 1 j) (coA (α 0)) := by rw [h1]; exact HM_le r1 (un_un _ _ _ _ _) un_at
    have z1 : s1 0 14 = 0 := by rw [h1, um_nei _ _ (by omega)]; exact r2
    have I1 : OkI (un (iA α) 3 1 j) := OkI_le (OkI_iA hO) (by omega)
    refine M_isSeen hO I1 H1 (g14 z1 _) (fun s2 H2 z2 d2 f2 => ?_)
    intro y hy
    rw [if10] at hy
    have ey : y = orB (leP α) (j + 1) := by
      rw [hy, ← orB_i (leP α) j, leP_2 h2]
      rfl
    subst ey
    have L2 : LM s2 α j := by
      unfold LM
      rw [f2.1 24 (by omega) (by omega), h1, um_ne _ _ _ (by omega)]
      exact r3
    have key2 := up_loop (fun N2 b => ∀ ω, HM ω α β (un (iA α) 3 1 j) (coA (α 0)) → ω 0 14 = 0 → LM ω α j → (∀ b2, b2 < b → ω 24 (24 * j + b2) = nI (leF α j b2)) → (∀ b2, b2 < 24 → ω 21 b2 = nI (leF α j b2)) → wX7_lengthsNow_40 (fun x1 x2 x3 ρ => wX7_lengthsNow_9 Q N x1 x2 x3 ρ) Q N2 (nI (iA α 3 1)) (orB (leP α) (j + 1)) (nI j) (nI b) ω) 24 ?_ ?_ 0 (Nat.zero_le _)
    · obtain ⟨N2, hN2⟩ := key2
      exact ⟨N2, hN2 s2 H2 (z2.trans z1) L2 (fun b2 h => absurd h (by omega)) (fun b2 h => (d2.2 b2 h).1)⟩
    · intro N2 ω o1 o2 o3 o4 o5
      rw [wX7_lengthsNow_40, l_ge24 (by omega), i1]
      refine ⟨fun _ => ih (by omega) ω ⟨j, o1⟩ o2 (fun w a1 a2 b hb => ?_), fun z => absurd (Nat.le_refl _) z⟩
      by_cases e : w = j
      · subst e; exact o4 b hb
      · exact o3 w a1 (by omega) b hb
    · intro N2 b hb ih2 ω o1 o2 o3 o4 o5
      rw [wX7_lengthsNow_40, l_ge24 (by omega), n24, nI_add, nI_clamp (show b < 2 ^ 31 by omega), nI_clamp (show 24 * j + b < 2 ^ 31 by omega), o5 b hb, i1, i1]
      refine ⟨fun z => absurd z (by omega), fun _ => ⟨vp_in_nI (by omega) (by omega), vp_in_nI (by omega) (by omega), fun s3 h3 => ih2 s3 ?_ ?_ (fun w a1 a2 c hc => ?_) (fun c hc => ?_) (fun c hc => ?_)⟩⟩
      · rw [h3]; exact HM_24 o1
      · rw [h3, um_ne _ _ _ (by omega)]; exact o2
      · rw [h3, um_nei _ _ (by omega)]; exact o3 w a1 a2 c hc
      · rw [h3, um_any]
        by_cases e : c = b
        · rw [if_pos ⟨rfl, by omega⟩, e]
        · rw [if_neg (by omega)]; exact o4 c (by omega)
      · rw [h3, um_ne _ _ _ (by omega)]; exact o5 c hc
theorem M_lengths {α : DD} {β σ : Mem} {Q : Int32 → Mem → Prop} (hO : OkA α β) (hM : IM σ α β) (hq : ∀ ρ, RM ρ α β → Q (leB α) ρ) : wX7_lengths σ Q := by
  unfold wX7_lengths
  exact s_find hO hM (fun ρ hρ hD => M_lengthsNow hO hρ (fun ω h _ => hq ω h))
theorem L27 : okL_27 RR := fun σ τ ⟨α, β, hO, hX, hM⟩ => X_lengths hO hX (fun ρ hρ _ => M_lengths hO hM (fun ω hω => ⟨rfl, α, β, hO, hρ, hω.1⟩))
