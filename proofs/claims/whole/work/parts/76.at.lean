def gd (x : Int32) (n : Nat) : Bool := decide (0 ≤ x.toInt ∧ x.toInt < n)
def tn (x : Int32) : Nat := x.toInt.toNat
theorem gd_iff {x : Int32} {n : Nat} : gd x n = true ↔ (0 ≤ x.toInt ∧ x.toInt < n) := by simp [gd]
theorem gd_of {x : Int32} {n : Nat} (hn : n < 2 ^ 31) (h : gd x n = true) : ∃ j, j < n ∧ x = nI j ∧ tn x = j := by
  rw [gd_iff] at h
  obtain ⟨j, hj, rfl⟩ := nat_of h.1 (n := n - 1) (by omega) (by omega)
  rw [toI (by omega)] at h
  exact ⟨j, by omega, rfl, by unfold tn; rw [toI (by omega)]; omega⟩
theorem gd_nI {j n : Nat} (h : j < n) (hn : n < 2 ^ 31) : gd (nI j) n = true := by
  rw [gd_iff, toI (by omega)]
  omega
theorem tn_nI {j : Nat} (h : j < 2 ^ 31) : tn (nI j) = j := by
  unfold tn
  rw [toI h]
  omega
theorem gif {x : Int32} {n m : Nat} (h : n = m + 1) : (if (0 ≤ x.toInt ∧ x.toInt ≤ m) then (1 : Int32) else 0) = if gd x n = true then 1 else 0 := by
  by_cases c : gd x n = true
  · rw [if_pos c, if_pos (by rw [gd_iff] at c; omega)]
  · rw [if_neg c, if_neg (by rw [gd_iff] at c; omega)]
theorem gift {x : Int32} {n : Nat} : (if (0 ≤ x.toInt ∧ x.toInt < n) then (1 : Int32) else 0) = if gd x n = true then 1 else 0 := by
  by_cases c : gd x n = true
  · rw [if_pos c, if_pos (by rw [gd_iff] at c; omega)]
  · rw [if_neg c, if_neg (by rw [gd_iff] at c; omega)]
/-- the two ways of a guard -/
theorem g_yn {b : Bool} {P R : Prop} (h1 : b = true → P) (h2 : b = false → R) : ((¬ (if b = true then (1 : Int32) else 0) = 0) → P) ∧ (((if b = true then (1 : Int32) else 0) = 0) → R) := by
  cases b
  · exact ⟨fun z => absurd rfl z, fun _ => h2 rfl⟩
  · exact ⟨fun _ => h1 rfl, fun z => absurd z one_ne⟩
theorem g_ny {b : Bool} {P R : Prop} (h1 : b = true → P) (h2 : b = false → R) : (((if b = true then (1 : Int32) else 0) = 0) → R) ∧ ((¬ (if b = true then (1 : Int32) else 0) = 0) → P) := (g_yn h1 h2).symm
theorem G_beatX {x : Int32} {σ : Mem} {Q : Int32 → Mem → Prop} (hq : Q (if gd x 24 = true then 1 else 0) σ) : wX6_isBeat x σ Q := s_isBeatX (by rw [show (23 : Int) = ((23 : Nat) : Int) from rfl, gif (n := 24) rfl]; exact hq)
theorem G_beatM {x : Int32} {σ : Mem} {Q : Int32 → Mem → Prop} (hq : Q (if gd x 24 = true then 1 else 0) σ) : wX7_isBeat x σ Q := s_isBeatM (by rw [show (23 : Int) = ((23 : Nat) : Int) from rfl, gif (n := 24) rfl]; exact hq)
theorem G_twoX {x : Int32} {σ : Mem} {Q : Int32 → Mem → Prop} (hq : Q (if gd x 2 = true then 1 else 0) σ) : wX6_isEither x σ Q := s_isEither (by rw [show (1 : Int) = ((1 : Nat) : Int) from rfl, gif (n := 2) rfl]; exact hq)
theorem G_twoM {x : Int32} {σ : Mem} {Q : Int32 → Mem → Prop} (hq : Q (if gd x 2 = true then 1 else 0) σ) : wX7_isTwo x σ Q := s_isTwo (by rw [show (1 : Int) = ((1 : Nat) : Int) from rfl, gif (n := 2) rfl]; exact hq)
theorem G_dX {x : Int32} {α : DD} {β σ : Mem} {Q : Int32 → Mem → Prop} (hO : OkA α β) (hX : IX σ α β) (hq : Q (if gd x (nDa α) = true then 1 else 0) σ) : wX6_isDancer x σ Q := by
  have := hO.nd
  exact s_isDancerX (n := nDa α) (by omega) (by rw [hX.1.2.2.1.1, iA30]) (by rw [gift]; exact hq)
theorem G_dM {x : Int32} {α : DD} {β σ : Mem} {Q : Int32 → Mem → Prop} (hO : OkA α β) (hM : RM σ α β) (hq : Q (if gd x (nDa α) = true then 1 else 0) σ) : wX7_isDancer x σ Q := by
  have := hO.nd
  exact s_isDancerM (n := nDa α) (by omega) (by rw [hM.2.1.1, iA30]) (by rw [gift]; exact hq)
theorem G_in {x : Int32} {n m : Nat} {hi : Int64} {σ : Mem} {Q : Int32 → Mem → Prop} (h : n = m + 1) (hh : hi.toInt = m) (hq : Q (if gd x n = true then 1 else 0) σ) : wX7_in x.toInt64 (0 : Int64) hi σ Q := s_in (a := 0) (b := m) rfl hh (by rw [gif h]; exact hq)
/-! at -/
def DB (α : DD) (b : Nat) : DD := danceD (iA α) (bkA α) (b + 1)
def DE (α : DD) : DD := danceD (iA α) (bkA α) 24
def atS (α : DD) (x1 x2 x3 : Int32) : Int32 := if (gd x1 24 && gd x2 (nDa α) && gd x3 3) = true then nI (DB α (tn x1) (tn x3) (tn x2)) else -2
theorem X_at {x1 x2 x3 : Int32} {α : DD} {β σ : Mem} {Q : Int32 → Mem → Prop} (hO : OkA α β) (hX : IX σ α β) (hq : ∀ ρ, IX ρ α β → Q (atS α x1 x2 x3) ρ) : wX6_at x1 x2 x3 σ Q := by
  have hn := hO.nd
  unfold wX6_at
  unfold atS at hq
  refine G_beatX (g_ny (fun g1 => G_dX hO hX (g_yn (fun g2 => s_danced hO hX (fun ρ hρ hD => ?_)) (fun g2 => ?_))) (fun g1 => ?_))
  · rw [g1, g2] at hq
    obtain ⟨b, hb, rfl, e1⟩ := gd_of (by omega) g1
    obtain ⟨d, hd, rfl, e2⟩ := gd_of (by omega) g2
    rw [e1, e2] at hq
    intro y hy
    have ey : y = nI (8 * b + d) := by rw [hy, show nI b * (8 : Int32) = nI (b * 8) from pk_mul b 8, Nat.mul_comm b 8]; exact nI_add _ _
    subst ey
    rw [nI_clamp (by omega)]
    obtain ⟨_, _, q⟩ := hD.2 b hb
    obtain ⟨q0, q1, q2⟩ := q d (by rw [iA30]; exact hd)
    refine ⟨fun z => ⟨vp_in_nI (by omega) (by omega), ?_⟩, fun z => ⟨vp_in_nI (by omega) (by omega), ?_⟩, fun z => ⟨vp_in_nI (by omega) (by omega), ?_⟩, fun z => ?_⟩
    · subst z; rw [q0]; exact hq ρ hρ
    · subst z; rw [q1]; exact hq ρ hρ
    · subst z; rw [q2]; exact hq ρ hρ
    · have : gd x3 3 = false := by
        cases h : gd x3 3
        · rfl
        · rw [gd_iff] at h; omega
      rw [this] at hq
      exact hq ρ hρ
  · rw [g1, g2] at hq; exact hq σ hX
  · rw [g1] at hq; exact hq σ hX
theorem M_atBy {b d k : Nat} {α : DD} {β σ : Mem} {Q : Int32 → Mem → Prop} (hO : OkA α β) (hD : DOM σ (iA α) (bkA α)) (hb : b < 24) (hd : d < nDa α) (hk : k < 3) (hq : Q (nI (DB α b k d)) σ) : wX7_atBy (nI b) (nI d) (nI k) σ Q := by
  have hn := hO.nd
  unfold wX7_atBy
  intro y hy
  have ey : y = nI (8 * b + d) := by rw [hy, n8]; exact nI_add _ _
  subst ey
  rw [nI_clamp (by omega), neq0 (by omega), show (nI k = (1 : Int32)) = (k = 1) from i_eq (b := 1) (by omega) (by omega)]
  obtain ⟨_, _, q⟩ := hD.2 b hb
  obtain ⟨q0, q1, q2⟩ := q d (by rw [iA30]; exact hd)
  refine ⟨fun z => ⟨fun y => ⟨vp_in_nI (by omega) (by omega), ?_⟩, fun y => ⟨vp_in_nI (by omega) (by omega), ?_⟩⟩, fun z => ⟨vp_in_nI (by omega) (by omega), ?_⟩⟩
  · have : k = 2 := by omega
    subst this; rw [q2]; exact hq
  · subst y; rw [q1]; exact hq
  · subst z; rw [q0]; exact hq
theorem M_at {x1 x2 x3 : Int32} {α : DD} {β σ : Mem} {Q : Int32 → Mem → Prop} (hO : OkA α β) (hM : IM σ α β) (hq : ∀ ρ, RM ρ α β → Q (atS α x1 x2 x3) ρ) : wX7_at x1 x2 x3 σ Q := by
  have hn := hO.nd
  unfold wX7_at
  unfold atS at hq
  refine s_find hO hM (fun ρ hρ hD => G_beatM (g_ny (fun g1 => G_dM hO hρ (g_ny (fun g2 => G_in (n := 3) (m := 2) rfl rfl (g_ny (fun g3 => ?_) (fun g3 => ?_))) (fun g2 => ?_))) (fun g1 => ?_)))
  · rw [g1, g2, g3] at hq
    obtain ⟨b, hb, rfl, e1⟩ := gd_of (by omega) g1
    obtain ⟨d, hd, rfl, e2⟩ := gd_of (by omega) g2
    obtain ⟨k, hk, rfl, e3⟩ := gd_of (by omega) g3
    rw [e1, e2, e3] at hq
    exact M_atBy hO hD hb hd hk (hq ρ hρ)
  · rw [g1, g2, g3] at hq; exact hq ρ hρ
  · rw [g1, g2] at hq; exact hq ρ hρ
  · rw [g1] at hq; exact hq ρ hρ
theorem L10 : okL_10 RR := fun σ τ a1 a2 a3 ⟨α, β, hO, hX, hM⟩ => X_at hO hX (fun ρ hρ => M_at hO hM (fun ω hω => ⟨rfl, α, β, hO, hρ, hω.1⟩))
