/-! runs of one colour -/
def nowR (cs : Nat → Nat) : Nat → Nat
  | 0 => 0
  | i + 1 => if (0 < i ∧ cs i = cs (i - 1)) then nowR cs i + 1 else 1
def mostR (cs : Nat → Nat) : Nat → Nat
  | 0 => 0
  | i + 1 => if nowR cs (i + 1) ≤ mostR cs i then mostR cs i else nowR cs (i + 1)
def firstR (cs : Nat → Nat) : Nat → Int32
  | 0 => -1
  | i + 1 => if nowR cs (i + 1) ≤ mostR cs i then firstR cs i else nI (i + 1 - nowR cs (i + 1))
theorem nowR_le (cs : Nat → Nat) : ∀ i, nowR cs i ≤ i
  | 0 => Nat.le_refl _
  | i + 1 => by
    have := nowR_le cs i
    unfold nowR
    split <;> omega
theorem nowR_pos (cs : Nat → Nat) (i : Nat) : 1 ≤ nowR cs (i + 1) := by
  unfold nowR
  split <;> omega
theorem nowR_cs (cs : Nat → Nat) : ∀ i, cs (i + 1 - nowR cs (i + 1)) = cs i
  | 0 => by
    unfold nowR
    rw [if_neg (fun y => absurd y.1 (Nat.lt_irrefl _))]
  | i + 1 => by
    have h := nowR_cs cs i
    unfold nowR
    split
    · rename_i c
      rw [show i + 1 + 1 - (nowR cs (i + 1) + 1) = i + 1 - nowR cs (i + 1) by omega, h]
      exact c.2.symm
    · rw [show i + 1 + 1 - 1 = i + 1 by omega]
theorem mostR_le (cs : Nat → Nat) : ∀ i, mostR cs i ≤ i
  | 0 => Nat.le_refl _
  | i + 1 => by
    have := mostR_le cs i
    have := nowR_le cs (i + 1)
    unfold mostR
    split <;> omega
theorem sub1 {j n : Nat} (h : n ≤ j + 1) : nI j - nI n + 1 = nI (j + 1 - n) := by
  rw [← nI_sub h, ← i1, Int32.sub_eq_add_neg, Int32.sub_eq_add_neg, Int32.add_assoc, Int32.add_comm (-nI n), ← Int32.add_assoc]
theorem X_run0 {d c0 n x : Nat} {ov cs : Nat → Nat} {σ : Mem} {Q : Int32 → Mem → Prop} (hn : n ≤ 120) (h16 : σ d 16 = nI n) (hov : ∀ i, i < n → σ (d + 11) i = nI (ov i) ∧ ov i < 8) (hco : ∀ i, i < n → σ c0 (ov i) = nI (cs i) ∧ cs i < 2 ^ 31) (hx : x < 2) (hq : Q (if x = 0 then nI (mostR cs n) else firstR cs n) σ) : wX0_longestRun d c0 8 (nI x) σ Q := by
  unfold wX0_longestRun
  have key := up_loop (fun N j => wX0_longestRun_11 Q N d c0 8 (nI x) (nI (mostR cs j)) (firstR cs j) (nI (j - nowR cs j)) (nI j) σ) n ?_ ?_ 0 (Nat.zero_le _)
  · exact key
  · intro N
    rw [wX0_longestRun_11, h16, i_le (by omega) (by omega)]
    refine ⟨fun _ => ?_, fun z => absurd (Nat.le_refl _) z⟩
    unfold wX0_longestRun_74
    by_cases c : x = 0
    · rw [if_pos c] at hq; rw [c, if_pos (show nI 0 = (0 : Int32) from rfl)]; exact hq
    · rw [if_neg c] at hq; rw [if_neg (by rw [neq0 (by omega)]; exact c)]; exact hq
  · intro N j hj ih
    have l1 := nowR_le cs j
    have l2 := nowR_le cs (j + 1)
    have l3 := nowR_pos cs j
    have l4 := mostR_le cs j
    obtain ⟨o1, o2⟩ := hov j hj
    obtain ⟨o3, o4⟩ := hov (j - nowR cs j) (by omega)
    obtain ⟨c1, c2⟩ := hco j hj
    obtain ⟨c3, c4⟩ := hco (j - nowR cs j) (by omega)
    have go : wX0_longestRun_45 (fun b0 b1 nb1 x2 x3 x4 x5 x6 ρ => wX0_longestRun_11 Q N b0 b1 nb1 x2 x3 x4 x5 x6 ρ) Q d c0 8 (nI x) (nI (mostR cs j)) (firstR cs j) (nI (j + 1 - nowR cs (j + 1))) (nI j) σ := by
      unfold wX0_longestRun_45
      have e : nI j - nI (j + 1 - nowR cs (j + 1)) + 1 = nI (nowR cs (j + 1)) := by rw [sub1 (by omega)]; congr 1; omega
      rw [e, i_le (by omega) (by omega), i1]
      refine ⟨fun z => ?_, fun z => ?_⟩
      · rw [mostR, if_pos z, firstR, if_pos z] at ih
        exact ih
      · intro y hy
        subst hy
        rw [mostR, if_neg z, firstR, if_neg z] at ih
        exact ih
    rw [wX0_longestRun_11, h16, i_le (by omega) (by omega), nI_clamp (show j < 2 ^ 31 by omega), nI_clamp (show j - nowR cs j < 2 ^ 31 by omega), o1, o3, nI_clamp (show ov j < 2 ^ 31 by omega), nI_clamp (show ov (j - nowR cs j) < 2 ^ 31 by omega), c1, c3, i_eq c2 c4]
    refine ⟨fun z => absurd z (by omega), fun _ => ⟨vp_in_nI (by omega) (by omega), vp_in_nI (by omega) (by omega), vp_in_nI (by omega) (by omega), vp_in_nI (by omega) (by omega), fun z => ?_, fun z => ?_⟩⟩
    · have : j + 1 - nowR cs (j + 1) = j - nowR cs j := by
        by_cases c : j = 0
        · subst c; unfold nowR; rw [if_neg (fun y => absurd y.1 (Nat.lt_irrefl _))]
        · have h := nowR_cs cs (j - 1)
          rw [show j - 1 + 1 = j by omega] at h
          rw [h] at z
          have : nowR cs (j + 1) = nowR cs j + 1 := by
            rw [nowR, if_pos ⟨by omega, z⟩]
          omega
      rw [this] at go
      exact go
    · have : j + 1 - nowR cs (j + 1) = j := by
        by_cases c : j = 0
        · subst c; exact absurd rfl z
        · have h := nowR_cs cs (j - 1)
          rw [show j - 1 + 1 = j by omega] at h
          rw [h] at z
          have : nowR cs (j + 1) = 1 := by
            rw [nowR, if_neg (fun y => z y.2)]
          omega
      rw [this] at go
      exact go
theorem M_run0 {n nd x : Nat} {ov co : Nat → Nat} {σ : Mem} {Q : Int32 → Mem → Prop} (h8 : nd ≤ 8) (hn : n ≤ 120) (h16 : σ 0 20 = nI n) (hov : ∀ i, i < n → σ 14 i = nI (ov i) ∧ ov i < nd) (hco : ∀ d, d < nd → σ 7 (3 * d + 2) = nI (co d)) (hc : ∀ d, d < nd → co d < 2 ^ 31) (hx : x < 2) (hq : Q (if x = 0 then nI (mostR (fun i => co (ov i)) n) else firstR (fun i => co (ov i)) n) σ) : wX7_runBy (nI x) σ Q := by
  unfold wX7_runBy
  have key := up_loop (fun N j => wX7_runBy_10 Q N (nI x) (nI (mostR (fun i => co (ov i)) j)) (firstR (fun i => co (ov i)) j) (nI (nowR (fun i => co (ov i)) j)) (nI j) σ) n ?_ ?_ 0 (Nat.zero_le _)
  · exact key
  · intro N
    rw [wX7_runBy_10, h16, i_le (by omega) (by omega)]
    refine ⟨fun _ => ?_, fun z => absurd (Nat.le_refl _) z⟩
    unfold wX7_runBy_82
    by_cases c : x = 0
    · rw [if_pos c] at hq; rw [c, if_pos (show nI 0 = (0 : Int32) from rfl)]; exact hq
    · rw [if_neg c] at hq; rw [if_neg (by rw [neq0 (by omega)]; exact c)]; exact hq
  · intro N j hj ih
    have l1 := nowR_le (fun i => co (ov i)) j
    have l2 := nowR_le (fun i => co (ov i)) (j + 1)
    have l3 := nowR_pos (fun i => co (ov i)) j
    have l4 := mostR_le (fun i => co (ov i)) j
    have go : ∀ y, y = nI (nowR (fun i => co (ov i)) (j + 1)) → wX7_runBy_49 (fun x1 x2 x3 x4 x5 ρ => wX7_runBy_10 Q N x1 x2 x3 x4 x5 ρ) Q (nI x) (nI (mostR (fun i => co (ov i)) j)) (firstR (fun i => co (ov i)) j) (nI j) y σ := by
      intro y hy
      subst hy
      unfold wX7_runBy_49
      intro w hw
      unfold wX7_greater
      rw [i1]
      by_cases c : nowR (fun i => co (ov i)) (j + 1) ≤ mostR (fun i => co (ov i)) j
      · rw [mostR, if_pos c, firstR, if_pos c] at ih
        rw [if_pos (by rw [i_le (by omega) (by omega)]; exact c)] at hw ⊢
        subst hw
        exact ih
      · rw [mostR, if_neg c, firstR, if_neg c] at ih
        rw [if_neg (by rw [i_le (by omega) (by omega)]; exact c)] at hw ⊢
        rw [sub1 l2] at hw
        subst hw
        exact ih
    rw [wX7_runBy_10, h16, i_le (by omega) (by omega), nle0 (by omega)]
    refine ⟨fun z => absurd z (by omega), fun _ => ⟨fun z => go _ ?_, fun z => ?_⟩⟩
    · subst z
      rw [nowR, if_neg (fun y => absurd y.1 (Nat.lt_irrefl _))]; rfl
    · refine M_colourOf h8 hn hj hov hco ?_
      rw [nI_m1 (by omega)]
      refine M_colourOf h8 hn (show j - 1 < n by omega) hov hco ?_
      rw [i_eq (hc _ (hov j hj).2) (hc _ (hov (j - 1) (by omega)).2)]
      refine ⟨fun y => go _ ?_, fun y => go _ ?_⟩
      · rw [nowR, if_neg (fun w => y w.2)]; rfl
      · rw [nowR, if_pos ⟨by omega, y⟩, i1]
def csE (α : DD) (i : Nat) : Nat := coA (α 0) (DE α 5 i)
def ruB (α : DD) (k : Nat) : Int32 := if k = 0 then nI (mostR (csE α) (DE α 4 0)) else firstR (csE α) (DE α 4 0)
def ruS (α : DD) (x : Int32) : Int32 := if gd x 2 = true then ruB α (tn x) else -2
theorem X_run {x1 : Int32} {α : DD} {β σ : Mem} {Q : Int32 → Mem → Prop} (hO : OkA α β) (hX : IX σ α β) (hq : ∀ ρ, IX ρ α β → Q (ruS α x1) ρ) : wX6_run x1 σ Q := by
  have hn := hO.nd
  unfold wX6_run
  unfold ruS at hq
  refine G_twoX (g_ny (fun g1 => s_danced hO hX (fun ρ hρ hD => ?_)) (fun g1 => ?_))
  · rw [if_pos g1] at hq
    obtain ⟨k, hk, rfl, e1⟩ := gd_of (by omega) g1
    rw [e1] at hq
    refine X_run0 (ov := DE α 5) (cs := csE α) (onE hO) hD.1.1.2.2.1 (fun i hi => ⟨(hD.1.1.2.1 i hi).1, ?_⟩) (fun i hi => ⟨hρ.1.2.2.2.1 _ (ovE hO hi), ?_⟩) hk (hq ρ hρ)
    · have := ovE hO hi; omega
    · have := coA_lt (ovE hO hi); unfold csE; omega
  · rw [if_neg (by rw [g1]; decide)] at hq; exact hq σ hX
theorem M_runBy {k : Nat} {α : DD} {β σ : Mem} {Q : Int32 → Mem → Prop} (hO : OkA α β) (hM : RM σ α β) (hD : DOM σ (iA α) (bkA α)) (hk : k < 2) (hq : Q (ruB α k) σ) : wX7_runBy (nI k) σ Q :=
  M_run0 (ov := DE α 5) (co := coA (α 0)) hO.nd (onE hO) hD.1.1.2.2.1 (M_ov hO hD) hM.2.2.1 (fun d hd => by have := coA_lt hd; omega) hk hq
theorem M_run {x1 : Int32} {α : DD} {β σ : Mem} {Q : Int32 → Mem → Prop} (hO : OkA α β) (hM : IM σ α β) (hq : ∀ ρ, RM ρ α β → Q (ruS α x1) ρ) : wX7_run x1 σ Q := by
  unfold wX7_run
  unfold ruS at hq
  refine s_find hO hM (fun ρ hρ hD => G_twoM (g_ny (fun g1 => ?_) (fun g1 => ?_)))
  · rw [if_pos g1] at hq
    obtain ⟨b, hb, rfl, e1⟩ := gd_of (by omega) g1
    rw [e1] at hq
    exact M_runBy hO hρ hD hb (hq ρ hρ)
  · rw [if_neg (by rw [g1]; decide)] at hq; exact hq ρ hρ
theorem L15 : okL_15 RR := fun σ τ a1 ⟨α, β, hO, hX, hM⟩ => X_run hO hX (fun ρ hρ => M_run hO hM (fun ω hω => ⟨rfl, α, β, hO, hρ, hω.1⟩))
