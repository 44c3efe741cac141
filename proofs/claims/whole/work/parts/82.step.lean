theorem if0 {k : Nat} (h : k < 2 ^ 31) (a b : Int32) : (if nI k = (0 : Int32) then a else b) = if k = 0 then a else b := by
  by_cases c : k = 0
  · rw [if_pos c, if_pos (by rw [c]; rfl)]
  · rw [if_neg c, if_neg (by rw [neq0 h]; exact c)]
theorem l_ge2 {n : Nat} (h : n < 2 ^ 31) : ((2 : Int32) ≤ nI n) = (2 ≤ n) := i_le (a := 2) (by omega) h
theorem l_ge3 {n : Nat} (h : n < 2 ^ 31) : ((3 : Int32) ≤ nI n) = (3 ≤ n) := i_le (a := 3) (by omega) h
theorem l_ge4 {n : Nat} (h : n < 2 ^ 31) : ((4 : Int32) ≤ nI n) = (4 ≤ n) := i_le (a := 4) (by omega) h
theorem l_ge8 {n : Nat} (h : n < 2 ^ 31) : ((8 : Int32) ≤ nI n) = (8 ≤ n) := i_le (a := 8) (by omega) h
theorem l_ge10 {n : Nat} (h : n < 2 ^ 31) : ((10 : Int32) ≤ nI n) = (10 ≤ n) := i_le (a := 10) (by omega) h
theorem l_ge12 {n : Nat} (h : n < 2 ^ 31) : ((12 : Int32) ≤ nI n) = (12 ≤ n) := i_le (a := 12) (by omega) h
theorem l_ge31 {n : Nat} (h : n < 2 ^ 31) : ((31 : Int32) ≤ nI n) = (31 ≤ n) := i_le (a := 31) (by omega) h
theorem l_lt1 {n : Nat} (h : n < 2 ^ 31) : ((1 : Int32) < nI n) = (1 < n) := i_lt (a := 1) (by omega) h
theorem l_lt2 {n : Nat} (h : n < 2 ^ 31) : ((2 : Int32) < nI n) = (2 < n) := i_lt (a := 2) (by omega) h
theorem l_lt3 {n : Nat} (h : n < 2 ^ 31) : ((3 : Int32) < nI n) = (3 < n) := i_lt (a := 3) (by omega) h
theorem l_lt7 {n : Nat} (h : n < 2 ^ 31) : ((7 : Int32) < nI n) = (7 < n) := i_lt (a := 7) (by omega) h
theorem l_lt30 {n : Nat} (h : n < 2 ^ 31) : ((30 : Int32) < nI n) = (30 < n) := i_lt (a := 30) (by omega) h
theorem OkI_st {ι : DD} {b s : Nat} (h : OkI ι) (hs : s ≤ 3) : OkI (un ι 2 b s) := by
  refine ⟨by rw [un_ne (by omega)]; exact h.1, by rw [un_ne (by omega)]; exact h.2.1, fun i hi => ?_, fun b2 hb2 => ?_⟩
  · rw [un_ne (by omega)] at hi
    rw [un_ne (by omega), un_ne (by omega)]
    exact h.2.2.1 i hi
  · rw [un_any]
    split
    · exact hs
    · exact h.2.2.2 b2 hb2
theorem OkI_pl {ι : DD} {d s : Nat} (h : OkI ι) (hs : s < 12) : OkI (un ι 0 d s) := by
  refine ⟨by rw [un_ne (by omega)]; exact h.1, by rw [un_ne (by omega)]; exact h.2.1, fun i hi => ?_, fun b2 hb2 => ?_⟩
  · rw [un_ne (by omega)] at hi
    rw [un_any, un_ne (by omega)]
    refine ⟨?_, (h.2.2.1 i hi).2⟩
    split
    · exact hs
    · exact (h.2.2.1 i hi).1
  · rw [un_ne (by omega)]
    exact h.2.2.2 b2 hb2
theorem OkI_wy {ι : DD} {d s : Nat} (h : OkI ι) (hs : s ≤ 1) : OkI (un ι 1 d s) := by
  refine ⟨by rw [un_ne (by omega)]; exact h.1, by rw [un_ne (by omega)]; exact h.2.1, fun i hi => ?_, fun b2 hb2 => ?_⟩
  · rw [un_ne (by omega)] at hi
    rw [un_any _ _ _ _ 1 i, un_ne (by omega)]
    refine ⟨(h.2.2.1 i hi).1, ?_⟩
    split
    · exact hs
    · exact (h.2.2.1 i hi).2
  · rw [un_ne (by omega)]
    exact h.2.2.2 b2 hb2
theorem OkI_le {ι : DD} {s : Nat} (h : OkI ι) (hs : s ≤ 30) : OkI (un ι 3 1 s) := by
  refine ⟨by rw [un_nei (by omega)]; exact h.1, by rw [un_at]; exact hs, fun i hi => ?_, fun b2 hb2 => ?_⟩
  · rw [un_nei (by omega)] at hi
    rw [un_ne (by omega), un_ne (by omega)]
    exact h.2.2.1 i hi
  · rw [un_ne (by omega)]
    exact h.2.2.2 b2 hb2
/-! step -/
def stF (α : DD) (b v : Nat) : Int32 := nI (danceD (un (iA α) 2 b v) (bkA α) 24 4 0)
def stB (α : DD) (b k : Nat) : Int32 := if k = 0 then mI (fun _ => true) (stF α b) (-1) 4 else mV (fun _ => true) (stF α b) (-1) 4
def stS (α : DD) (x1 x2 : Int32) : Int32 := if (gd x1 24 && gd x2 2) = true then stB α (tn x1) (tn x2) else -2
set_option maxHeartbeats 1000000 in
theorem X_step {x1 x2 : Int32} {α : DD} {β σ : Mem} {Q : Int32 → Mem → Prop} (hO : OkA α β) (hX : IX σ α β) (hq : ∀ ρ, IX ρ α β → Q (stS α x1 x2) ρ) : wX6_step x1 x2 σ Q := by
  unfold wX6_step
  unfold stS at hq
  refine G_beatX (g_ny (fun g1 => G_twoX (g_yn (fun g2 => X_become hO hX (fun τ t1 t2 _ _ => ?_)) (fun g2 => ?_))) (fun g1 => ?_))
  · rw [g1, g2] at hq
    obtain ⟨b, hb, rfl, e1⟩ := gd_of (by omega) g1
    obtain ⟨k, hk, rfl, e2⟩ := gd_of (by omega) g2
    rw [e1, e2] at hq
    have key := up_loop (fun N j => ∀ σ, IX σ α β → (∃ v, SKX σ 15 (un (iA α) 2 b v) (evm (α 2 3))) → wX6_step_36 Q N (nI b) (nI k) (mI (fun _ => true) (stF α b) (-1) j) (mV (fun _ => true) (stF α b) (-1) j) (nI j) σ) 4 ?_ ?_ 0 (Nat.zero_le _)
    · obtain ⟨N, hN⟩ := key
      exact ⟨N, hN τ t1 ⟨iA α 2 b, by rw [un_self]; exact t2⟩⟩
    · intro N ρ r1 r2
      rw [wX6_step_36, l_lt3 (by omega)]
      refine ⟨fun _ => ?_, fun z => absurd (by omega) z⟩
      unfold wX6_step_98
      rw [if0 (by omega)]
      exact hq ρ r1
    · intro N j hj ih ρ r1 ⟨v, r2⟩
      rw [wX6_step_36, l_lt3 (by omega), nI_clamp (by omega), i1]
      refine ⟨fun z => absurd z (by omega), fun _ => ⟨vp_in_nI (by omega) (by omega), ?_⟩⟩
      intro s1 h1
      have S1 : SKX s1 15 (un (iA α) 2 b j) (evm (α 2 3)) := by rw [h1]; exact SKX_st r2 (un_un _ _ _ _ _) un_at
      have X1 : IX s1 α β := by rw [h1]; exact IX_tr r1 (by omega) (by omega)
      refine X_play (act := fun _ => true) X1 (OkI_st (OkI_iA hO) (by omega)) S1 (bt_evA hO) (fun s2 x2 k2 d2 _ => ?_)
      have e16 : s2 35 16 = stF α b j := d2.1.1.2.2.1
      rw [e16]
      refine ⟨fun z => ?_, fun z => ?_⟩
      · have e := mV_l (p := fun _ => true) (f := stF α b) (m0 := -1) (n := j) rfl z
        rw [e.1, e.2] at ih
        exact ih s2 x2 ⟨j, k2⟩
      · intro y hy
        subst hy
        have e := mV_g (p := fun _ => true) (f := stF α b) (m0 := -1) (n := j) rfl z
        rw [e.1, e.2] at ih
        exact ih s2 x2 ⟨j, k2⟩
  · rw [g1, g2] at hq; exact hq σ hX
  · rw [g1] at hq; exact hq σ hX
set_option maxHeartbeats 1000000 in
theorem M_stepIn {b k : Nat} {α : DD} {β σ : Mem} {Q : Int32 → Mem → Prop} (hO : OkA α β) (hM : RM σ α β) (hb : b < 24) (hk : k < 2) (hq : ∀ ρ, RM ρ α β → Q (stB α b k) ρ) : wX7_stepIn (nI b) (nI k) σ Q := by
  have h14 : σ 0 14 = 0 := hM.1.2.2.2.1
  unfold wX7_stepIn
  have e8 : σ 8 b = nI (iA α 2 b) := hM.2.1.2.2.2 b hb
  rw [nI_clamp (by omega), e8]
  refine ⟨vp_in_nI (by omega) (by omega), fun y hy => ?_⟩
  subst hy
  have key := up_loop (fun N j => ∀ ρ, (∃ v, HM ρ α β (un (iA α) 2 b v) (coA (α 0))) → ρ 0 14 = 0 → wX7_stepIn_16 Q N (nI b) (nI k) (nI (iA α 2 b)) (mI (fun _ => true) (stF α b) (-1) j) (mV (fun _ => true) (stF α b) (-1) j) (nI j) ρ) 4 ?_ ?_ 0 (Nat.zero_le _)
  · obtain ⟨N, hN⟩ := key
    exact ⟨N, hN σ ⟨iA α 2 b, by rw [un_self]; exact RM_HM hM⟩ h14⟩
  · intro N ρ ⟨v, r1⟩ r2
    rw [wX7_stepIn_16, l_ge4 (by omega)]
    refine ⟨fun _ => ?_, fun z => absurd (Nat.le_refl _) z⟩
    unfold wX7_stepIn_69
    rw [nI_clamp (by omega), if0 (by omega)]
    refine ⟨vp_in_nI (by omega) (by omega), fun s1 h1 => ?_⟩
    refine hq s1 (HM_RM ?_ ?_)
    · rw [h1]; exact HM_st r1 (fun r i h => by rw [un_any, if_neg h]) rfl
    · rw [h1, um_ne _ _ _ (by omega)]; exact r2
  · intro N j hj ih ρ ⟨v, r1⟩ r2
    rw [wX7_stepIn_16, l_ge4 (by omega), nI_clamp (by omega), i1]
    refine ⟨fun z => absurd z (by omega), fun _ => ⟨vp_in_nI (by omega) (by omega), fun s1 h1 => ?_⟩⟩
    have H1 : HM s1 α β (un (iA α) 2 b j) (coA (α 0)) := by rw [h1]; exact HM_st r1 (un_un _ _ _ _ _) un_at
    have z1 : s1 0 14 = 0 := by rw [h1, um_ne _ _ _ (by omega)]; exact r2
    refine M_livesH (OkI_st (OkI_iA hO) (by omega)) H1 (g14 z1 _) (fun s2 H2 z2 d2 _ => ?_)
    have e16 : s2 0 20 = stF α b j := d2.1.1.2.2.1
    rw [e16]
    intro y hy
    unfold wX7_greater
    have e := mV_e (p := fun _ => true) (f := stF α b) (m0 := -1) (n := j) rfl
    rw [e.2] at hy
    rw [e.1]
    subst hy
    exact ih s2 ⟨j, H2⟩ (z2.trans z1)
theorem M_step {x1 x2 : Int32} {α : DD} {β σ : Mem} {Q : Int32 → Mem → Prop} (hO : OkA α β) (hM : IM σ α β) (hq : ∀ ρ, RM ρ α β → Q (stS α x1 x2) ρ) : wX7_step x1 x2 σ Q := by
  unfold wX7_step
  unfold stS at hq
  refine s_find hO hM (fun ρ hρ hD => G_beatM (g_ny (fun g1 => G_twoM (g_ny (fun g2 => ?_) (fun g2 => ?_))) (fun g1 => ?_)))
  · rw [g1, g2] at hq
    obtain ⟨b, hb, rfl, e1⟩ := gd_of (by omega) g1
    obtain ⟨k, hk, rfl, e2⟩ := gd_of (by omega) g2
    rw [e1, e2] at hq
    exact M_stepIn hO hρ hb hk (fun ω h => hq ω h)
  · rw [g1, g2] at hq; exact hq ρ hρ
  · rw [g1] at hq; exact hq ρ hρ
theorem L19 : okL_19 RR := fun σ τ a1 a2 ⟨α, β, hO, hX, hM⟩ => X_step hO hX (fun ρ hρ => M_step hO hM (fun ω hω => ⟨rfl, α, β, hO, hρ, hω.1⟩))
/-! begin -/
def besB (α : DD) (k n p : Nat) : Bool := anyN (fun d => !(d == k) && (plA (α 0) d == p)) n
theorem besB_s (α : DD) (k n p : Nat) : besB α k (n + 1) p = (besB α k n p || (!(n == k) && (plA (α 0) n == p))) := rfl
def beF (α : DD) (k v : Nat) : Int32 := nI (danceD (un (iA α) 0 k v) (bkA α) 24 4 0)
def frB (α : DD) (k p : Nat) : Bool := !(besB α k (nDa α) p)
def beB (α : DD) (d k : Nat) : Int32 := if k = 0 then mI (frB α d) (beF α d) (-1) 12 else mV (frB α d) (beF α d) (-1) 12
def beS (α : DD) (x1 x2 : Int32) : Int32 := if (gd x1 (nDa α) && gd x2 2) = true then beB α (tn x1) (tn x2) else -2
theorem X_beside {k : Nat} {α : DD} {β σ : Mem} {Q : Int32 → Mem → Prop} (hO : OkA α β) (hX : IX σ α β) (hk : k < 8) (hq : ∀ r, (∀ p, p < 32 → bt r p = besB α k (nDa α) p) → Q r σ) : wX3_placesBeside 10 (nI k) σ Q := by
  have hn := hO.nd
  have h4 : σ 10 4 = nI (nDa α) := by rw [hX.1.2.2.1.1, iA30]
  unfold wX3_placesBeside
  have key := up_loop (fun N j => ∀ x, (∀ p, p < 32 → bt x p = besB α k j p) → wX3_placesBeside_4 Q N 10 (nI k) x (nI j) σ) (nDa α) ?_ ?_ 0 (Nat.zero_le _)
  · obtain ⟨N, hN⟩ := key
    exact ⟨N, hN 0 (fun p _ => b_0 p)⟩
  · intro N x hx
    rw [wX3_placesBeside_4, h4, i_le (by omega) (by omega)]
    exact ⟨fun _ => hq x hx, fun z => absurd (Nat.le_refl _) z⟩
  · intro N j hj ih x hx
    have hp : σ (10 + 1) j = nI (plA (α 0) j) := by rw [(hX.1.2.2.1.2.2.2.1 j (by rw [iA30]; exact hj)).1, iA0]
    have hp12 := plA_lt hj
    rw [wX3_placesBeside_4, h4, i_le (by omega) (by omega), nI_clamp (by omega), hp, i_eq (by omega) (by omega), i1]
    refine ⟨fun z => absurd z (by omega), fun _ => ⟨fun z => ih x (fun p h => ?_), fun z => ⟨vp_in_nI (by omega) (by omega), fun y hy => ih y (fun p h => ?_)⟩⟩⟩
    · rw [besB_s, hx p h, z]; simp
    · rw [besB_s, hy, b_or, hx p h, bt_one (by omega) h]
      congr 1
      have : (j == k) = false := by simpa using z
      rw [this]
      by_cases c : p = plA (α 0) j
      · simp [c]
      · have c2 : ¬ plA (α 0) j = p := fun z => c z.symm
        simp [c, c2]
theorem M_isFree {k v p : Nat} {α : DD} {β σ : Mem} {co : Nat → Nat} {Q : Int32 → Mem → Prop} (hO : OkA α β) (h : HM σ α β (un (iA α) 0 k v) co) (hk : k < 8) (hp : p < 12) (hq : Q (if frB α k p = true then 1 else 0) σ) : wX7_isFree (nI k) (nI p) σ Q := by
  have hn := hO.nd
  have e30 : un (iA α) 0 k v 3 0 = nDa α := by rw [un_ne (by omega), iA30]
  have h4 : σ 0 7 = nI (nDa α) := by rw [h.2.1.1, e30]
  have ef : (if frB α k p = true then (1 : Int32) else 0) = if besB α k (nDa α) p = true then 0 else 1 := by
    unfold frB
    cases besB α k (nDa α) p <;> rfl
  rw [ef] at hq
  unfold wX7_isFree
  have key := up_loop (fun N j => wX7_isFree_5 Q N (nI k) (nI p) (if besB α k j p = true then 0 else 1) (nI j) σ) (nDa α) ?_ ?_ 0 (Nat.zero_le _)
  · exact key
  · intro N
    rw [wX7_isFree_5, h4, i_le (by omega) (by omega)]
    exact ⟨fun _ => ⟨bzi' _, hq⟩, fun z => absurd (Nat.le_refl _) z⟩
  · intro N j hj ih
    have hp12 := plA_lt hj
    rw [besB_s] at ih
    rw [wX7_isFree_5, h4, i_le (by omega) (by omega), i1]
    refine ⟨fun z => absurd z (by omega), fun _ => ?_⟩
    by_cases c : besB α k j p = true
    · rw [c] at ih
      rw [if_pos c]
      exact ⟨fun _ => ih, fun z => absurd rfl z⟩
    · rw [if_neg c, i3, nI_clamp (by omega), i_eq (by omega) (by omega)]
      rw [Bool.not_eq_true] at c
      rw [c] at ih
      refine ⟨fun z => absurd z one_ne, fun _ => ⟨fun z => ?_, fun z => ⟨vp_in_nI (by omega) (by omega), ?_⟩⟩⟩
      · have : (j == k) = true := by simpa using z
        rw [this] at ih
        exact ih
      · have : (j == k) = false := by simpa using z
        rw [this] at ih
        have q : σ 7 (3 * j) = nI (plA (α 0) j) := by rw [(h.2.1.2.2.1 j (by rw [e30]; exact hj)).1, un_nei z, iA0]
        rw [q, i_eq (by omega) (by omega)]
        refine ⟨fun w => ?_, fun w => ?_⟩
        · rw [if_pos (by simpa using w)] at ih; exact ih
        · rw [if_neg (by simpa using w)] at ih; exact ih
set_option maxHeartbeats 1000000 in
theorem X_begin {x1 x2 : Int32} {α : DD} {β σ : Mem} {Q : Int32 → Mem → Prop} (hO : OkA α β) (hX : IX σ α β) (hq : ∀ ρ, IX ρ α β → Q (beS α x1 x2) ρ) : wX6_begin x1 x2 σ Q := by
  have hn := hO.nd
  unfold wX6_begin
  unfold beS at hq
  refine G_dX hO hX (g_ny (fun g1 => G_twoX (g_yn (fun g2 => ?_) (fun g2 => ?_))) (fun g1 => ?_))
  · rw [g1, g2] at hq
    obtain ⟨d, hd, rfl, e1⟩ := gd_of (by omega) g1
    obtain ⟨k, hk, rfl, e2⟩ := gd_of (by omega) g2
    rw [e1, e2] at hq
    refine X_beside hO hX (by omega) (fun oth hoth => X_become hO hX (fun τ t1 t2 _ _ => ?_))
    have key := up_loop (fun N j => ∀ σ, IX σ α β → (∃ v, SKX σ 15 (un (iA α) 0 d v) (evm (α 2 3))) → wX6_begin_47 Q N (nI d) (nI k) oth (mI (frB α d) (beF α d) (-1) j) (mV (frB α d) (beF α d) (-1) j) (nI j) σ) 12 ?_ ?_ 0 (Nat.zero_le _)
    · obtain ⟨N, hN⟩ := key
      exact ⟨N, hN τ t1 ⟨iA α 0 d, by rw [un_self]; exact t2⟩⟩
    · intro N ρ r1 r2
      rw [wX6_begin_47, l_ge12 (by omega)]
      refine ⟨fun _ => ?_, fun z => absurd (Nat.le_refl _) z⟩
      unfold wX6_begin_123
      rw [if0 (by omega)]
      exact hq ρ r1
    · intro N j hj ih ρ r1 ⟨v, r2⟩
      rw [wX6_begin_47, l_ge12 (by omega), nI_clamp (by omega), i1]
      refine ⟨fun z => absurd z (by omega), fun _ => s_has (by omega) (g_ny (fun c => ?_) (fun c => ⟨vp_in_nI (by omega) (by omega), ?_⟩))⟩
      · rw [hoth j (by omega)] at c
        have e := mV_n (p := frB α d) (f := beF α d) (m0 := -1) (n := j) (by unfold frB; rw [c]; decide)
        rw [e.1, e.2] at ih
        exact ih ρ r1 ⟨v, r2⟩
      · rw [hoth j (by omega)] at c
        have cf : frB α d j = true := by unfold frB; rw [c]; rfl
        intro s1 h1
        have S1 : SKX s1 15 (un (iA α) 0 d j) (evm (α 2 3)) := by rw [h1]; exact SKX_pl r2 (un_un _ _ _ _ _) un_at
        have X1 : IX s1 α β := by rw [h1]; exact IX_tr r1 (by omega) (by omega)
        refine X_play (act := fun _ => true) X1 (OkI_pl (OkI_iA hO) (by omega)) S1 (bt_evA hO) (fun s2 x2 k2 d2 _ => ?_)
        have e16 : s2 35 16 = beF α d j := d2.1.1.2.2.1
        rw [e16]
        refine ⟨fun z => ?_, fun z => ?_⟩
        · have e := mV_l (p := frB α d) (f := beF α d) (m0 := -1) (n := j) cf z
          rw [e.1, e.2] at ih
          exact ih s2 x2 ⟨j, k2⟩
        · intro y hy
          subst hy
          have e := mV_g (p := frB α d) (f := beF α d) (m0 := -1) (n := j) cf z
          rw [e.1, e.2] at ih
          exact ih s2 x2 ⟨j, k2⟩
  · rw [g1, g2] at hq; exact hq σ hX
  · rw [g1] at hq; exact hq σ hX
set_option maxHeartbeats 1000000 in
theorem M_beginOf {d k : Nat} {α : DD} {β σ : Mem} {Q : Int32 → Mem → Prop} (hO : OkA α β) (hM : RM σ α β) (hd : d < nDa α) (hk : k < 2) (hq : ∀ ρ, RM ρ α β → Q (beB α d k) ρ) : wX7_beginOf (nI d) (nI k) σ Q := by
  have hn := hO.nd
  have h14 : σ 0 14 = 0 := hM.1.2.2.2.1
  unfold wX7_beginOf
  have e8 : σ 7 (3 * d) = nI (iA α 0 d) := (hM.2.1.2.2.1 d (by rw [iA30]; exact hd)).1
  rw [i3, nI_clamp (by omega), e8]
  refine ⟨vp_in_nI (by omega) (by omega), fun y hy => ?_⟩
  subst hy
  have key := up_loop (fun N j => ∀ ρ, (∃ v, HM ρ α β (un (iA α) 0 d v) (coA (α 0))) → ρ 0 14 = 0 → wX7_beginOf_18 Q N (nI d) (nI k) (nI (iA α 0 d)) (mI (frB α d) (beF α d) (-1) j) (mV (frB α d) (beF α d) (-1) j) (nI j) ρ) 12 ?_ ?_ 0 (Nat.zero_le _)
  · obtain ⟨N, hN⟩ := key
    exact ⟨N, hN σ ⟨iA α 0 d, by rw [un_self]; exact RM_HM hM⟩ h14⟩
  · intro N ρ ⟨v, r1⟩ r2
    rw [wX7_beginOf_18, l_ge12 (by omega)]
    refine ⟨fun _ => ?_, fun z => absurd (Nat.le_refl _) z⟩
    unfold wX7_beginOf_84
    rw [i3, nI_clamp (by omega), if0 (by omega)]
    refine ⟨vp_in_nI (by omega) (by omega), fun s1 h1 => ?_⟩
    refine hq s1 (HM_RM ?_ ?_)
    · rw [h1]; exact HM_pl r1 (fun r i h => by rw [un_any, if_neg h]) rfl
    · rw [h1, um_ne _ _ _ (by omega)]; exact r2
  · intro N j hj ih ρ ⟨v, r1⟩ r2
    rw [wX7_beginOf_18, l_ge12 (by omega), i3, nI_clamp (by omega), i1]
    refine ⟨fun z => absurd z (by omega), fun _ => M_isFree hO r1 (by omega) hj (g_ny (fun c => ⟨vp_in_nI (by omega) (by omega), fun s1 h1 => ?_⟩) (fun c => ?_))⟩
    · have H1 : HM s1 α β (un (iA α) 0 d j) (coA (α 0)) := by rw [h1]; exact HM_pl r1 (un_un _ _ _ _ _) un_at
      have z1 : s1 0 14 = 0 := by rw [h1, um_ne _ _ _ (by omega)]; exact r2
      refine M_livesH (OkI_pl (OkI_iA hO) (by omega)) H1 (g14 z1 _) (fun s2 H2 z2 d2 _ => ?_)
      have e16 : s2 0 20 = beF α d j := d2.1.1.2.2.1
      rw [e16]
      intro y hy
      unfold wX7_greater
      have e := mV_e (p := frB α d) (f := beF α d) (m0 := -1) (n := j) c
      rw [e.2] at hy
      rw [e.1]
      subst hy
      exact ih s2 ⟨j, H2⟩ (z2.trans z1)
    · have e := mV_n (p := frB α d) (f := beF α d) (m0 := -1) (n := j) (by rw [c]; decide)
      rw [e.1, e.2] at ih
      exact ih ρ ⟨v, r1⟩ r2
theorem M_begin {x1 x2 : Int32} {α : DD} {β σ : Mem} {Q : Int32 → Mem → Prop} (hO : OkA α β) (hM : IM σ α β) (hq : ∀ ρ, RM ρ α β → Q (beS α x1 x2) ρ) : wX7_begin x1 x2 σ Q := by
  have hn := hO.nd
  unfold wX7_begin
  unfold beS at hq
  refine s_find hO hM (fun ρ hρ hD => G_dM hO hρ (g_ny (fun g1 => G_twoM (g_ny (fun g2 => ?_) (fun g2 => ?_))) (fun g1 => ?_)))
  · rw [g1, g2] at hq
    obtain ⟨b, hb, rfl, e1⟩ := gd_of (by omega) g1
    obtain ⟨k, hk, rfl, e2⟩ := gd_of (by omega) g2
    rw [e1, e2] at hq
    exact M_beginOf hO hρ hb hk (fun ω h => hq ω h)
  · rw [g1, g2] at hq; exact hq ρ hρ
  · rw [g1] at hq; exact hq ρ hρ
theorem L20 : okL_20 RR := fun σ τ a1 a2 ⟨α, β, hO, hX, hM⟩ => X_begin hO hX (fun ρ hρ => M_begin hO hM (fun ω hω => ⟨rfl, α, β, hO, hρ, hω.1⟩))
