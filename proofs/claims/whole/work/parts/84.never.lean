/-! dances -/
def lotS (s : Int32) : Nat → Int32
  | 0 => s
  | n + 1 => ((1103515245 : Int32) * lotS s n) + (12345 : Int32)
def lvN (x : Int32) : Nat := x.toBitVec.toNat / 65536 % 4
theorem lv_u (x : Int32) : (x.toUInt32 >>> (((16 : Int32)).toUInt32 &&& Int32.toUInt32 31)).toInt32 = nI (x.toBitVec.toNat / 65536) := by
  have h := x.toBitVec.isLt
  apply Int32.toBitVec_inj.mp
  apply BitVec.eq_of_toNat_eq
  rw [pk_ushr x 16 16 (by decide), pk_tn (by omega)]
theorem lv_e (x : Int32) : (x.toUInt32 >>> (((16 : Int32)).toUInt32 &&& Int32.toUInt32 31)).toInt32 - (x.toUInt32 >>> (((16 : Int32)).toUInt32 &&& Int32.toUInt32 31)).toInt32 / (4 : Int32) * (4 : Int32) = nI (lvN x) := by
  have h := x.toBitVec.isLt
  rw [lv_u, rem4 (by omega)]
  rfl
theorem lvN_lt (x : Int32) : lvN x < 4 := Nat.mod_lt _ (by omega)
def dnT (s : Int32) (n b : Nat) : Nat := if n ≤ b then 2 else lvN (lotS s (b + 1))
theorem dnT_le (s : Int32) (n b : Nat) : dnT s n b ≤ 3 := by
  have := lvN_lt (lotS s (b + 1))
  unfold dnT
  split <;> omega
def daI (α : DD) (s : Int32) (n j : Nat) : DD := fun r i => if (r = 2 ∧ i < j) then dnT s n i else iA α r i
theorem daI_n {α : DD} {s : Int32} {n j r i : Nat} (h : r ≠ 2) : daI α s n j r i = iA α r i := by unfold daI; rw [if_neg (fun z => h z.1)]
theorem daI_0 (α : DD) (s : Int32) (n : Nat) : daI α s n 0 = iA α := by
  funext r i
  unfold daI
  rw [if_neg (by omega)]
theorem daI_s (α : DD) (s : Int32) (n j : Nat) : ∀ r i, ¬ (r = 2 ∧ i = j) → daI α s n (j + 1) r i = daI α s n j r i := fun r i h => by
  unfold daI
  by_cases c : (r = 2 ∧ i < j)
  · rw [if_pos c, if_pos (by omega)]
  · rw [if_neg c, if_neg (by omega)]
theorem daI_at (α : DD) (s : Int32) (n j : Nat) : daI α s n (j + 1) 2 j = dnT s n j := by
  unfold daI
  rw [if_pos (by omega)]
theorem OkI_da {α : DD} {β : Mem} {s : Int32} {n j : Nat} (hO : OkA α β) : OkI (daI α s n j) := by
  have h := OkI_iA hO
  refine ⟨by rw [daI_n (by omega)]; exact h.1, by rw [daI_n (by omega)]; exact h.2.1, fun i hi => ?_, fun b hb => ?_⟩
  · rw [daI_n (by omega)] at hi
    rw [daI_n (by omega), daI_n (by omega)]
    exact h.2.2.1 i hi
  · unfold daI
    split
    · exact dnT_le s n b
    · exact h.2.2.2 b hb
def daB (α : DD) (s : Int32) (n k : Nat) : Int32 := if k = 0 then nI (danceD (daI α s n 24) (bkA α) 24 4 0) else nI (danceD (daI α s n 24) (bkA α) 24 4 2)
def daS (α : DD) (x1 x2 x3 : Int32) : Int32 := if (gd x2 25 && gd x3 2) = true then daB α x1 (tn x2) (tn x3) else -2
theorem dnT_e (s : Int32) {n j : Nat} (hn : n ≤ 24) (hj : j < 24) : (if nI n ≤ nI j then (2 : Int32) else nI (lvN (lotS s (j + 1)))) = nI (dnT s n j) := by
  unfold dnT
  by_cases c : n ≤ j
  · rw [if_pos c, if_pos (by rw [i_le (by omega) (by omega)]; exact c)]; rfl
  · rw [if_neg c, if_neg (by rw [i_le (by omega) (by omega)]; exact c)]
set_option maxHeartbeats 1000000 in
theorem X_dances {x1 x2 x3 : Int32} {α : DD} {β σ : Mem} {Q : Int32 → Mem → Prop} (hO : OkA α β) (hX : IX σ α β) (hq : ∀ ρ, IX ρ α β → Q (daS α x1 x2 x3) ρ) : wX6_dances x1 x2 x3 σ Q := by
  unfold wX6_dances
  unfold daS at hq
  rw [ltz, show ((24 : Int32) < x2) = ((24 : Int) < x2.toInt) from klt x2 (k := 24) (by omega)]
  have bad : ¬ (0 ≤ x2.toInt ∧ x2.toInt < 25) → Q (-2) σ := fun h => by
    rw [if_neg] at hq
    · exact hq σ hX
    · intro z
      rw [Bool.and_eq_true, gd_iff] at z
      exact h z.1
  refine ⟨fun z => bad (by omega), fun z => ⟨fun y => bad (by omega), fun y => G_twoX (g_yn (fun g2 => X_become hO hX (fun τ t1 t2 _ _ => ?_)) (fun g2 => ?_))⟩⟩
  · have g1 : gd x2 25 = true := by rw [gd_iff]; omega
    rw [g1, g2] at hq
    obtain ⟨n, hn, rfl, e1⟩ := gd_of (by omega) g1
    obtain ⟨k, hk, rfl, e2⟩ := gd_of (by omega) g2
    rw [e1, e2] at hq
    have key := up_loop (fun N j => ∀ σ, IX σ α β → SKX σ 15 (daI α x1 n j) (evm (α 2 3)) → wX6_dances_37 Q N (nI n) (nI k) (lotS x1 j) (nI j) σ) 24 ?_ ?_ 0 (Nat.zero_le _)
    · obtain ⟨N, hN⟩ := key
      exact ⟨N, hN τ t1 (by rw [daI_0]; exact t2)⟩
    · intro N ρ r1 r2
      rw [wX6_dances_37, l_ge24 (by omega)]
      refine ⟨fun _ => ?_, fun z => absurd (Nat.le_refl _) z⟩
      unfold wX6_dances_89
      refine X_play (act := fun _ => true) r1 (OkI_da hO) r2 (bt_evA hO) (fun s2 x2 k2 d2 _ => ?_)
      have e16 : s2 35 16 = nI (danceD (daI α x1 n 24) (bkA α) 24 4 0) := d2.1.1.2.2.1
      have e18 : s2 35 18 = nI (danceD (daI α x1 n 24) (bkA α) 24 4 2) := d2.1.1.2.2.2.2
      rw [if0 (by omega), e16, e18]
      exact hq s2 x2
    · intro N j hj ih ρ r1 r2
      rw [wX6_dances_37, l_ge24 (by omega), nI_clamp (by omega), i1]
      refine ⟨fun z => absurd z (by omega), fun _ => fun y hy => ?_⟩
      have ey : y = lotS x1 (j + 1) := hy
      subst ey
      rw [lv_e, dnT_e x1 (by omega) hj]
      refine ⟨vp_in_nI (by omega) (by omega), fun s1 h1 => ih s1 ?_ ?_⟩
      · rw [h1]; exact IX_tr r1 (by omega) (by omega)
      · rw [h1]; exact SKX_st r2 (daI_s _ _ _ _) (daI_at _ _ _ _)
  · rw [g2, Bool.and_false] at hq; exact hq σ hX
theorem HM_36 {σ : Mem} {α : DD} {β : Mem} {ι : DD} {co : Nat → Nat} {x : Int32} (h : HM σ α β ι co) : HM (um σ 0 36 x) α β ι co := by
  obtain ⟨m, ⟨k1, k2, k3, k4⟩, c, t⟩ := h
  refine ⟨IMz m (fun c hc => um_ne _ _ _ (by omega)) (fun j hj => by rw [um_nei _ _ (by omega)]), ⟨?_, ?_, fun i hi => ?_, fun b2 hb2 => ?_⟩, fun i hi => ?_, ?_⟩
  · rw [um_nei _ _ (by omega)]; exact k1
  · rw [um_nei _ _ (by omega)]; exact k2
  · rw [um_ne _ _ _ (by omega)]; exact k3 i hi
  · rw [um_ne _ _ _ (by omega)]; exact k4 b2 hb2
  · rw [um_ne _ _ _ (by omega)]; exact c i hi
  · rw [um_nei _ _ (by omega)]; exact t
theorem HM_reads {σ τ : Mem} {α : DD} {β : Mem} {ι : DD} {co : Nat → Nat} (h : HM σ α β ι co) (hι : ∀ r i, r ≠ 2 → ι r i = iA α r i) (g1 : ∀ c, c ≠ 0 → c ≠ 8 → τ c = σ c) (g2 : ∀ j, j ≠ 9 → τ 0 j = σ 0 j) (g3 : τ 0 9 = nI (toA α)) (g4 : ∀ b, b < 24 → τ 8 b = nI (stA α b)) : HM τ α β (iA α) co := by
  obtain ⟨m, ⟨k1, k2, k3, k4⟩, c, t⟩ := h
  refine ⟨IMz m (fun c hc => g1 c (by omega) (by omega)) (fun j hj => g2 j (by omega)), ⟨?_, ?_, fun i hi => ?_, fun b hb => ?_⟩, fun i hi => ?_, g3⟩
  · rw [g2 7 (by omega), k1, hι 3 0 (by omega)]
  · rw [g2 11 (by omega), k2, hι 3 1 (by omega)]
  · rw [← hι 3 0 (by omega)] at hi
    rw [g1 7 (by omega) (by omega), ← hι 0 i (by omega), ← hι 1 i (by omega)]
    exact k3 i hi
  · rw [g4 b hb, iA2]
  · rw [g1 7 (by omega) (by omega)]; exact c i hi
set_option maxHeartbeats 1000000 in
theorem M_dancesOf {s : Int32} {n k : Nat} {α : DD} {β σ : Mem} {Q : Int32 → Mem → Prop} (hO : OkA α β) (hM : RM σ α β) (hn : n ≤ 24) (hk : k < 2) (hq : ∀ ρ, RM ρ α β → Q (daB α s n k) ρ) : wX7_dancesOf s (nI n) (nI k) σ Q := by
  have h14 : σ 0 14 = 0 := hM.1.2.2.2.1
  unfold wX7_dancesOf
  intro s0 h0
  have key := up_loop (fun N j => ∀ ρ, HM ρ α β (daI α s n j) (coA (α 0)) → ρ 0 14 = 0 → (j ≤ n → ρ 0 36 = lotS s j) → wX7_dancesOf_8 Q N (nI n) (nI k) (nI j) ρ) 24 ?_ ?_ 0 (Nat.zero_le _)
  · obtain ⟨N, hN⟩ := key
    refine ⟨N, hN s0 ?_ ?_ (fun _ => ?_)⟩
    · rw [daI_0, h0]; exact HM_36 (RM_HM hM)
    · rw [h0, um_nei _ _ (by omega)]; exact h14
    · rw [h0, um_at]; rfl
  · intro N ρ r1 r2 r3
    rw [wX7_dancesOf_8, l_ge24 (by omega)]
    refine ⟨fun _ => ?_, fun z => absurd (Nat.le_refl _) z⟩
    unfold wX7_dancesOf_43
    refine M_livesH (OkI_da hO) r1 (g14 r2 _) (fun s2 H2 z2 d2 _ => ?_)
    have e16 : s2 0 20 = nI (danceD (daI α s n 24) (bkA α) 24 4 0) := d2.1.1.2.2.1
    have e18 : s2 0 27 = nI (danceD (daI α s n 24) (bkA α) 24 4 2) := d2.1.1.2.2.2.2
    rw [if0 (by omega), e16, e18]
    unfold wX7_dancesOf_62
    refine s_readsSteps hO.1.2.1 hO.1.2.2.2 H2.tx (fun τ2 g1 g2 g3 g4 => ?_)
    refine hq τ2 (HM_RM (HM_reads H2 (fun r i h => daI_n h) g1 g2 g3 g4) ?_)
    rw [g2 14 (by omega), z2]; exact r2
  · intro N j hj ih ρ r1 r2 r3
    rw [wX7_dancesOf_8, l_ge24 (by omega), i_le (by omega) (by omega), nI_clamp (by omega), i1]
    refine ⟨fun z => absurd z (by omega), fun _ => ⟨fun c => ⟨vp_in_nI (by omega) (by omega), fun s1 h1 => ih s1 ?_ ?_ (fun y => absurd y (by omega))⟩, fun c => ?_⟩⟩
    · rw [h1]
      exact HM_st (s := 2) r1 (daI_s _ _ _ _) (by rw [daI_at]; unfold dnT; rw [if_pos c])
    · rw [h1, um_ne _ _ _ (by omega)]; exact r2
    · unfold wX7_lot
      intro s1 h1
      have e36 : s1 0 36 = lotS s (j + 1) := by rw [h1, um_at, r3 (by omega)]; rfl
      rw [e36, lv_e]
      refine ⟨by decide, vp_in_nI (by omega) (by omega), fun s2 h2 => ih s2 ?_ ?_ (fun _ => ?_)⟩
      · rw [h2, h1]
        exact HM_st (HM_36 r1) (daI_s _ _ _ _) (by rw [daI_at]; unfold dnT; rw [if_neg c])
      · rw [h2, um_ne _ _ _ (by omega), h1, um_nei _ _ (by omega)]; exact r2
      · rw [h2, um_ne _ _ _ (by omega)]; exact e36
theorem M_dances {x1 x2 x3 : Int32} {α : DD} {β σ : Mem} {Q : Int32 → Mem → Prop} (hO : OkA α β) (hM : IM σ α β) (hq : ∀ ρ, RM ρ α β → Q (daS α x1 x2 x3) ρ) : wX7_dances x1 x2 x3 σ Q := by
  unfold wX7_dances
  unfold daS at hq
  refine s_find hO hM (fun ρ hρ hD => G_in (n := 25) (m := 24) rfl rfl (g_ny (fun g1 => G_twoM (g_ny (fun g2 => ?_) (fun g2 => ?_))) (fun g1 => ?_)))
  · rw [g1, g2] at hq
    obtain ⟨b, hb, rfl, e1⟩ := gd_of (by omega) g1
    obtain ⟨k, hk, rfl, e2⟩ := gd_of (by omega) g2
    rw [e1, e2] at hq
    exact M_dancesOf hO hρ (by omega) hk (fun ω h => hq ω h)
  · rw [g1, g2] at hq; exact hq ρ hρ
  · rw [g1] at hq; exact hq ρ hρ
theorem L30 : okL_30 RR := fun σ τ a1 a2 a3 ⟨α, β, hO, hX, hM⟩ => X_dances hO hX (fun ρ hρ => M_dances hO hM (fun ω hω => ⟨rfl, α, β, hO, hρ, hω.1⟩))
/-! never -/
theorem if10 (b : Bool) (X Y : Int32) : (if (if b = true then (1 : Int32) else 0) = 0 then X else Y) = if b = true then Y else X := by
  cases b
  · rw [if_neg (show ¬ false = true by decide), if_neg (show ¬ false = true by decide), if_pos rfl]
  · rw [if_pos rfl, if_pos rfl, if_neg one_ne]
def butA (j e : Nat) : Bool := !(e == j)
def neF (α : DD) (j : Nat) : Bool := seB α (fun b => danceD (iA α) (bkS α (butA j)) (b + 1) 4 0)
def neB (α : DD) : Int32 := orB (neF α) (α 2 3)
theorem bt_but {n j e : Nat} (hn : n ≤ 8) (hj : j < 32) (he : e < 32) : bt (evm n &&& (((1 : Int32) <<< (nI j &&& 31)) ^^^ (-1 : Int32))) e = (decide (e < n) && butA j e) := by
  rw [b_and, bt_evm hn he, bt_not he, bt_one hj he]
  unfold butA
  by_cases c : e = j
  · simp [c]
  · simp [c]
theorem X_coTrial {ι : DD} {bk : Nat → Nat → Nat → Bool} {α : DD} {β σ : Mem} {Q : Int32 → Mem → Prop} (hO : OkA α β) (hX : IX σ α β) (hI : OkI ι) (hD : DOK σ 35 ι bk) (hq : Q (if seB α (fun b => danceD ι bk (b + 1) 4 0) = true then 1 else 0) σ) : wX2_comesOut 44 24 (0 : Int32) σ Q :=
  X_comesOut (off := 0) hO hX (by omega) (by omega) (fun b hb => ⟨by rw [Nat.zero_add]; exact (hD.2 b hb).1, on_le hI (by omega)⟩) hq
set_option maxHeartbeats 1000000 in
theorem X_never {α : DD} {β σ : Mem} {Q : Int32 → Mem → Prop} (hO : OkA α β) (hX : IX σ α β) (hq : ∀ ρ, IX ρ α β → Q (neB α) ρ) : wX6_never σ Q := by
  have h8 := OkA.ev hO
  unfold wX6_never
  refine X_become hO hX (fun τ t1 t2 _ _ => ?_)
  have key := up_loop (fun N j => ∀ σ, IX σ α β → (∃ m, SKX σ 15 (iA α) m) → wX6_never_15 Q N (orB (neF α) j) (nI j) σ) (α 2 3) ?_ ?_ 0 (Nat.zero_le _)
  · obtain ⟨N, hN⟩ := key
    exact ⟨N, hN τ t1 ⟨_, t2⟩⟩
  · intro N ρ r1 r2
    rw [wX6_never_15, r1.1.2.1.2.1, i_le (by omega) (by omega)]
    exact ⟨fun _ => hq ρ r1, fun z => absurd (Nat.le_refl _) z⟩
  · intro N j hj ih ρ r1 ⟨m, r2⟩
    rw [wX6_never_15, r1.1.2.1.2.1, i_le (by omega) (by omega), i1]
    refine ⟨fun z => absurd z (by omega), fun _ => fun s1 h1 => ?_⟩
    rw [r1.1.2.2.1.2.2.1] at h1
    have S1 : SKX s1 15 (iA α) (evm (α 2 3) &&& (((1 : Int32) <<< (nI j &&& 31)) ^^^ (-1 : Int32))) := by rw [h1]; exact SKX_ma r2
    have X1 : IX s1 α β := by rw [h1]; exact IX_tr r1 (by omega) (by omega)
    refine X_play (act := butA j) X1 (OkI_iA hO) S1 (fun e he => ?_) (fun s2 x2 k2 d2 _ => ?_)
    · rw [bt_but h8 (by omega) (by omega)]
      simp [he]
    · refine X_coTrial hO x2 (OkI_iA hO) d2 (g_ny (fun c => fun y hy => ?_) (fun c => ?_))
      · have e : orB (neF α) (j + 1) = _ := orB_y (p := neF α) (n := j) c
        rw [e] at ih
        subst hy
        exact ih s2 x2 ⟨_, k2⟩
      · have e : orB (neF α) (j + 1) = _ := orB_n (p := neF α) (n := j) (by rw [show neF α j = false from c]; decide)
        rw [e] at ih
        exact ih s2 x2 ⟨_, k2⟩
set_option maxHeartbeats 1000000 in
theorem M_neverNow {α : DD} {β σ : Mem} {Q : Int32 → Mem → Prop} (hO : OkA α β) (hM : RM σ α β) (hq : ∀ ρ, RM ρ α β → Q (neB α) ρ) : wX7_neverNow σ Q := by
  have h8 := OkA.ev hO
  unfold wX7_neverNow
  have key := up_loop (fun N j => ∀ ρ, HM ρ α β (iA α) (coA (α 0)) → wX7_neverNow_4 Q N (orB (neF α) j) (nI j) ρ) (α 2 3) ?_ ?_ 0 (Nat.zero_le _)
  · obtain ⟨N, hN⟩ := key
    exact ⟨N, hN σ (RM_HM hM)⟩
  · intro N ρ r1
    rw [wX7_neverNow_4, r1.ev.2.1, i_le (by omega) (by omega)]
    refine ⟨fun _ => fun s1 h1 => hq s1 (HM_RM ?_ ?_), fun z => absurd (Nat.le_refl _) z⟩
    · rw [h1]; exact HM_go r1
    · rw [h1, um_at]
  · intro N j hj ih ρ r1
    rw [wX7_neverNow_4, r1.ev.2.1, i_le (by omega) (by omega), i1]
    refine ⟨fun z => absurd z (by omega), fun _ => fun s1 h1 => ?_⟩
    have H1 : HM s1 α β (iA α) (coA (α 0)) := by rw [h1]; exact HM_go r1
    refine M_isSeen (act := butA j) hO (OkI_iA hO) H1 (fun e he => ?_) (fun s2 H2 _ _ _ => ?_)
    · rw [h1, um_at, bt_one (by omega) (by omega)]
      unfold butA
      by_cases c : e = j
      · simp [c]
      · simp [c]
    · intro y hy
      rw [if10] at hy
      have ey : y = orB (neF α) (j + 1) := by rw [hy]; exact orB_i (neF α) j
      subst ey
      exact ih s2 H2
theorem M_never {α : DD} {β σ : Mem} {Q : Int32 → Mem → Prop} (hO : OkA α β) (hM : IM σ α β) (hq : ∀ ρ, RM ρ α β → Q (neB α) ρ) : wX7_never σ Q := by
  unfold wX7_never
  exact s_find hO hM (fun ρ hρ hD => M_neverNow hO hρ (fun ω h => hq ω h))
theorem L25 : okL_25 RR := fun σ τ ⟨α, β, hO, hX, hM⟩ => X_never hO hX (fun ρ hρ => M_never hO hM (fun ω hω => ⟨rfl, α, β, hO, hρ, hω.1⟩))
/-! ways -/
def waF (α : DD) (d v : Nat) : Bool := seB α (fun b => danceD (un (iA α) 1 d v) (bkA α) (b + 1) 4 0)
def waB (α : DD) (d : Nat) : Int32 := orB (waF α d) 2
def waS (α : DD) (x : Int32) : Int32 := if gd x (nDa α) = true then waB α (tn x) else -2
set_option maxHeartbeats 1000000 in
theorem X_ways {x1 : Int32} {α : DD} {β σ : Mem} {Q : Int32 → Mem → Prop} (hO : OkA α β) (hX : IX σ α β) (hq : ∀ ρ, IX ρ α β → Q (waS α x1) ρ) : wX6_ways x1 σ Q := by
  have hn := hO.nd
  unfold wX6_ways
  unfold waS at hq
  refine G_dX hO hX (g_yn (fun g1 => X_become hO hX (fun τ t1 t2 _ _ => ?_)) (fun g1 => ?_))
  · rw [if_pos g1] at hq
    obtain ⟨d, hd, rfl, e1⟩ := gd_of (by omega) g1
    rw [e1] at hq
    have key := up_loop (fun N j => ∀ σ, IX σ α β → (∃ v, SKX σ 15 (un (iA α) 1 d v) (evm (α 2 3))) → wX6_ways_26 Q N (nI d) (orB (waF α d) j) (nI j) σ) 2 ?_ ?_ 0 (Nat.zero_le _)
    · obtain ⟨N, hN⟩ := key
      exact ⟨N, hN τ t1 ⟨iA α 1 d, by rw [un_self]; exact t2⟩⟩
    · intro N ρ r1 r2
      rw [wX6_ways_26, l_lt1 (by omega)]
      exact ⟨fun _ => hq ρ r1, fun z => absurd (by omega) z⟩
    · intro N j hj ih ρ r1 ⟨v, r2⟩
      rw [wX6_ways_26, l_lt1 (by omega), nI_clamp (by omega), i1]
      refine ⟨fun z => absurd z (by omega), fun _ => ⟨vp_in_nI (by omega) (by omega), fun s1 h1 => ?_⟩⟩
      have S1 : SKX s1 15 (un (iA α) 1 d j) (evm (α 2 3)) := by rw [h1]; exact SKX_wy r2 (un_un _ _ _ _ _) un_at
      have X1 : IX s1 α β := by rw [h1]; exact IX_tr r1 (by omega) (by omega)
      have I1 : OkI (un (iA α) 1 d j) := OkI_wy (OkI_iA hO) (by omega)
      refine X_play (act := fun _ => true) X1 I1 S1 (bt_evA hO) (fun s2 x2 k2 d2 _ => ?_)
      refine X_coTrial hO x2 I1 d2 (g_ny (fun c => fun y hy => ?_) (fun c => ?_))
      · have e : orB (waF α d) (j + 1) = _ := orB_y (p := waF α d) (n := j) c
        rw [e] at ih
        subst hy
        exact ih s2 x2 ⟨_, k2⟩
      · have e : orB (waF α d) (j + 1) = _ := orB_n (p := waF α d) (n := j) (by rw [show waF α d j = false from c]; decide)
        rw [e] at ih
        exact ih s2 x2 ⟨_, k2⟩
  · rw [if_neg (by rw [g1]; decide)] at hq; exact hq σ hX
set_option maxHeartbeats 1000000 in
theorem M_waysOf {d : Nat} {α : DD} {β σ : Mem} {Q : Int32 → Mem → Prop} (hO : OkA α β) (hM : RM σ α β) (hd : d < nDa α) (hq : ∀ ρ, RM ρ α β → Q (waB α d) ρ) : wX7_waysOf (nI d) σ Q := by
  have hn := hO.nd
  have h14 : σ 0 14 = 0 := hM.1.2.2.2.1
  unfold wX7_waysOf
  have e8 : σ 7 (3 * d + 1) = nI (iA α 1 d) := (hM.2.1.2.2.1 d (by rw [iA30]; exact hd)).2
  rw [i3, i1, nI_clamp (by omega), e8]
  refine ⟨vp_in_nI (by omega) (by omega), fun y hy => ?_⟩
  subst hy
  have key := up_loop (fun N j => ∀ ρ, (∃ v, HM ρ α β (un (iA α) 1 d v) (coA (α 0))) → ρ 0 14 = 0 → wX7_waysOf_16 Q N (nI d) (nI (iA α 1 d)) (orB (waF α d) j) (nI j) ρ) 2 ?_ ?_ 0 (Nat.zero_le _)
  · obtain ⟨N, hN⟩ := key
    exact ⟨N, hN σ ⟨iA α 1 d, by rw [un_self]; exact RM_HM hM⟩ h14⟩
  · intro N ρ ⟨v, r1⟩ r2
    rw [wX7_waysOf_16, l_ge2 (by omega)]
    refine ⟨fun _ => ?_, fun z => absurd (Nat.le_refl _) z⟩
    unfold wX7_waysOf_58
    rw [i3, i1, nI_clamp (by omega)]
    refine ⟨vp_in_nI (by omega) (by omega), fun s1 h1 => ?_⟩
    refine hq s1 (HM_RM ?_ ?_)
    · rw [h1]; exact HM_wy r1 (fun r i h => by rw [un_any, if_neg h]) rfl
    · rw [h1, um_ne _ _ _ (by omega)]; exact r2
  · intro N j hj ih ρ ⟨v, r1⟩ r2
    rw [wX7_waysOf_16, l_ge2 (by omega), i3, i1, nI_clamp (by omega), i1]
    refine ⟨fun z => absurd z (by omega), fun _ => ⟨vp_in_nI (by omega) (by omega), fun s1 h1 => ?_⟩⟩
    have H1 : HM s1 α β (un (iA α) 1 d j) (coA (α 0)) := by rw [h1]; exact HM_wy r1 (un_un _ _ _ _ _) un_at
    have z1 : s1 0 14 = 0 := by rw [h1, um_ne _ _ _ (by omega)]; exact r2
    refine M_isSeen hO (OkI_wy (OkI_iA hO) (by omega)) H1 (g14 z1 _) (fun s2 H2 z2 _ _ => ?_)
    intro y hy
    rw [if10] at hy
    have ey : y = orB (waF α d) (j + 1) := by rw [hy]; exact orB_i (waF α d) j
    subst ey
    exact ih s2 ⟨j, H2⟩ (z2.trans z1)
theorem M_ways {x1 : Int32} {α : DD} {β σ : Mem} {Q : Int32 → Mem → Prop} (hO : OkA α β) (hM : IM σ α β) (hq : ∀ ρ, RM ρ α β → Q (waS α x1) ρ) : wX7_ways x1 σ Q := by
  have hn := hO.nd
  unfold wX7_ways
  unfold waS at hq
  refine s_find hO hM (fun ρ hρ hD => G_dM hO hρ (g_ny (fun g1 => ?_) (fun g1 => ?_)))
  · rw [if_pos g1] at hq
    obtain ⟨b, hb, rfl, e1⟩ := gd_of (by omega) g1
    rw [e1] at hq
    exact M_waysOf hO hρ hb (fun ω h => hq ω h)
  · rw [if_neg (by rw [g1]; decide)] at hq; exact hq ρ hρ
theorem L26 : okL_26 RR := fun σ τ a1 ⟨α, β, hO, hX, hM⟩ => X_ways hO hX (fun ρ hρ => M_ways hO hM (fun ω hω => ⟨rfl, α, β, hO, hρ, hω.1⟩))
