/-! count -/
theorem cnt_cong {p q : Nat → Bool} : ∀ {n : Nat}, (∀ i, i < n → p i = q i) → cnt p n = cnt q n
  | 0, _ => rfl
  | n + 1, h => by rw [cnt, cnt, cnt_cong (n := n) (fun i hi => h i (by omega)), h n (by omega)]
theorem cnt_tail {p : Nat → Bool} {n : Nat} : ∀ {m : Nat}, n ≤ m → (∀ i, n ≤ i → i < m → p i = false) → cnt p m = cnt p n
  | 0, h, _ => by
    have : n = 0 := by omega
    subst this
    rfl
  | m + 1, h, hp => by
    by_cases c : n = m + 1
    · subst c; rfl
    · rw [cnt_n (by rw [hp m (by omega) (by omega)]; decide)]
      exact cnt_tail (by omega) (fun i a b => hp i a (by omega))
theorem cnt_comp (p : Nat → Bool) : ∀ n, cnt p n + cnt (fun i => !p i) n = n
  | 0 => rfl
  | n + 1 => by
    have ih := cnt_comp p n
    by_cases c : p n = true
    · rw [cnt_s c, cnt_n (p := fun i => !p i) (by rw [c]; decide)]; omega
    · rw [cnt_n c, cnt_s (p := fun i => !p i) (by rw [Bool.not_eq_true] at c; rw [c]; rfl)]; omega
def bitC1 (x : Int32) : Int32 := x - (((x.toUInt32 >>> (((1 : Int32)).toUInt32 &&& Int32.toUInt32 31)).toInt32) &&& (1431655765 : Int32))
def bitC2 (x : Int32) : Int32 := (x &&& (858993459 : Int32)) + (((x.toUInt32 >>> (((2 : Int32)).toUInt32 &&& Int32.toUInt32 31)).toInt32) &&& (858993459 : Int32))
def bitC3 (x : Int32) : Int32 := (x + ((x.toUInt32 >>> (((4 : Int32)).toUInt32 &&& Int32.toUInt32 31)).toInt32)) &&& (252645135 : Int32)
def bitC4 (x : Int32) : Int32 := x + ((x.toUInt32 >>> (((8 : Int32)).toUInt32 &&& Int32.toUInt32 31)).toInt32)
def bitC5 (x : Int32) : Int32 := x + ((x.toUInt32 >>> (((16 : Int32)).toUInt32 &&& Int32.toUInt32 31)).toInt32)
def bitC (x : Int32) : Int32 := bitC5 (bitC4 (bitC3 (bitC2 (bitC1 x)))) &&& (63 : Int32)
theorem bitC_e : ∀ z, z < 256 → bitC (nI z) = nI (cnt (fun i => bt (nI z) i) 8) := by decide +kernel
theorem s_bitCount {x : Int32} {σ : Mem} {Q : Int32 → Mem → Prop} (h : ∀ i, 8 ≤ i → i < 32 → bt x i = false) (hq : Q (nI (cnt (fun i => bt x i) 8)) σ) : wJ6_bitCount_0f7a4 x σ Q := by
  obtain ⟨z, hz, rfl⟩ := small8 h
  rw [← bitC_e z hz] at hq
  unfold wJ6_bitCount_0f7a4
  intro y1 h1 y2 h2 y3 h3 y4 h4 y5 h5
  subst h1 h2 h3 h4 h5
  exact hq
def loN (α : DD) : Nat := cnt (fun d => !(DE α 3 d == 0)) (nDa α)
def coB (α : DD) (β : Mem) (k : Nat) : Int32 := if k = 0 then nI (nDa α) else if k = 1 then nI (toA α) else if k = 2 then nI (α 2 0 + α 2 1) else if k = 3 then nI (α 2 3) else if k = 4 then nI (DE α 4 0) else if k = 5 then nI (α 2 2) else if k = 6 then nI (loN α) else if k = 7 then nI (α 2 4) else β 5 0
def coS (α : DD) (β : Mem) (x : Int32) : Int32 := if gd x 9 = true then coB α β (tn x) else -2
theorem X_count {x1 : Int32} {α : DD} {β σ : Mem} {Q : Int32 → Mem → Prop} (hO : OkA α β) (hX : IX σ α β) (hq : ∀ ρ, IX ρ α β → Q (coS α β x1) ρ) : wX6_count x1 σ Q := by
  have hn := hO.nd
  obtain ⟨⟨⟨_, t2, _, _⟩, ⟨_, u2, u3, _⟩⟩, e, k, _, s, _, l⟩ := hX.1
  have hk : σ 10 4 = nI (nDa α) := by rw [k.1, iA30]
  unfold wX6_count
  refine ⟨fun z => ?_, fun z => ?_, fun z => ?_, fun z => ?_, fun z => ?_, fun z => ?_, fun z => ?_, fun z => ?_, fun z => ?_, fun z => ?_⟩
  · subst z; rw [hk]; exact hq σ hX
  · subst z
    have q := hq σ hX
    have q : Q (nI (toA α)) σ := q
    rw [u3, u2]
    unfold toA at q
    unfold flt1
    have hb : bad1 α ≤ α 2 1 := fbad_le _ _
    have h24 := hO.1.2.1
    by_cases c : bad1 α < α 2 1
    · rw [if_pos c] at q ⊢
      refine ⟨fun _ => q, fun z => ?_⟩
      have : (nI (bad1 α)).toInt = (-1 : Int32).toInt := by rw [z]
      rw [toI (by omega)] at this
      have e1 : ((-1 : Int32)).toInt = -1 := by decide
      omega
    · rw [if_neg c] at q ⊢
      exact ⟨fun z => absurd rfl z, fun _ => q⟩
  · subst z
    rw [t2, u2, nI_add]; exact hq σ hX
  · subst z
    rw [e.2.1]; exact hq σ hX
  · subst z
    refine s_danced hO hX (fun ρ hρ hD => ?_)
    have : ρ 20 16 = nI (DE α 4 0) := hD.1.1.2.2.1
    rw [this]; exact hq ρ hρ
  · subst z
    rw [k.2.1, iA31]; exact hq σ hX
  · subst z
    refine s_danced hO hX (fun ρ hρ hD => ?_)
    obtain ⟨_, _, d3, d4⟩ := hD.1
    rw [iA30] at d3 d4
    refine s_bitCount (fun i h1 h2 => d4 i (by omega) h2) ?_
    have e1 : cnt (fun i => bt (ρ 20 15) i) 8 = cnt (fun d => DE α 3 d == 0) (nDa α) := by
      rw [cnt_tail hn (fun i h1 h2 => d4 i h1 (by omega))]
      exact cnt_cong (fun i hi => d3 i hi)
    have e2 := cnt_comp (fun d => DE α 3 d == 0) (nDa α)
    rw [e1, hk, nI_sub (by omega)]
    have e3 : nDa α - cnt (fun d => DE α 3 d == 0) (nDa α) = loN α := by unfold loN; omega
    rw [e3]
    exact hq ρ hρ
  · subst z
    rw [s.1]; exact hq σ hX
  · subst z
    rw [l]; exact hq σ hX
  · unfold coS at hq
    rw [if_neg (by rw [gd_iff]; omega)] at hq
    exact hq σ hX
theorem M_manyLoose {α : DD} {β σ : Mem} {Q : Int32 → Mem → Prop} (hO : OkA α β) (hM : RM σ α β) (hD : DOM σ (iA α) (bkA α)) (hq : Q (nI (loN α)) σ) : wX7_manyLoose σ Q := by
  have hn := hO.nd
  have h4 : σ 0 7 = nI (nDa α) := by rw [hM.2.1.1, iA30]
  have h3 := hD.1.2
  rw [iA30] at h3
  have h3 : ∀ i, i < nDa α → bt (σ 0 19) i = !(DE α 3 i == 0) := h3
  unfold wX7_manyLoose
  have key := up_loop (fun N j => wX7_manyLoose_4 Q N (nI (cnt (fun d => !(DE α 3 d == 0)) j)) (nI j) σ) (nDa α) ?_ ?_ 0 (Nat.zero_le _)
  · exact key
  · intro N
    rw [wX7_manyLoose_4, h4, i_le (by omega) (by omega)]
    exact ⟨fun _ => hq, fun z => absurd (Nat.le_refl _) z⟩
  · intro N j hj ih
    rw [wX7_manyLoose_4, h4, i_le (by omega) (by omega), i1]
    refine ⟨fun z => absurd z (by omega), fun _ => s_isIn (by omega) (fun y hy => ?_)⟩
    rw [h3 j hj, if10] at hy
    by_cases c : (!(DE α 3 j == 0)) = true
    · rw [cnt_s c] at ih
      rw [if_pos c, i1] at hy
      subst hy
      exact ih
    · rw [cnt_n c] at ih
      rw [if_neg c] at hy
      have ey : y = nI (cnt (fun d => !(DE α 3 d == 0)) j) := by rw [hy]; exact nI_add _ 0
      subst ey
      exact ih
theorem M_count {x1 : Int32} {α : DD} {β σ : Mem} {Q : Int32 → Mem → Prop} (hO : OkA α β) (hM : IM σ α β) (hq : ∀ ρ, RM ρ α β → Q (coS α β x1) ρ) : wX7_count x1 σ Q := by
  unfold wX7_count
  refine s_find hO hM (fun ρ hρ hD => ?_)
  have hq := hq ρ hρ
  refine ⟨fun z => ?_, fun z => ?_, fun z => ?_, fun z => ?_, fun z => ?_, fun z => ?_, fun z => ?_, fun z => ?_, fun z => ?_, fun z => ?_⟩
  · subst z; rw [hρ.2.1.1, iA30]; exact hq
  · subst z; rw [hρ.2.2.2]; exact hq
  · subst z; rw [hρ.1.1.1, hρ.1.1.2.1, nI_add]; exact hq
  · subst z; rw [hρ.1.2.2.1.2.1]; exact hq
  · subst z
    have : ρ 0 20 = nI (DE α 4 0) := hD.1.1.2.2.1
    rw [this]; exact hq
  · subst z; rw [hρ.1.2.1]; exact hq
  · subst z; exact M_manyLoose hO hρ hD hq
  · subst z; rw [hρ.1.2.2.2.2.1.1]; exact hq
  · subst z; rw [hρ.1.2.2.2.2.2.2]; exact hq
  · unfold coS at hq
    rw [if_neg (by rw [gd_iff]; omega)] at hq
    exact hq
theorem L37 : okL_37 RR := fun σ τ a1 ⟨α, β, hO, hX, hM⟩ => X_count hO hX (fun ρ hρ => M_count hO hM (fun ω hω => ⟨rfl, α, β, hO, hρ, hω.1⟩))
/-! write -/
def wrN (α : DD) (s : Nat) : Nat := if DE α 4 0 < α 8 s then DE α 4 0 else α 8 s
def wrB (α : DD) (β : Mem) (s : Nat) : Nat → Mem
  | 0 => β
  | n + 1 => um (wrB α β s n) s n (cutI (β 4 s) (nI (csE α n)))
theorem wrB_4 {α : DD} {β : Mem} {s : Nat} (hs : s < 4) : ∀ n, wrB α β s n 4 = β 4
  | 0 => rfl
  | n + 1 => by rw [wrB, um_ne _ _ _ (by omega), wrB_4 hs n]
theorem wrB_ok {α : DD} {β : Mem} {s : Nat} (hs : s < 4) (hO : OkA α β) : ∀ n, OkA α (wrB α β s n)
  | 0 => hO
  | n + 1 => OkA_put hs (wrB_ok hs hO n)
theorem X_write0 {s : Nat} {α : DD} {β σ : Mem} {Q : Int32 → Mem → Prop} (hO : OkA α β) (hX : IX σ α β) (hs : s < 4) (hq : ∀ ρ, IX ρ α (wrB α β s (wrN α s)) → Q (nI (wrN α s)) ρ) : wX6_danced σ (fun σ30 => (vp_in (nI s) 4 ∧ (∀ x3_50 : Int32, x3_50 = (if (σ30 20 16) < (σ30 (54 + 2 * (nI s).toNatClampNeg) 2) then (σ30 20 16) else (σ30 (54 + 2 * (nI s).toNatClampNeg) 2)) → (∃ N54, wX6_write_54 Q N54 (nI s) x3_50 (0 : Int32) σ30)))) := by
  have hn := hO.nd
  have hon := onE hO
  have h60 := (hO.2.2.2.2 s hs).1
  refine s_danced hO hX (fun ρ hρ hD => ⟨vp_in_nI (by omega) (by omega), fun y hy => ?_⟩)
  have h16 : ρ 20 16 = nI (DE α 4 0) := hD.1.1.2.2.1
  have h2 := (hρ.1.2.2.2.2.2.1 s hs).2.1
  rw [nI_clamp (by omega), h16, h2] at hy
  have hw : wrN α s ≤ DE α 4 0 ∧ wrN α s ≤ α 8 s := by unfold wrN; split <;> omega
  have ey : y = nI (wrN α s) := by
    rw [hy]
    unfold wrN
    by_cases c : DE α 4 0 < α 8 s
    · rw [if_pos c, if_pos (by rw [i_lt (by omega) (by omega)]; exact c)]
    · rw [if_neg c, if_neg (by rw [i_lt (by omega) (by omega)]; exact c)]
  subst ey
  have key := up_loop (fun N j => ∀ ω, IX ω α (wrB α β s j) → (∀ i, i < DE α 4 0 → ω 31 i = nI (DE α 5 i)) → wX6_write_54 Q N (nI s) (nI (wrN α s)) (nI j) ω) (wrN α s) ?_ ?_ 0 (Nat.zero_le _)
  · obtain ⟨N, hN⟩ := key
    exact ⟨N, hN ρ hρ (fun i hi => (hD.1.1.2.1 i hi).1)⟩
  · intro N ω o1 o2
    rw [wX6_write_54, i_le (by omega) (by omega)]
    exact ⟨fun _ => hq ω o1, fun z => absurd (Nat.le_refl _) z⟩
  · intro N j hj ih ω o1 o2
    have ho := ovE hO (show j < DE α 4 0 by omega)
    rw [wX6_write_54, i_le (by omega) (by omega), nI_clamp (show j < 2 ^ 31 by omega), o2 j (by omega), nI_clamp (show DE α 5 j < 2 ^ 31 by omega), o1.1.2.2.2.1 _ ho, nI_clamp (show s < 2 ^ 31 by omega), i1]
    refine ⟨fun z => absurd z (by omega), fun _ => ⟨vp_in_nI (by omega) (by omega), vp_in_nI (by omega) (by omega), vp_in_nI (by omega) (by omega), ?_⟩⟩
    unfold wX4_put
    rw [nI_clamp (show j < 2 ^ 31 by omega), (o1.1.2.2.2.2.2.1 s hs).1, wrB_4 hs]
    refine ⟨vp_in_nI (by omega) (by omega), fun s1 e1 => ih s1 (IX_put hs o1 e1) (fun i hi => ?_)⟩
    rw [e1, um_ne _ _ _ (by omega)]; exact o2 i hi
theorem RM_out {σ τ : Mem} {α : DD} {β β' : Mem} (h : RM σ α β) (hI : IM τ α β') (hc : ∀ c, c ≠ 3 → τ c = σ c) : RM τ α β' := by
  obtain ⟨_, k, c, t⟩ := h
  refine ⟨hI, ?_, ?_, ?_⟩
  · unfold SKM; rw [hc 0 (by omega), hc 7 (by omega), hc 8 (by omega)]; exact k
  · unfold COM; rw [hc 7 (by omega)]; exact c
  · rw [hc 0 (by omega)]; exact t
theorem M_write0 {s : Nat} {α : DD} {β σ : Mem} {Q : Int32 → Mem → Prop} (hO : OkA α β) (hM : IM σ α β) (hs : s < 4) (hq : ∀ ρ, IM ρ α (wrB α β s (wrN α s)) → Q (nI (wrN α s)) ρ) : wX7_find σ (fun σ26 => (vp_in (nI s) 4 ∧ (wX7_lesser (σ26 2 (nI s).toNatClampNeg) (σ26 0 20) σ26 (fun r39 σ39 => (∃ N45, wX7_write_45 Q N45 (nI s) r39 (0 : Int32) σ39))))) := by
  have hn := hO.nd
  have hon := onE hO
  have h60 := (hO.2.2.2.2 s hs).1
  refine s_find hO hM (fun ρ hρ hD => ⟨vp_in_nI (by omega) (by omega), ?_⟩)
  have h16 : ρ 0 20 = nI (DE α 4 0) := hD.1.1.2.2.1
  have h2 := (hρ.1.2.2.2.2.2.1 s hs).2.1
  have hw : wrN α s ≤ DE α 4 0 ∧ wrN α s ≤ α 8 s := by unfold wrN; split <;> omega
  unfold wX7_lesser
  rw [nI_clamp (by omega), h16, h2]
  have ey : (if nI (DE α 4 0) ≤ nI (α 8 s) then nI (DE α 4 0) else nI (α 8 s)) = nI (wrN α s) := by
    unfold wrN
    by_cases c : DE α 4 0 ≤ α 8 s
    · rw [if_pos (by rw [i_le (by omega) (by omega)]; exact c)]
      by_cases c2 : DE α 4 0 < α 8 s
      · rw [if_pos c2]
      · rw [if_neg c2, show DE α 4 0 = α 8 s by omega]
    · rw [if_neg (by rw [i_le (by omega) (by omega)]; exact c), if_neg (by omega)]
  rw [ey]
  have key := up_loop (fun N j => ∀ ω, RM ω α (wrB α β s j) → DOM ω (iA α) (bkA α) → wX7_write_45 Q N (nI s) (nI (wrN α s)) (nI j) ω) (wrN α s) ?_ ?_ 0 (Nat.zero_le _)
  · obtain ⟨N, hN⟩ := key
    exact ⟨N, hN ρ hρ hD⟩
  · intro N ω o1 o2
    rw [wX7_write_45, i_le (by omega) (by omega)]
    exact ⟨fun _ => hq ω o1.1, fun z => absurd (Nat.le_refl _) z⟩
  · intro N j hj ih ω o1 o2
    rw [wX7_write_45, i_le (by omega) (by omega), nI_clamp (show s < 2 ^ 31 by omega), i1]
    refine ⟨fun z => absurd z (by omega), fun _ => ⟨vp_in_nI (by omega) (by omega), M_colourOf (co := coA (α 0)) hn hon (show j < DE α 4 0 by omega) (M_ov hO o2) o1.2.2.1 ?_⟩⟩
    have ea : (60 : Int32) * nI s + nI j = nI (60 * s + j) := by
      rw [show (60 : Int32) * nI s = nI (60 * s) from pk_mul 60 s]; exact nI_add _ _
    unfold wX7_cut
    rw [ea, nI_clamp (by omega), (o1.1.2.2.2.2.2.1 s hs).1, wrB_4 hs]
    refine ⟨vp_in_nI (by omega) (by omega), fun s1 e1 => ?_⟩
    have cc : ∀ c, c ≠ 3 → s1 c = ω c := fun c hc => by rw [e1, um_ne _ _ _ hc]
    exact ih s1 (RM_out o1 (IM_put hs (by omega) (wrB_ok hs hO j) o1.1 e1) cc) (DOM_same o2 (fun c _ _ _ h3 _ _ _ => cc c h3) (fun j _ => by rw [cc 0 (by omega)]))
theorem L36 : okL_36 RR := by
  intro σ τ a1 ⟨α, β, hO, hX, hM⟩
  unfold wX6_write
  refine s_isSheetX ?_
  by_cases g1 : (0 ≤ a1.toInt ∧ a1.toInt ≤ 3)
  · rw [if_pos g1]
    refine ⟨fun _ => ?_, fun z => absurd z one_ne⟩
    obtain ⟨s, hs, rfl⟩ := nat_of g1.1 (n := 3) g1.2 (by omega)
    have hs4 : s < 4 := by omega
    have hl := lost_of hO hs4
    have x1 := hX.1.2.2.2.2.2.1 s hs4
    have m1 := hM.2.2.2.2.2.1 s hs4
    rw [show σ (54 + 2 * (nI s).toNatClampNeg) 1 = β 4 s by rw [nI_clamp (by omega)]; exact x1.1]
    refine ⟨vp_in_nI (by omega) (by omega), fun z => X_write0 hO hX hs4 (fun ρ hρ => ?_), fun z => s_found hX (fun ρ hρ => ?_)⟩
    · unfold wX7_write
      refine s_isSheetM ?_
      rw [if_pos g1]
      refine ⟨fun _ => ?_, fun z => absurd z one_ne⟩
      rw [show τ 1 (nI s).toNatClampNeg = β 4 s by rw [nI_clamp (by omega)]; exact m1.1, hl]
      exact ⟨vp_in_nI (by omega) (by omega), fun _ => M_write0 hO hM hs4 (fun ω hω => ⟨rfl, α, _, wrB_ok hs4 hO _, hρ, hω⟩), fun y => absurd z y⟩
    · unfold wX7_write
      refine s_isSheetM ?_
      rw [if_pos g1]
      refine ⟨fun _ => ?_, fun z => absurd z one_ne⟩
      rw [show τ 1 (nI s).toNatClampNeg = β 4 s by rw [nI_clamp (by omega)]; exact m1.1, hl]
      exact ⟨vp_in_nI (by omega) (by omega), fun y => absurd z y, fun _ => s_finds hM (fun ω hω => ⟨rfl, _, _, OkA_found hO, hρ, hω⟩)⟩
  · rw [if_neg g1]
    refine ⟨fun z => absurd rfl z, fun _ => ?_⟩
    unfold wX7_write
    refine s_isSheetM ?_
    rw [if_neg g1]
    exact ⟨fun z => absurd rfl z, fun _ => ⟨rfl, α, β, hO, hX, hM⟩⟩
