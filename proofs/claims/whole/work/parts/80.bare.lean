theorem on_le {ι : DD} {bk : Nat → Nat → Nat → Bool} (h : OkI ι) {b : Nat} (hb : b ≤ 24) : danceD ι bk b 4 0 ≤ 120 := (WF_dance (bk := bk) h b hb).on h.1 h.2.1
theorem DB_le {α : DD} {β : Mem} (hO : OkA α β) {b : Nat} (hb : b < 24) : DB α b 4 0 ≤ 120 := on_le (OkI_iA hO) (by omega)
theorem or0 (x : Int32) : x ||| 0 = x := b_ext (fun i _ => by rw [b_or, b_0, Bool.or_false])
/-- the last one below n -/
def lastB (p : Nat → Bool) : Nat → Int32
  | 0 => -1
  | n + 1 => if p n = true then nI n else lastB p n
/-- bits of those below n -/
def orB (p : Nat → Bool) : Nat → Int32
  | 0 => 0
  | n + 1 => if p n = true then (orB p n ||| ((1 : Int32) <<< (nI n &&& 31))) else orB p n
theorem orB_y {p : Nat → Bool} {n : Nat} (h : p n = true) : orB p (n + 1) = (orB p n ||| ((1 : Int32) <<< (nI n &&& 31))) := by rw [orB, if_pos h]
theorem orB_n {p : Nat → Bool} {n : Nat} (h : ¬ p n = true) : orB p (n + 1) = orB p n := by rw [orB, if_neg h]
theorem orB_i (p : Nat → Bool) (n : Nat) : (orB p n ||| (if p n = true then ((1 : Int32) <<< (nI n &&& 31)) else 0)) = orB p (n + 1) := by
  by_cases h : p n = true
  · rw [if_pos h, orB_y h]
  · rw [if_neg h, orB_n h, or0]
/-- the most, and the first that has it -/
def mV (p : Nat → Bool) (f : Nat → Int32) (m0 : Int32) : Nat → Int32
  | 0 => m0
  | n + 1 => if p n = true then (if f n ≤ mV p f m0 n then mV p f m0 n else f n) else mV p f m0 n
def mI (p : Nat → Bool) (f : Nat → Int32) (m0 : Int32) : Nat → Int32
  | 0 => -1
  | n + 1 => if p n = true then (if f n ≤ mV p f m0 n then mI p f m0 n else nI n) else mI p f m0 n
theorem mV_n {p : Nat → Bool} {f : Nat → Int32} {m0 : Int32} {n : Nat} (h : ¬ p n = true) : mV p f m0 (n + 1) = mV p f m0 n ∧ mI p f m0 (n + 1) = mI p f m0 n := by
  rw [mV, mI, if_neg h, if_neg h]
  exact ⟨rfl, rfl⟩
theorem mV_l {p : Nat → Bool} {f : Nat → Int32} {m0 : Int32} {n : Nat} (h : p n = true) (c : f n ≤ mV p f m0 n) : mV p f m0 (n + 1) = mV p f m0 n ∧ mI p f m0 (n + 1) = mI p f m0 n := by
  rw [mV, mI, if_pos h, if_pos h, if_pos c, if_pos c]
  exact ⟨rfl, rfl⟩
theorem mV_g {p : Nat → Bool} {f : Nat → Int32} {m0 : Int32} {n : Nat} (h : p n = true) (c : ¬ f n ≤ mV p f m0 n) : mV p f m0 (n + 1) = f n ∧ mI p f m0 (n + 1) = nI n := by
  rw [mV, mI, if_pos h, if_pos h, if_neg c, if_neg c]
  exact ⟨rfl, rfl⟩
theorem mV_e {p : Nat → Bool} {f : Nat → Int32} {m0 : Int32} {n : Nat} (h : p n = true) : (if f n ≤ mV p f m0 n then mV p f m0 n else f n) = mV p f m0 (n + 1) ∧ (if f n ≤ mV p f m0 n then mI p f m0 n else nI n) = mI p f m0 (n + 1) := by
  rw [mV, mI, if_pos h, if_pos h]
  exact ⟨rfl, rfl⟩
/-! bare -/
def baB (α : DD) : Int32 := lastB (fun b => DB α b 4 0 == 0) 24
theorem X_bare0 {f : Nat → Nat} {σ : Mem} {Q : Int32 → Mem → Prop} (hf : ∀ b, b < 24 → σ 29 b = nI (f b) ∧ f b ≤ 120) : ∀ n, n ≤ 24 → Q (lastB (fun b => f b == 0) n) σ → ∃ N, wX6_bare_8 Q N (nI n + (-1)) σ
  | 0, _, hq => ⟨0 + 1, by
      rw [wX6_bare_8]
      exact ⟨fun _ => hq, fun z => absurd (by decide) z⟩⟩
  | n + 1, hn, hq => by
      obtain ⟨h1, h2⟩ := hf n (by omega)
      by_cases c : f n = 0
      · rw [lastB, if_pos (by simpa using c)] at hq
        refine ⟨0 + 1, ?_⟩
        rw [wX6_bare_8, pk_m1, nI_clamp (by omega), h1, neq0 (by omega)]
        exact ⟨fun z => absurd z (nI_pos (by omega)), fun _ => ⟨vp_in_nI (by omega) (by omega), fun z => absurd c z, fun _ => hq⟩⟩
      · rw [lastB, if_neg (by simpa using c)] at hq
        obtain ⟨N, hN⟩ := X_bare0 hf n (by omega) hq
        refine ⟨N + 1, ?_⟩
        rw [wX6_bare_8, pk_m1, nI_clamp (by omega), h1, neq0 (by omega)]
        exact ⟨fun z => absurd z (nI_pos (by omega)), fun _ => ⟨vp_in_nI (by omega) (by omega), fun _ => hN, fun z => absurd z c⟩⟩
theorem X_bare {α : DD} {β σ : Mem} {Q : Int32 → Mem → Prop} (hO : OkA α β) (hX : IX σ α β) (hq : ∀ ρ, IX ρ α β → Q (baB α) ρ) : wX6_bare σ Q := by
  unfold wX6_bare
  refine s_danced hO hX (fun ρ hρ hD => ?_)
  rw [show (23 : Int32) = nI 24 + (-1) by decide]
  exact X_bare0 (f := fun b => DB α b 4 0) (fun b hb => ⟨(hD.2 b hb).1, DB_le hO hb⟩) 24 (Nat.le_refl _) (hq ρ hρ)
theorem M_bareNow {α : DD} {β σ : Mem} {Q : Int32 → Mem → Prop} (hO : OkA α β) (hD : DOM σ (iA α) (bkA α)) (hq : Q (baB α) σ) : wX7_bareNow σ Q := by
  unfold wX7_bareNow
  have key := up_loop (fun N j => wX7_bareNow_4 Q N (lastB (fun b => DB α b 4 0 == 0) j) (nI j) σ) 24 ?_ ?_ 0 (Nat.zero_le _)
  · exact key
  · intro N
    rw [wX7_bareNow_4, l_ge24 (by omega)]
    exact ⟨fun _ => hq, fun z => absurd (Nat.le_refl _) z⟩
  · intro N j hj ih
    have h1 : σ 21 j = nI (DB α j 4 0) := (hD.2 j hj).1
    have h2 := DB_le hO hj
    rw [wX7_bareNow_4, l_ge24 (by omega), nI_clamp (by omega), h1, i1]
    refine ⟨fun z => absurd z (by omega), fun _ => ⟨vp_in_nI (by omega) (by omega), ?_⟩⟩
    intro y hy
    rw [lastB] at ih
    by_cases c : DB α j 4 0 = 0
    · rw [if_pos (by rw [neq0 (by omega)]; exact c)] at hy
      rw [if_pos (by simpa using c)] at ih
      subst hy
      exact ih
    · rw [if_neg (by rw [neq0 (by omega)]; exact c)] at hy
      rw [if_neg (by simpa using c)] at ih
      subst hy
      exact ih
theorem M_bare {α : DD} {β σ : Mem} {Q : Int32 → Mem → Prop} (hO : OkA α β) (hM : IM σ α β) (hq : ∀ ρ, RM ρ α β → Q (baB α) ρ) : wX7_bare σ Q := by
  unfold wX7_bare
  exact s_find hO hM (fun ρ hρ hD => M_bareNow hO hD (hq ρ hρ))
theorem L16 : okL_16 RR := fun σ τ ⟨α, β, hO, hX, hM⟩ => X_bare hO hX (fun ρ hρ => M_bare hO hM (fun ω hω => ⟨rfl, α, β, hO, hρ, hω.1⟩))
/-! top -/
def tmO (α : DD) (d : Nat) : Int32 := nI (cnt (fun i => DE α 5 i == d) (DE α 4 0))
def toB (α : DD) : Int32 := mI (fun _ => true) (tmO α) 0 (nDa α)
theorem cnt_s {p : Nat → Bool} {n : Nat} (h : p n = true) : cnt p (n + 1) = cnt p n + 1 := by rw [cnt, if_pos h]
theorem cnt_n {p : Nat → Bool} {n : Nat} (h : ¬ p n = true) : cnt p (n + 1) = cnt p n := by rw [cnt, if_neg h]
theorem X_timesOver {d n k : Nat} {ov : Nat → Nat} {σ : Mem} {Q : Int32 → Mem → Prop} (hn : n ≤ 120) (h16 : σ d 16 = nI n) (hov : ∀ i, i < n → σ (d + 11) i = nI (ov i) ∧ ov i < 8) (hk : k < 8) (hq : Q (nI (cnt (fun i => ov i == k) n)) σ) : wX0_timesOver d (nI k) σ Q := by
  unfold wX0_timesOver
  have key := up_loop (fun N j => wX0_timesOver_4 Q N d (nI k) (nI (cnt (fun i => ov i == k) j)) (nI j) σ) n ?_ ?_ 0 (Nat.zero_le _)
  · exact key
  · intro N
    rw [wX0_timesOver_4, h16, i_le (by omega) (by omega)]
    exact ⟨fun _ => hq, fun z => absurd (Nat.le_refl _) z⟩
  · intro N j hj ih
    obtain ⟨o1, o2⟩ := hov j hj
    rw [wX0_timesOver_4, h16, i_le (by omega) (by omega), nI_clamp (by omega), o1, i_eq (by omega) (by omega), i1, i1]
    refine ⟨fun z => absurd z (by omega), fun _ => ⟨vp_in_nI (by omega) (by omega), fun z => ?_, fun z => ?_⟩⟩
    · rw [cnt_n (by simpa using z)] at ih; exact ih
    · rw [cnt_s (by simpa using z)] at ih; exact ih
theorem M_oversOf {n k : Nat} {ov : Nat → Nat} {σ : Mem} {Q : Int32 → Mem → Prop} (hn : n ≤ 120) (h16 : σ 0 20 = nI n) (hov : ∀ i, i < n → σ 14 i = nI (ov i) ∧ ov i < 8) (hk : k < 8) (hq : Q (nI (cnt (fun i => ov i == k) n)) σ) : wX7_oversOf (nI k) σ Q := by
  unfold wX7_oversOf
  have key := up_loop (fun N j => wX7_oversOf_4 Q N (nI k) (nI (cnt (fun i => ov i == k) j)) (nI j) σ) n ?_ ?_ 0 (Nat.zero_le _)
  · exact key
  · intro N
    rw [wX7_oversOf_4, h16, i_le (by omega) (by omega)]
    exact ⟨fun _ => hq, fun z => absurd (Nat.le_refl _) z⟩
  · intro N j hj ih
    obtain ⟨o1, o2⟩ := hov j hj
    rw [wX7_oversOf_4, h16, i_le (by omega) (by omega), nI_clamp (by omega), o1, i1]
    refine ⟨fun z => absurd z (by omega), fun _ => ⟨vp_in_nI (by omega) (by omega), ?_⟩⟩
    intro y hy
    by_cases z : ov j = k
    · rw [cnt_s (by simpa using z)] at ih
      rw [if_pos (by rw [z]), i1] at hy
      subst hy
      exact ih
    · rw [cnt_n (by simpa using z)] at ih
      rw [if_neg (by rw [i_eq (by omega) (by omega)]; exact z)] at hy
      have : y = nI (cnt (fun i => ov i == k) j) := by rw [hy]; exact nI_add _ 0
      subst this
      exact ih
theorem X_top {α : DD} {β σ : Mem} {Q : Int32 → Mem → Prop} (hO : OkA α β) (hX : IX σ α β) (hq : ∀ ρ, IX ρ α β → Q (toB α) ρ) : wX6_top σ Q := by
  have hn := hO.nd
  unfold wX6_top
  refine s_danced hO hX (fun ρ hρ hD => ?_)
  have h4 : ρ 10 4 = nI (nDa α) := by rw [hρ.1.2.2.1.1, iA30]
  have key := up_loop (fun N j => wX6_top_12 Q N (mI (fun _ => true) (tmO α) 0 j) (mV (fun _ => true) (tmO α) 0 j) (nI j) ρ) (nDa α) ?_ ?_ 0 (Nat.zero_le _)
  · exact key
  · intro N
    rw [wX6_top_12, h4, i_le (by omega) (by omega)]
    exact ⟨fun _ => hq ρ hρ, fun z => absurd (Nat.le_refl _) z⟩
  · intro N j hj ih
    rw [wX6_top_12, h4, i_le (by omega) (by omega), i1]
    refine ⟨fun z => absurd z (by omega), fun _ => X_timesOver (ov := DE α 5) (onE hO) hD.1.1.2.2.1 (fun i hi => ⟨(hD.1.1.2.1 i hi).1, by have := ovE hO hi; omega⟩) (by omega) ?_⟩
    refine ⟨fun z => ?_, fun z => ?_⟩
    · rw [(mV_l (f := tmO α) rfl z).1, (mV_l (f := tmO α) rfl z).2] at ih; exact ih
    · rw [(mV_g (f := tmO α) rfl z).1, (mV_g (f := tmO α) rfl z).2] at ih; exact ih
theorem M_topNow {α : DD} {β σ : Mem} {Q : Int32 → Mem → Prop} (hO : OkA α β) (hM : RM σ α β) (hD : DOM σ (iA α) (bkA α)) (hq : Q (toB α) σ) : wX7_topNow σ Q := by
  have hn := hO.nd
  unfold wX7_topNow
  have h4 : σ 0 7 = nI (nDa α) := by rw [hM.2.1.1, iA30]
  have key := up_loop (fun N j => wX7_topNow_6 Q N (mI (fun _ => true) (tmO α) 0 j) (mV (fun _ => true) (tmO α) 0 j) (nI j) σ) (nDa α) ?_ ?_ 0 (Nat.zero_le _)
  · exact key
  · intro N
    rw [wX7_topNow_6, h4, i_le (by omega) (by omega)]
    exact ⟨fun _ => hq, fun z => absurd (Nat.le_refl _) z⟩
  · intro N j hj ih
    rw [wX7_topNow_6, h4, i_le (by omega) (by omega), i1]
    refine ⟨fun z => absurd z (by omega), fun _ => M_oversOf (ov := DE α 5) (onE hO) hD.1.1.2.2.1 (fun i hi => ⟨(hD.1.1.2.1 i hi).1, by have := ovE hO hi; omega⟩) (by omega) ?_⟩
    intro y hy
    unfold wX7_greater
    have e := mV_e (p := fun _ => true) (f := tmO α) (m0 := 0) (n := j) rfl
    rw [show nI (cnt (fun i => DE α 5 i == j) (DE α 4 0)) = tmO α j from rfl] at hy ⊢
    rw [e.1]
    rw [e.2] at hy
    subst hy
    exact ih
theorem M_top {α : DD} {β σ : Mem} {Q : Int32 → Mem → Prop} (hO : OkA α β) (hM : IM σ α β) (hq : ∀ ρ, RM ρ α β → Q (toB α) ρ) : wX7_top σ Q := by
  unfold wX7_top
  exact s_find hO hM (fun ρ hρ hD => M_topNow hO hρ hD (hq ρ hρ))
theorem L17 : okL_17 RR := fun σ τ ⟨α, β, hO, hX, hM⟩ => X_top hO hX (fun ρ hρ => M_top hO hM (fun ω hω => ⟨rfl, α, β, hO, hρ, hω.1⟩))
/-! lacks -/
def laB (α : DD) : Int32 := orB (fun d => DE α 2 d == 0) (nDa α)
theorem leftE {α : DD} {β : Mem} (hO : OkA α β) {d : Nat} (hd : d < nDa α) : DE α 2 d ≤ 240 := (WFE hO).left hO.nd hO.2.1.2 hd
theorem X_lacks {α : DD} {β σ : Mem} {Q : Int32 → Mem → Prop} (hO : OkA α β) (hX : IX σ α β) (hq : ∀ ρ, IX ρ α β → Q (laB α) ρ) : wX6_lacks σ Q := by
  have hn := hO.nd
  unfold wX6_lacks
  refine s_danced hO hX (fun ρ hρ hD => ?_)
  have h4 : ρ 10 4 = nI (nDa α) := by rw [hρ.1.2.2.1.1, iA30]
  have key := up_loop (fun N j => wX6_lacks_9 Q N (orB (fun d => DE α 2 d == 0) j) (nI j) ρ) (nDa α) ?_ ?_ 0 (Nat.zero_le _)
  · exact key
  · intro N
    rw [wX6_lacks_9, h4, i_le (by omega) (by omega)]
    exact ⟨fun _ => hq ρ hρ, fun z => absurd (Nat.le_refl _) z⟩
  · intro N j hj ih
    have hl := leftE hO hj
    have r : ρ 25 j = nI (DE α 2 j) := (hD.1.1.1 j (by rw [iA30]; exact hj)).2.2
    rw [wX6_lacks_9, h4, i_le (by omega) (by omega), i1, nI_clamp (by omega), r, neq0 (by omega)]
    refine ⟨fun z => absurd z (by omega), fun _ => ⟨vp_in_nI (by omega) (by omega), fun z => ?_, fun z => ?_⟩⟩
    · rw [orB_n (by simpa using z)] at ih; exact ih
    · intro y hy
      rw [orB_y (by simpa using z)] at ih
      subst hy
      exact ih
theorem M_lacksNow {α : DD} {β σ : Mem} {Q : Int32 → Mem → Prop} (hO : OkA α β) (hM : RM σ α β) (hD : DOM σ (iA α) (bkA α)) (hq : Q (laB α) σ) : wX7_lacksNow σ Q := by
  have hn := hO.nd
  unfold wX7_lacksNow
  have h4 : σ 0 7 = nI (nDa α) := by rw [hM.2.1.1, iA30]
  have key := up_loop (fun N j => wX7_lacksNow_4 Q N (orB (fun d => DE α 2 d == 0) j) (nI j) σ) (nDa α) ?_ ?_ 0 (Nat.zero_le _)
  · exact key
  · intro N
    rw [wX7_lacksNow_4, h4, i_le (by omega) (by omega)]
    exact ⟨fun _ => hq, fun z => absurd (Nat.le_refl _) z⟩
  · intro N j hj ih
    have hl := leftE hO hj
    have r : σ 13 j = nI (DE α 2 j) := (hD.1.1.1 j (by rw [iA30]; exact hj)).2.2
    rw [wX7_lacksNow_4, h4, i_le (by omega) (by omega), i1, nI_clamp (by omega), r]
    refine ⟨fun z => absurd z (by omega), fun _ => ⟨vp_in_nI (by omega) (by omega), ?_⟩⟩
    intro y hy
    by_cases z : DE α 2 j = 0
    · rw [orB_y (by simpa using z)] at ih
      rw [if_pos (by rw [neq0 (by omega)]; exact z)] at hy
      subst hy
      exact ih
    · rw [orB_n (by simpa using z)] at ih
      rw [if_neg (by rw [neq0 (by omega)]; exact z), or0] at hy
      subst hy
      exact ih
theorem M_lacks {α : DD} {β σ : Mem} {Q : Int32 → Mem → Prop} (hO : OkA α β) (hM : IM σ α β) (hq : ∀ ρ, RM ρ α β → Q (laB α) ρ) : wX7_lacks_ σ Q := by
  unfold wX7_lacks_
  exact s_find hO hM (fun ρ hρ hD => M_lacksNow hO hρ hD (hq ρ hρ))
theorem L18 : okL_18 RR := fun σ τ ⟨α, β, hO, hX, hM⟩ => X_lacks hO hX (fun ρ hρ => M_lacks hO hM (fun ω hω => ⟨rfl, α, β, hO, hρ, hω.1⟩))
