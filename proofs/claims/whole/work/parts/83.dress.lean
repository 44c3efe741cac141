/-! dress -/
def cuA (co : Nat → Nat) (k v d : Nat) : Nat := if d = k then v else co d
def nV (f : Nat → Int32) (m0 : Int32) : Nat → Int32
  | 0 => m0
  | n + 1 => if nV f m0 n ≤ f n then nV f m0 n else f n
def nJ (f : Nat → Int32) (m0 : Int32) : Nat → Int32
  | 0 => -1
  | n + 1 => if nV f m0 n ≤ f n then nJ f m0 n else nI n
theorem nV_l {f : Nat → Int32} {m0 : Int32} {n : Nat} (c : nV f m0 n ≤ f n) : nV f m0 (n + 1) = nV f m0 n ∧ nJ f m0 (n + 1) = nJ f m0 n := by
  rw [nV, nJ, if_pos c, if_pos c]
  exact ⟨rfl, rfl⟩
theorem nV_g {f : Nat → Int32} {m0 : Int32} {n : Nat} (c : ¬ nV f m0 n ≤ f n) : nV f m0 (n + 1) = f n ∧ nJ f m0 (n + 1) = nI n := by
  rw [nV, nJ, if_neg c, if_neg c]
  exact ⟨rfl, rfl⟩
theorem nV_e {f : Nat → Int32} {m0 : Int32} {n : Nat} : (if nV f m0 n ≤ f n then nV f m0 n else f n) = nV f m0 (n + 1) ∧ (if nV f m0 n ≤ f n then nJ f m0 n else nI n) = nJ f m0 (n + 1) := ⟨rfl, rfl⟩
theorem nV_0 {f : Nat → Int32} {a b : Int32} (ha : ¬ a ≤ f 0) (hb : ¬ b ≤ f 0) : ∀ n, nV f a (n + 1) = nV f b (n + 1) ∧ nJ f a (n + 1) = nJ f b (n + 1)
  | 0 => by rw [(nV_g (m0 := a) ha).1, (nV_g (m0 := a) ha).2, (nV_g (m0 := b) hb).1, (nV_g (m0 := b) hb).2]; exact ⟨rfl, rfl⟩
  | n + 1 => by
    obtain ⟨h1, h2⟩ := nV_0 ha hb n
    rw [nV, nJ, nV.eq_2 f b, nJ.eq_2 f b, h1, h2]
    exact ⟨rfl, rfl⟩
def drN (α : DD) (k v : Nat) : Nat := mostR (fun i => cuA (coA (α 0)) k v (DE α 5 i)) (DE α 4 0)
def drF (α : DD) (k v : Nat) : Int32 := nI (drN α k v)
theorem drN_le {α : DD} {β : Mem} (hO : OkA α β) (k v : Nat) : drN α k v ≤ 120 := Nat.le_trans (mostR_le _ _) (onE hO)
def drB (α : DD) (d k : Nat) : Int32 := if k = 0 then nJ (drF α d) 121 10 else nV (drF α d) 121 10
def drS (α : DD) (x1 x2 : Int32) : Int32 := if (gd x1 (nDa α) && gd x2 2) = true then drB α (tn x1) (tn x2) else -2
theorem dr_0 {α : DD} {β : Mem} (hO : OkA α β) (d k : Nat) : (if k = 0 then nJ (drF α d) 999 10 else nV (drF α d) 999 10) = drB α d k := by
  have h := drN_le hO d 0
  obtain ⟨h1, h2⟩ := nV_0 (f := drF α d) (a := 999) (b := 121) (by
    show ¬ nI 999 ≤ nI (drN α d 0)
    rw [i_le (by omega) (by omega)]; omega) (by
    show ¬ nI 121 ≤ nI (drN α d 0)
    rw [i_le (by omega) (by omega)]; omega) 9
  unfold drB
  rw [h1, h2]
set_option maxHeartbeats 1000000 in
theorem X_dress {x1 x2 : Int32} {α : DD} {β σ : Mem} {Q : Int32 → Mem → Prop} (hO : OkA α β) (hX : IX σ α β) (hq : ∀ ρ, IX ρ α β → Q (drS α x1 x2) ρ) : wX6_dress x1 x2 σ Q := by
  have hn := hO.nd
  have hon := onE hO
  unfold wX6_dress
  unfold drS at hq
  refine G_dX hO hX (g_ny (fun g1 => G_twoX (g_yn (fun g2 => s_danced hO hX (fun ω o1 o2 => X_become hO o1 (fun τ t1 _ t3 t4 => ?_))) (fun g2 => ?_))) (fun g1 => ?_))
  · rw [g1, g2] at hq
    obtain ⟨d, hd, rfl, e1⟩ := gd_of (by omega) g1
    obtain ⟨k, hk, rfl, e2⟩ := gd_of (by omega) g2
    rw [e1, e2] at hq
    have D1 : DOK τ 20 (iA α) (bkA α) := DOK_same o2 (fun c hc => t4 c (by omega))
    have key := up_loop (fun N j => ∀ σ, IX σ α β → DOK σ 20 (iA α) (bkA α) → (∀ i, i < nDa α → i ≠ d → σ 18 i = nI (coA (α 0) i)) → wX6_dress_44 Q N (nI d) (nI k) (nJ (drF α d) 121 j) (nV (drF α d) 121 j) (nI j) σ) 10 ?_ ?_ 0 (Nat.zero_le _)
    · obtain ⟨N, hN⟩ := key
      exact ⟨N, hN τ t1 D1 (fun i hi _ => t3 i hi)⟩
    · intro N ρ r1 r2 r3
      rw [wX6_dress_44, l_ge10 (by omega)]
      refine ⟨fun _ => ?_, fun z => absurd (Nat.le_refl _) z⟩
      unfold wX6_dress_97
      rw [if0 (by omega)]
      exact hq ρ r1
    · intro N j hj ih ρ r1 r2 r3
      rw [wX6_dress_44, l_ge10 (by omega), nI_clamp (by omega), i1]
      refine ⟨fun z => absurd z (by omega), fun _ => ⟨vp_in_nI (by omega) (by omega), ?_⟩⟩
      intro s1 h1
      have X1 : IX s1 α β := by rw [h1]; exact IX_tr r1 (by omega) (by omega)
      have D2 : DOK s1 20 (iA α) (bkA α) := DOK_same r2 (fun c hc => by rw [h1, um_ne _ _ _ (by omega)])
      have C2 : ∀ i, i < nDa α → s1 18 i = nI (cuA (coA (α 0)) d j i) := fun i hi => by
        rw [h1, um_any]
        unfold cuA
        by_cases c : i = d
        · rw [if_pos ⟨rfl, c⟩, if_pos c]
        · rw [if_neg (fun z => c z.2), if_neg c]; exact r3 i hi c
      refine X_run0 (x := 0) (ov := DE α 5) (cs := fun i => cuA (coA (α 0)) d j (DE α 5 i)) hon D2.1.1.2.2.1 (fun i hi => ⟨(D2.1.1.2.1 i hi).1, by have := ovE hO hi; omega⟩) (fun i hi => ⟨C2 _ (ovE hO hi), ?_⟩) (by omega) ?_
      · have := coA_lt (ovE hO hi)
        unfold cuA
        show (if DE α 5 i = d then j else coA (α 0) (DE α 5 i)) < 2 ^ 31
        split <;> omega
      · show (nV (drF α d) 121 j ≤ drF α d j → _) ∧ (¬ nV (drF α d) 121 j ≤ drF α d j → _)
        have C3 : ∀ i, i < nDa α → i ≠ d → s1 18 i = nI (coA (α 0) i) := fun i hi hne => by
          rw [C2 i hi]; unfold cuA; rw [if_neg hne]
        refine ⟨fun z => ?_, fun z => ?_⟩
        · have e := nV_l (f := drF α d) (m0 := 121) (n := j) z
          rw [e.1, e.2] at ih
          exact ih s1 X1 D2 C3
        · have e := nV_g (f := drF α d) (m0 := 121) (n := j) z
          rw [e.1, e.2] at ih
          exact ih s1 X1 D2 C3
  · rw [g1, g2] at hq; exact hq σ hX
  · rw [g1] at hq; exact hq σ hX
theorem DOM_same {σ τ : Mem} {ι : DD} {bk : Nat → Nat → Nat → Bool} (h : DOM σ ι bk) (hc : ∀ c, c < 23 → c ≠ 1 → c ≠ 2 → c ≠ 3 → c ≠ 7 → c ≠ 8 → c ≠ 0 → τ c = σ c) (h0 : ∀ j, (j = 19 ∨ j = 20 ∨ j = 26 ∨ j = 27) → τ 0 j = σ 0 j) : DOM τ ι bk := by
  unfold DOM MH BHM RGM
  rw [hc 10 (by omega) (by omega) (by omega) (by omega) (by omega) (by omega) (by omega), hc 12 (by omega) (by omega) (by omega) (by omega) (by omega) (by omega) (by omega), hc 13 (by omega) (by omega) (by omega) (by omega) (by omega) (by omega) (by omega), hc 14 (by omega) (by omega) (by omega) (by omega) (by omega) (by omega) (by omega), hc 15 (by omega) (by omega) (by omega) (by omega) (by omega) (by omega) (by omega), hc 17 (by omega) (by omega) (by omega) (by omega) (by omega) (by omega) (by omega), hc 16 (by omega) (by omega) (by omega) (by omega) (by omega) (by omega) (by omega), h0 20 (by omega), h0 26 (by omega), h0 27 (by omega), h0 19 (by omega), hc 21 (by omega) (by omega) (by omega) (by omega) (by omega) (by omega) (by omega), hc 22 (by omega) (by omega) (by omega) (by omega) (by omega) (by omega) (by omega), hc 18 (by omega) (by omega) (by omega) (by omega) (by omega) (by omega) (by omega), hc 19 (by omega) (by omega) (by omega) (by omega) (by omega) (by omega) (by omega), hc 20 (by omega) (by omega) (by omega) (by omega) (by omega) (by omega) (by omega)]
  exact h
theorem HM_co {σ : Mem} {α : DD} {β : Mem} {ι : DD} {co : Nat → Nat} {d s : Nat} (h : HM σ α β ι co) : HM (um σ 7 (3 * d + 2) (nI s)) α β ι (cuA co d s) := by
  obtain ⟨m, ⟨k1, k2, k3, k4⟩, c, t⟩ := h
  refine ⟨IMz m (fun c hc => um_ne _ _ _ (by omega)) (fun j hj => by rw [um_ne _ _ _ (by omega)]), ⟨?_, ?_, fun i hi => ?_, fun b2 hb2 => ?_⟩, fun i hi => ?_, ?_⟩
  · rw [um_ne _ _ _ (by omega)]; exact k1
  · rw [um_ne _ _ _ (by omega)]; exact k2
  · rw [um_nei _ _ (by omega), um_nei _ _ (by omega)]; exact k3 i hi
  · rw [um_ne _ _ _ (by omega)]; exact k4 b2 hb2
  · rw [um_any]
    unfold cuA
    by_cases e : i = d
    · rw [if_pos ⟨rfl, by omega⟩, if_pos e]
    · rw [if_neg (by omega), if_neg e]; exact c i hi
  · rw [um_ne _ _ _ (by omega)]; exact t
theorem HM_cc {σ : Mem} {α : DD} {β : Mem} {ι : DD} {co co' : Nat → Nat} (h : HM σ α β ι co) (he : ∀ d, d < nDa α → co' d = co d) : HM σ α β ι co' :=
  ⟨h.1, h.2.1, fun d hd => by rw [he d hd]; exact h.2.2.1 d hd, h.2.2.2⟩
set_option maxHeartbeats 1000000 in
theorem M_dressOf {d k : Nat} {α : DD} {β σ : Mem} {Q : Int32 → Mem → Prop} (hO : OkA α β) (hM : RM σ α β) (hd : d < nDa α) (hk : k < 2) (hq : ∀ ρ, RM ρ α β → Q (drB α d k) ρ) : wX7_dressOf (nI d) (nI k) σ Q := by
  have hn := hO.nd
  have hon := onE hO
  unfold wX7_dressOf
  have e8 : σ 7 (3 * d + 2) = nI (coA (α 0) d) := hM.2.2.1 d hd
  have e32 : (3 : Int32) * nI d + (2 : Int32) = nI (3 * d + 2) := by rw [i3]; exact nI_add _ 2
  rw [e32, nI_clamp (by omega), e8]
  refine ⟨vp_in_nI (by omega) (by omega), fun y hy => ?_⟩
  subst hy
  refine s_livesA hO hM (fun τ t1 t2 => ?_)
  have key := up_loop (fun N j => ∀ ρ, (∃ v, HM ρ α β (iA α) (cuA (coA (α 0)) d v)) → ρ 0 14 = 0 → DOM ρ (iA α) (bkA α) → wX7_dressOf_26 Q N (nI d) (nI k) (nI (coA (α 0) d)) (nJ (drF α d) 999 j) (nV (drF α d) 999 j) (nI j) ρ) 10 ?_ ?_ 0 (Nat.zero_le _)
  · obtain ⟨N, hN⟩ := key
    refine ⟨N, hN τ ⟨coA (α 0) d, HM_cc (RM_HM t1) (fun i _ => ?_)⟩ t1.1.2.2.2.1 t2⟩
    unfold cuA
    split
    · rename_i h; rw [h]
    · rfl
  · intro N ρ ⟨v, r1⟩ r2 r3
    rw [wX7_dressOf_26, l_ge10 (by omega)]
    refine ⟨fun _ => ?_, fun z => absurd (Nat.le_refl _) z⟩
    unfold wX7_dressOf_83
    rw [e32, nI_clamp (by omega), if0 (by omega), dr_0 hO]
    refine ⟨vp_in_nI (by omega) (by omega), fun s1 h1 => ?_⟩
    refine hq s1 (HM_RM ?_ ?_)
    · rw [h1]
      refine HM_cc (HM_co r1) (fun i _ => ?_)
      unfold cuA
      split
      · rename_i h; rw [h]
      · rfl
    · rw [h1, um_ne _ _ _ (by omega)]; exact r2
  · intro N j hj ih ρ ⟨v, r1⟩ r2 r3
    rw [wX7_dressOf_26, l_ge10 (by omega), e32, nI_clamp (by omega), i1]
    refine ⟨fun z => absurd z (by omega), fun _ => ⟨vp_in_nI (by omega) (by omega), fun s1 h1 => ?_⟩⟩
    have H1 : HM s1 α β (iA α) (cuA (coA (α 0)) d j) := by
      rw [h1]
      refine HM_cc (HM_co r1) (fun i _ => ?_)
      unfold cuA
      split
      · rfl
      · rfl
    have z1 : s1 0 14 = 0 := by rw [h1, um_ne _ _ _ (by omega)]; exact r2
    have D1 : DOM s1 (iA α) (bkA α) := DOM_same r3 (fun c _ _ _ _ h7 _ _ => by rw [h1, um_ne _ _ _ h7]) (fun j _ => by rw [h1, um_ne _ _ _ (by omega)])
    refine M_run0 (x := 0) (ov := DE α 5) (co := cuA (coA (α 0)) d j) hn hon D1.1.1.2.2.1 (M_ov hO D1) H1.2.2.1 (fun i hi => ?_) (by omega) ?_
    · have := coA_lt hi
      unfold cuA
      split <;> omega
    · intro y hy
      have ey : y = if nV (drF α d) 999 j ≤ drF α d j then nJ (drF α d) 999 j else nI j := hy
      unfold wX7_lesser
      show wX7_dressOf_26 Q N (nI d) (nI k) (nI (coA (α 0) d)) y (if nV (drF α d) 999 j ≤ drF α d j then nV (drF α d) 999 j else drF α d j) (nI (j + 1)) s1
      rw [nV_e.1]
      rw [nV_e.2] at ey
      subst ey
      exact ih s1 ⟨j, H1⟩ z1 D1
theorem M_dress {x1 x2 : Int32} {α : DD} {β σ : Mem} {Q : Int32 → Mem → Prop} (hO : OkA α β) (hM : IM σ α β) (hq : ∀ ρ, RM ρ α β → Q (drS α x1 x2) ρ) : wX7_dress x1 x2 σ Q := by
  have hn := hO.nd
  unfold wX7_dress
  unfold drS at hq
  refine s_find hO hM (fun ρ hρ hD => G_dM hO hρ (g_ny (fun g1 => G_twoM (g_ny (fun g2 => ?_) (fun g2 => ?_))) (fun g1 => ?_)))
  · rw [g1, g2] at hq
    obtain ⟨b, hb, rfl, e1⟩ := gd_of (by omega) g1
    obtain ⟨k, hk, rfl, e2⟩ := gd_of (by omega) g2
    rw [e1, e2] at hq
    exact M_dressOf hO hρ hb hk (fun ω h => hq ω h)
  · rw [g1, g2] at hq; exact hq ρ hρ
  · rw [g1] at hq; exact hq ρ hρ
theorem L21 : okL_21 RR := fun σ τ a1 a2 ⟨α, β, hO, hX, hM⟩ => X_dress hO hX (fun ρ hρ => M_dress hO hM (fun ω hω => ⟨rfl, α, β, hO, hρ, hω.1⟩))
