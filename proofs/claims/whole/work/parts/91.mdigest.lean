section MD
variable {α : DD} {β σ : Mem} {Q : Int64 → Mem → Prop} {h : Int64}
theorem M_readsText {t : Nat} {Q : Int32 → Mem → Prop} (ht : t < 2) (hO : OkA α β) (hM : RM σ α β) (hq : ∀ ρ, RM ρ α β → Q (fltA α t) ρ) : wX7_readsText (nI t) σ Q := by
  unfold wX7_readsText
  refine if0L (by omega) (fun z => ?_) (fun z => ?_)
  · refine s_readsSteps hO.1.2.1 hO.1.2.2.2 hM.1.1 (fun τ g1 g2 g3 g4 => ?_)
    have q := hq τ (HM_RM (HM_reads (RM_HM hM) (fun _ _ _ => rfl) g1 g2 g3 g4) (by rw [g2 14 (by omega)]; exact hM.1.2.2.2.1))
    unfold fltA at q
    rw [if_neg z] at q
    exact q
  · refine s_readsDancers hO.1.1 hO.1.2.2.1 hM.1.1 (fun τ f1 f2 f3 f4 => ?_)
    have q := hq τ (by
      refine ⟨IM_same hM.1 (fun c hc => f1 c (by omega) (by omega)) (fun j hj => f2 j (by omega)), ⟨?_, ?_, fun i hi => ?_, fun b hb => ?_⟩, fun d hd => (f4 d hd).2.2, ?_⟩
      · rw [f3, iA30]
      · rw [f2 11 (by omega)]; exact hM.2.1.2.1
      · rw [iA30] at hi
        rw [iA0, iA1]
        exact ⟨(f4 i hi).1, (f4 i hi).2.1⟩
      · rw [f1 8 (by omega) (by omega)]; exact hM.2.1.2.2.2 b hb
      · rw [f2 9 (by omega)]; exact hM.2.2.2)
    unfold fltA at q
    rw [if_pos z] at q
    exact q
set_option maxHeartbeats 1000000 in
theorem M_dgE (hO : OkA α β) (hM : RM σ α β) (hD : DOM σ (iA α) (bkA α)) (hq : ∀ ρ, RM ρ α β → Q (dgE α h) ρ) : wX7_digest_260 Q h σ := by
  unfold wX7_digest_260
  refine M_runBy (k := 0) hO hM hD (by omega) (fun y hy => ?_)
  subst hy
  refine M_runBy (k := 1) hO hM hD (by omega) (fun y hy => ?_)
  subst hy
  refine M_bareNow hO hD (fun y hy => ?_)
  subst hy
  refine M_topNow hO hM hD (fun y hy => ?_)
  subst hy
  refine M_lacksNow hO hM hD (fun y hy => ?_)
  subst hy
  refine M_spareBy hO hM (fun s6 x6 => fun y hy => ?_)
  subst hy
  refine M_spareBy hO x6 (fun s7 x7 => fun y hy => ?_)
  subst hy
  refine M_neverNow hO x7 (fun s8 x8 => fun y hy => ?_)
  subst hy
  refine M_lengthsNow hO x8 (fun s9 x9 _ => fun y hy => ?_)
  subst hy
  refine M_askNow hO x9 (fun s10 x10 => fun y hy => ?_)
  subst hy
  refine M_dancesOf (n := 18) (k := 0) hO x10 (by omega) (by omega) (fun s11 x11 => fun y hy => ?_)
  subst hy
  refine M_dancesOf (n := 18) (k := 1) hO x11 (by omega) (by omega) (fun s12 x12 => ?_)
  exact hq s12 x12
theorem M_dg8 (hO : OkA α β) (hM : RM σ α β) (hD : DOM σ (iA α) (bkA α)) (hq : ∀ ρ, RM ρ α β → Q (dgE α (dg8 α h 3)) ρ) : ∃ N, wX7_digest_236 Q N h (0 : Int32) σ := by
  have key := up_loop (fun N j => wX7_digest_236 Q N (dg8 α h j) (nI j) σ) 3 ?_ ?_ 0 (Nat.zero_le _)
  · exact key
  · intro N
    rw [wX7_digest_236, l_ge3 (by omega)]
    exact ⟨fun _ => M_dgE hO hM hD hq, fun z => absurd (Nat.le_refl _) z⟩
  · intro N j hj ih
    rw [wX7_digest_236, l_ge3 (by omega), i1]
    refine ⟨fun z => absurd z (by omega), fun _ => M_sumBy hD hj (fun y hy => ?_)⟩
    subst hy
    exact ih
theorem M_tellsPlan {b : Nat} (hb : b < 24) (hO : OkA α β) (hM : RM σ α β) (hq : ∀ ρ, RM ρ α β → Q (dgP α b h) ρ) : wX7_tellsPlan h (nI b) σ Q := by
  unfold wX7_tellsPlan
  refine M_stepIn (k := 0) hO hM hb (by omega) (fun s1 x1 => fun y hy => ?_)
  subst hy
  refine M_stepIn (k := 1) hO x1 hb (by omega) (fun s2 x2 => fun y hy => ?_)
  subst hy
  refine M_chanceOf (c := 5) (k := 0) hO x2 (by omega) hb (by omega) (fun s3 x3 => fun y hy => ?_)
  subst hy
  refine M_chanceOf (c := 5) (k := 1) hO x3 (by omega) hb (by omega) (fun s4 x4 => ?_)
  exact hq s4 x4
theorem M_dg7 (hO : OkA α β) (hM : RM σ α β) (hq : ∀ ρ, RM ρ α β → Q (dgZ α h) ρ) : wX7_digest_211 Q h σ := by
  unfold wX7_digest_211
  refine M_tellsPlan (b := 3) (by omega) hO hM (fun s1 x1 => ?_)
  refine M_tellsPlan (b := 11) (by omega) hO x1 (fun s2 x2 => ?_)
  refine M_tellsPlan (b := 23) (by omega) hO x2 (fun s3 x3 => ?_)
  refine s_livesA hO x3 (fun s4 x4 d4 => ?_)
  exact M_dg8 hO x4 d4 hq
theorem M_tellsBeat {b d : Nat} (hb : b < 24) (hd : d < nDa α) (hO : OkA α β) (hD : DOM σ (iA α) (bkA α)) (hq : Q (dgTb α d b h 3) σ) : wX7_tellsBeat h (nI b) (nI d) σ Q := by
  unfold wX7_tellsBeat
  have key := up_loop (fun N j => wX7_tellsBeat_6 Q N (nI b) (nI d) (dgTb α d b h j) (nI j) σ) 3 ?_ ?_ 0 (Nat.zero_le _)
  · exact key
  · intro N
    rw [wX7_tellsBeat_6, l_ge3 (by omega)]
    exact ⟨fun _ => hq, fun z => absurd (Nat.le_refl _) z⟩
  · intro N j hj ih
    rw [wX7_tellsBeat_6, l_ge3 (by omega), i1]
    refine ⟨fun z => absurd z (by omega), fun _ => M_atBy hO hD hb hd hj (fun y hy => ?_)⟩
    subst hy
    exact ih
theorem M_dgAt {d : Nat} (hd : d < nDa α) (hO : OkA α β) (hM : RM σ α β) (hD : DOM σ (iA α) (bkA α)) (hq : ∀ ρ, RM ρ α β → Q (dgDe α d (dgAt α d h 4)) ρ) : wX7_tellsDancer_43 Q (nI d) h σ := by
  unfold wX7_tellsDancer_43
  refine M_tellsBeat (b := 0) (by omega) hd hO hD ?_
  refine M_tellsBeat (b := 6) (by omega) hd hO hD ?_
  refine M_tellsBeat (b := 13) (by omega) hd hO hD ?_
  refine M_tellsBeat (b := 23) (by omega) hd hO hD ?_
  refine M_beginOf (k := 0) hO hM hd (by omega) (fun s1 x1 => fun y hy => ?_)
  subst hy
  refine M_beginOf (k := 1) hO x1 hd (by omega) (fun s2 x2 => fun y hy => ?_)
  subst hy
  refine M_dressOf (k := 0) hO x2 hd (by omega) (fun s3 x3 => fun y hy => ?_)
  subst hy
  refine M_dressOf (k := 1) hO x3 hd (by omega) (fun s4 x4 => fun y hy => ?_)
  subst hy
  refine M_waysOf hO x4 hd (fun s5 x5 => ?_)
  exact hq s5 x5
theorem M_tellsDancer {d : Nat} (hd : d < nDa α) (hO : OkA α β) (hM : RM σ α β) (hq : ∀ ρ, RM ρ α β → Q (dgD α d h) ρ) : wX7_tellsDancer h (nI d) σ Q := by
  have hn := hO.nd
  unfold wX7_tellsDancer
  refine s_livesA hO hM (fun s1 x1 d1 => ?_)
  have key := up_loop (fun N j => wX7_tellsDancer_10 Q N (nI d) (dgDa α d h j) (nI j) s1) 3 ?_ ?_ 0 (Nat.zero_le _)
  · exact key
  · intro N
    rw [wX7_tellsDancer_10, l_ge3 (by omega)]
    exact ⟨fun _ => M_dgAt hd hO x1 d1 hq, fun z => absurd (Nat.le_refl _) z⟩
  · intro N j hj ih
    rw [wX7_tellsDancer_10, l_ge3 (by omega), i3, nI_add, nI_clamp (by omega), i1]
    have e : s1 7 (3 * d + j) = nI (daA α d j) := by
      have q := x1.2.1.2.2.1 d (by rw [iA30]; exact hd)
      rw [iA0, iA1] at q
      have hj3 : j = 0 ∨ j = 1 ∨ j = 2 := by omega
      rcases hj3 with rfl | rfl | rfl
      · exact q.1
      · exact q.2
      · exact x1.2.2.1 d hd
    rw [e]
    refine ⟨fun z => absurd z (by omega), fun _ => ⟨vp_in_nI (by omega) (by omega), fun y hy => ?_⟩⟩
    subst hy
    exact ih
theorem M_dg6 (hO : OkA α β) (hM : RM σ α β) (hq : ∀ ρ, RM ρ α β → Q (dgZ α (dg6 α h (nDa α))) ρ) : ∃ N, wX7_digest_190 Q N h (0 : Int32) σ := by
  have hn := hO.nd
  have h4 : ∀ ρ, RM ρ α β → ρ 0 7 = nI (nDa α) := fun ρ r => by rw [r.2.1.1, iA30]
  have key := up_loop (fun N j => ∀ σ, RM σ α β → wX7_digest_190 Q N (dg6 α h j) (nI j) σ) (nDa α) ?_ ?_ 0 (Nat.zero_le _)
  · obtain ⟨N, hN⟩ := key
    exact ⟨N, hN σ hM⟩
  · intro N ρ r1
    rw [wX7_digest_190, h4 ρ r1, i_le (by omega) (by omega)]
    exact ⟨fun _ => M_dg7 hO r1 hq, fun z => absurd (Nat.le_refl _) z⟩
  · intro N j hj ih ρ r1
    rw [wX7_digest_190, h4 ρ r1, i_le (by omega) (by omega), i1]
    exact ⟨fun z => absurd z (by omega), fun _ => M_tellsDancer hj hO r1 (fun s1 x1 => ih s1 x1)⟩
theorem M_dg5 (hO : OkA α β) (hM : RM σ α β) (hD : DOM σ (iA α) (bkA α)) (hq : ∀ ρ, RM ρ α β → Q (dgZ α (dg6 α (dg5 α h 10) (nDa α))) ρ) : ∃ N, wX7_digest_163 Q N h (0 : Int32) σ := by
  have key := up_loop (fun N j => wX7_digest_163 Q N (dg5 α h j) (nI j) σ) 10 ?_ ?_ 0 (Nat.zero_le _)
  · exact key
  · intro N
    rw [wX7_digest_163, l_ge10 (by omega)]
    exact ⟨fun _ => M_dg6 hO hM hq, fun z => absurd (Nat.le_refl _) z⟩
  · intro N j hj ih
    rw [wX7_digest_163, l_ge10 (by omega), i1]
    refine ⟨fun z => absurd z (by omega), fun _ => M_showsBy hO hM hD hj (fun y hy => ?_)⟩
    subst hy
    exact ih
theorem M_dg4 (hO : OkA α β) (hM : RM σ α β) (hD : DOM σ (iA α) (bkA α)) (hq : ∀ ρ, RM ρ α β → Q (dgZ α (dg6 α (dg5 α (dg4 α h 24) 10) (nDa α))) ρ) : ∃ N, wX7_digest_119 Q N h (0 : Int32) σ := by
  have key := up_loop (fun N j => wX7_digest_119 Q N (dg4 α h j) (nI j) σ) 24 ?_ ?_ 0 (Nat.zero_le _)
  · exact key
  · intro N
    rw [wX7_digest_119, l_ge24 (by omega)]
    exact ⟨fun _ => M_dg5 hO hM hD hq, fun z => absurd (Nat.le_refl _) z⟩
  · intro N j hj ih
    rw [wX7_digest_119, l_ge24 (by omega)]
    refine ⟨fun z => absurd z (by omega), fun _ => ?_⟩
    have key2 := up_loop (fun N2 k => wX7_digest_128 (fun x1 x3 ρ => wX7_digest_119 Q N x1 x3 ρ) Q N2 (dg4i α j (dg4 α h j) k) (nI j) (nI k) σ) 3 ?_ ?_ 0 (Nat.zero_le _)
    · exact key2
    · intro N2
      rw [wX7_digest_128, l_ge3 (by omega), i1]
      exact ⟨fun _ => ih, fun z => absurd (Nat.le_refl _) z⟩
    · intro N2 k hk ih2
      rw [wX7_digest_128, l_ge3 (by omega), i1, i1]
      refine ⟨fun z => absurd z (by omega), fun _ => M_weaveBy hO hD (by omega) hk (fun y hy => ?_)⟩
      subst hy
      exact ih2
theorem M_dg3 (hO : OkA α β) (hM : RM σ α β) (hD : DOM σ (iA α) (bkA α)) (hq : ∀ ρ, RM ρ α β → Q (dgY α h) ρ) : ∃ N, wX7_digest_63 Q N h (0 : Int32) σ := by
  have key := up_loop (fun N j => wX7_digest_63 Q N (dg3 α h j) (nI j) σ) 24 ?_ ?_ 0 (Nat.zero_le _)
  · exact key
  · intro N
    rw [wX7_digest_63, l_ge24 (by omega)]
    exact ⟨fun _ => M_dg4 hO hM hD hq, fun z => absurd (Nat.le_refl _) z⟩
  · intro N j hj ih
    have e8 : σ 8 j = nI (stA α j) := by rw [hM.2.1.2.2.2 j hj, iA2]
    have e21 : σ 21 j = nI (DB α j 4 0) := (hD.2 j hj).1
    have e22 : σ 22 j = nI (DB α j 4 3) := (hD.2 j hj).2.1
    rw [wX7_digest_63, l_ge24 (by omega), nI_clamp (by omega), e8, e21, e22, i1]
    refine ⟨fun z => absurd z (by omega), fun _ => ⟨vp_in_nI (by omega) (by omega), fun y hy => ⟨vp_in_nI (by omega) (by omega), fun y2 hy2 => ⟨vp_in_nI (by omega) (by omega), fun y3 hy3 => ?_⟩⟩⟩⟩
    subst hy hy2 hy3
    exact ih
theorem M_dg2 (hO : OkA α β) (hM : RM σ α β) (hq : ∀ ρ, RM ρ α β → Q (dgY α (dg2 α h 2)) ρ) : ∃ N, wX7_digest_33 Q N h (0 : Int32) σ := by
  have key := up_loop (fun N j => ∀ σ, RM σ α β → wX7_digest_33 Q N (dg2 α h j) (nI j) σ) 2 ?_ ?_ 0 (Nat.zero_le _)
  · obtain ⟨N, hN⟩ := key
    exact ⟨N, hN σ hM⟩
  · intro N ρ r1
    rw [wX7_digest_33, l_ge2 (by omega)]
    exact ⟨fun _ => s_livesA hO r1 (fun s1 x1 d1 => M_dg3 hO x1 d1 hq), fun z => absurd (Nat.le_refl _) z⟩
  · intro N j hj ih ρ r1
    rw [wX7_digest_33, l_ge2 (by omega), i1]
    refine ⟨fun z => absurd z (by omega), fun _ => M_readsText hj hO r1 (fun s1 x1 => fun y hy => ?_)⟩
    subst hy
    exact ih s1 x1
theorem M_digest (hO : OkA α β) (hM : IM σ α β) (hq : ∀ ρ, RM ρ α β → Q (dgT α β) ρ) : wX7_digest σ Q := by
  unfold wX7_digest
  have key := up_loop (fun N j => ∀ σ, IM σ α β → (j = 8 → RM σ α β) → wX7_digest_6 Q N (dg1 α β j) (nI j) σ) 8 ?_ ?_ 0 (Nat.zero_le _)
  · obtain ⟨N, hN⟩ := key
    exact ⟨N, hN σ hM (fun z => absurd z (by omega))⟩
  · intro N ρ r1 r2
    rw [wX7_digest_6, l_ge8 (by omega)]
    exact ⟨fun _ => M_dg2 hO (r2 rfl) hq, fun z => absurd (Nat.le_refl _) z⟩
  · intro N j hj ih ρ r1 _
    rw [wX7_digest_6, l_ge8 (by omega), i1]
    refine ⟨fun z => absurd z (by omega), fun _ => M_count hO r1 (fun s1 x1 => fun y hy => ?_)⟩
    rw [coS_n (by omega)] at hy
    subst hy
    exact ih s1 x1.1 (fun _ => x1)
end MD
theorem L38 : okL_38 RR := fun σ τ ⟨α, β, hO, hX, hM⟩ => X_digest hO hX (fun ρ hρ => M_digest hO hM (fun ω hω => ⟨rfl, α, β, hO, hρ, hω.1⟩))
