/-! the beats behind which none is on, by sets of events -/
theorem small8 {x : Int32} (h : ∀ i, 8 ≤ i → i < 32 → bt x i = false) : ∃ z, z < 256 ∧ x = nI z := by
  refine ⟨x.toBitVec.toNat, Nat.lt_pow_two_of_testBit (n := 8) _ (fun i hi => ?_), ?_⟩
  · rcases Nat.lt_or_ge i 32 with c | c
    · exact h i hi c
    · exact b_big c
  · apply Int32.toBitVec_inj.mp
    apply BitVec.eq_of_toNat_eq
    rw [pk_tn x.toBitVec.isLt]
theorem bkS_cong {α : DD} {f g : Nat → Bool} (h : ∀ e, e < α 2 3 → f e = g e) : bkS α f = bkS α g := by
  funext k b i
  unfold bkS bkOf
  exact anyN_cong (fun e he => by rw [h e he])
theorem X_bareBeats {d : Nat} {f : Nat → Nat} {σ : Mem} {Q : Int32 → Mem → Prop} (hf : ∀ b, b < 24 → σ (d + 9) b = nI (f b) ∧ f b ≤ 120) (hq : Q (orB (fun b => f b == 0) 24) σ) : wX0_bareBeats d σ Q := by
  unfold wX0_bareBeats
  have key := up_loop (fun N j => wX0_bareBeats_4 Q N d (orB (fun b => f b == 0) j) (nI j) σ) 24 ?_ ?_ 0 (Nat.zero_le _)
  · exact key
  · intro N
    rw [wX0_bareBeats_4, l_ge24 (by omega)]
    exact ⟨fun _ => hq, fun z => absurd (Nat.le_refl _) z⟩
  · intro N j hj ih
    obtain ⟨h1, h2⟩ := hf j hj
    rw [wX0_bareBeats_4, l_ge24 (by omega), nI_clamp (by omega), h1, neq0 (by omega), i1]
    refine ⟨fun z => absurd z (by omega), fun _ => ⟨vp_in_nI (by omega) (by omega), fun z => ?_, fun z => fun y hy => ?_⟩⟩
    · rw [orB_n (by simpa using z)] at ih; exact ih
    · rw [orB_y (by simpa using z)] at ih
      subst hy
      exact ih
def bdA (α : DD) (act : Nat → Bool) (b : Nat) : Bool := danceD (iA α) (bkS α act) (b + 1) 4 0 == 0
theorem IX_62 {σ : Mem} {α : DD} {β : Mem} {z : Nat} {r : Int32} (h : IX σ α β) (hr : ∀ b, b < 24 → bt r b = bdA α (fun e => bt (nI z) e) b) : IX (um σ 62 z r) α β := by
  obtain ⟨t, c1, c2, c3⟩ := h
  have c0 : um σ 62 z r 0 = σ 0 := um_ne _ _ _ (by omega)
  refine ⟨TOX_same t (fun c h => um_ne _ _ _ (by omega)) (by rw [c0]), ?_, ?_, ?_⟩
  · rw [c0]
    rcases c1 with c1 | c1
    · exact Or.inl c1
    · exact Or.inr (DOK_same c1 (fun c h => um_ne _ _ _ (by omega)))
  · rw [c0, um_ne _ _ _ (by omega)]; exact c2
  · rw [c0]
    rcases c3 with c3 | c3
    · exact Or.inl c3
    · refine Or.inr (fun y hy => ?_)
      rw [um_row, upd]
      by_cases e : y = z
      · subst e
        rw [if_pos rfl]
        exact Or.inr hr
      · rw [if_neg e]
        exact c3 y hy
theorem IX_fill {σ : Mem} {α : DD} {β : Mem} (h : IX σ α β) : IX (um (fillM σ 62 256 (-1)) 0 13 1) α β := by
  obtain ⟨t, c1, c2, c3⟩ := h
  have cc : ∀ c, c ≠ 0 → c ≠ 62 → um (fillM σ 62 256 (-1)) 0 13 1 c = σ c := fun c h1 h2 => by rw [um_ne _ _ _ h1, fillM_ne _ h2]
  have c0 : ∀ j, j ≠ 13 → um (fillM σ 62 256 (-1)) 0 13 1 0 j = σ 0 j := fun j hj => by rw [um_nei _ _ hj, fillM_ne _ (by omega)]
  refine ⟨TOX_same t (fun c h => cc c (by omega) (by omega)) (c0 14 (by omega)), ?_, ?_, ?_⟩
  · rw [c0 11 (by omega)]
    rcases c1 with c1 | c1
    · exact Or.inl c1
    · exact Or.inr (DOK_same c1 (fun c h => cc c (by omega) (by omega)))
  · rw [c0 12 (by omega), cc 63 (by omega) (by omega)]; exact c2
  · refine Or.inr (fun y hy => Or.inl ?_)
    rw [um_ne _ _ _ (by omega), fillM_at _ hy]
set_option maxHeartbeats 1000000 in
theorem X_bbw {x : Int32} {α : DD} {β σ : Mem} {Q : Int32 → Mem → Prop} (hO : OkA α β) (hX : IX σ α β) (hx : ∀ i, 8 ≤ i → i < 32 → bt x i = false) (hq : ∀ ρ r, IX ρ α β → (∀ b, b < 24 → bt r b = bdA α (fun e => bt x e) b) → Q r ρ) : wX6_bareBeatsWith x σ Q := by
  obtain ⟨z, hz, rfl⟩ := small8 hx
  have main : ∀ σ, IX σ α β → ¬ σ 0 13 = 0 → wX6_bareBeatsWith_33 Q (nI z) σ := fun σ hX h13 => by
    unfold wX6_bareBeatsWith_33
    rw [nI_clamp (by omega)]
    refine ⟨vp_in_nI (by omega) (by omega), fun c => ?_, fun c => X_become hO hX (fun τ t1 t2 _ _ => fun s1 h1 => ?_)⟩
    · unfold wX6_bareBeatsWith_90
      rw [nI_clamp (by omega)]
      refine ⟨vp_in_nI (by omega) (by omega), hq σ _ hX ?_⟩
      rcases hX.2.2.2 with c3 | c3
      · exact absurd c3 h13
      · rcases c3 z hz with c4 | c4
        · exact absurd c4 c
        · exact c4
    · have S1 : SKX s1 15 (iA α) (nI z) := by rw [h1]; exact SKX_ma t2
      have X1 : IX s1 α β := by rw [h1]; exact IX_tr t1 (by omega) (by omega)
      refine X_play (act := fun e => bt (nI z) e) X1 (OkI_iA hO) S1 (fun e _ => rfl) (fun s2 x2 k2 d2 _ => ?_)
      refine X_bareBeats (f := fun b => danceD (iA α) (bkS α (fun e => bt (nI z) e)) (b + 1) 4 0) (fun b hb => ⟨(d2.2 b hb).1, on_le (OkI_iA hO) (by omega)⟩) ⟨vp_in_nI (by omega) (by omega), fun s3 h3 => ?_⟩
      have hr : ∀ b, b < 24 → bt (orB (fun b => danceD (iA α) (bkS α (fun e => bt (nI z) e)) (b + 1) 4 0 == 0) 24) b = bdA α (fun e => bt (nI z) e) b := fun b hb => by
        rw [bt_orB (by omega) (by omega), decide_eq_true hb, Bool.true_and]
        rfl
      have X3 : IX s3 α β := by rw [h3]; exact IX_62 x2 hr
      unfold wX6_bareBeatsWith_90
      rw [nI_clamp (by omega)]
      refine ⟨vp_in_nI (by omega) (by omega), ?_⟩
      have e : s3 62 z = orB (fun b => danceD (iA α) (bkS α (fun e => bt (nI z) e)) (b + 1) 4 0 == 0) 24 := by rw [h3, um_at]
      rw [e]
      exact hq s3 _ X3 hr
  unfold wX6_bareBeatsWith
  refine ⟨fun c => absurd c (nI_pos (by omega)), fun _ => ⟨fun _ => ⟨fun k => main σ hX k, fun k => s_fill (by omega) (fun s2 h2 => ?_)⟩, fun c => absurd (show nI z < nI 256 from nI_lt hz (by omega)) c⟩⟩
  refine main s2 ?_ ?_
  · rw [h2]; exact IX_fill hX
  · rw [h2, um_at]; decide
/-! spare -/
def spD (α : DD) (act : Nat → Bool) : Bool := bdA α act 23
theorem spD_cong {α : DD} {f g : Nat → Bool} (h : ∀ e, e < α 2 3 → f e = g e) : spD α f = spD α g := by
  unfold spD bdA
  rw [bkS_cong h]
def twoA (a b e : Nat) : Bool := butA a e && butA b e
def spIn (α : DD) (i : Int32) (a : Nat) (nxt : Int32) : Nat → Nat → Int32
  | _, 0 => nxt
  | b, k + 1 => if spD α (twoA a b) = true then (if i = (-1 : Int32) then (2 : Int32) else (if i = 0 then nI a else nI b)) else spIn α i a nxt (b + 1) k
def sp2R (α : DD) (i : Int32) : Nat → Nat → Int32
  | _, 0 => -1
  | a, k + 1 => spIn α i a (sp2R α i (a + 1) k) (a + 1) k
def sp1R (α : DD) (i : Int32) : Nat → Nat → Int32
  | _, 0 => sp2R α i 0 (α 2 3)
  | a, k + 1 => if spD α (butA a) = true then (if i = (-1 : Int32) then (1 : Int32) else (if i = 0 then nI a else (-1 : Int32))) else sp1R α i (a + 1) k
def spB (α : DD) (i : Int32) : Int32 := if spD α (fun _ => true) = true then (if i = (-1 : Int32) then (0 : Int32) else (-1 : Int32)) else sp1R α i 0 (α 2 3)
def spS (α : DD) (i : Int32) : Int32 := if (-1 ≤ i.toInt ∧ i.toInt ≤ 1) then spB α i else -2
theorem X_has23 {x : Int32} {act : Nat → Bool} {α : DD} {β σ : Mem} {Q : Int32 → Mem → Prop} (hO : OkA α β) (hX : IX σ α β) (hx : ∀ i, 8 ≤ i → i < 32 → bt x i = false) (hm : ∀ e, e < α 2 3 → bt x e = act e) (hq : ∀ ρ, IX ρ α β → Q (if spD α act = true then 1 else 0) ρ) : wX6_bareBeatsWith x σ (fun r τ => wX6_has r (23 : Int32) τ (fun r1 τ1 => Q r1 τ1)) := by
  refine X_bbw hO hX hx (fun ρ r h1 h2 => ?_)
  refine s_has (i := 23) (by omega) ?_
  rw [h2 23 (by omega)]
  rw [show bdA α (fun e => bt x e) 23 = spD α act from spD_cong (f := fun e => bt x e) hm]
  exact hq ρ h1
theorem hi_ev {n : Nat} (hn : n ≤ 8) : ∀ i, 8 ≤ i → i < 32 → bt (evm n) i = false := fun i h1 h2 => by
  rw [bt_evm hn h2, decide_eq_false (by omega)]
theorem hi_and {x y : Int32} (h : ∀ i, 8 ≤ i → i < 32 → bt x i = false) : ∀ i, 8 ≤ i → i < 32 → bt (x &&& y) i = false := fun i h1 h2 => by
  rw [b_and, h i h1 h2, Bool.false_and]
theorem bt_two {n a b e : Nat} (hn : n ≤ 8) (ha : a < 32) (hb : b < 32) (he : e < n) : bt ((evm n &&& (((1 : Int32) <<< (nI a &&& 31)) ^^^ (-1 : Int32))) &&& (((1 : Int32) <<< (nI b &&& 31)) ^^^ (-1 : Int32))) e = twoA a b e := by
  rw [b_and, bt_but hn ha (by omega), bt_not (by omega), bt_one hb (by omega), decide_eq_true he, Bool.true_and]
  unfold twoA
  congr 1
set_option maxHeartbeats 1000000 in
theorem X_spare {x1 : Int32} {α : DD} {β σ : Mem} {Q : Int32 → Mem → Prop} (hO : OkA α β) (hX : IX σ α β) (hq : ∀ ρ, IX ρ α β → Q (spS α x1) ρ) : wX6_spare x1 σ Q := by
  have h8 := OkA.ev hO
  unfold wX6_spare
  unfold spS at hq
  rw [show (x1 < (-1 : Int32)) = (x1.toInt < -1) from propext Int32.lt_iff_toInt_lt, show (x1 ≤ (1 : Int32)) = (x1.toInt ≤ 1) from lek x1 (k := 1) (by omega)]
  have bad : ¬ (-1 ≤ x1.toInt ∧ x1.toInt ≤ 1) → Q (-2) σ := fun h => by
    rw [if_neg h] at hq
    exact hq σ hX
  refine ⟨fun z => bad (by omega), fun z => ⟨fun y => fun al hal => ?_, fun y => bad (by omega)⟩⟩
  rw [if_pos (by omega)] at hq
  rw [hX.1.2.2.1.2.2.1] at hal
  subst hal
  unfold spB at hq
  refine X_has23 (act := fun _ => true) hO hX (hi_ev h8) (bt_evA hO) (fun s0 X0 => g_ny (fun c => ?_) (fun c => ?_))
  · rw [if_pos c] at hq
    exact hq s0 X0
  · rw [if_neg (by rw [c]; decide)] at hq
    obtain ⟨R, hR⟩ : ∃ R, sp1R α x1 0 (α 2 3) = R := ⟨_, rfl⟩
    rw [hR] at hq
    have key := up_loop (fun N a => sp1R α x1 a (α 2 3 - a) = R → ∀ σ, IX σ α β → wX6_spare_47 Q N x1 (evm (α 2 3)) (nI a) σ) (α 2 3) ?_ ?_ 0 (Nat.zero_le _)
    · obtain ⟨N, hN⟩ := key
      exact ⟨N, hN hR s0 X0⟩
    · intro N h ρ r1
      rw [Nat.sub_self, sp1R] at h
      rw [wX6_spare_47, r1.1.2.1.2.1, i_le (by omega) (by omega)]
      refine ⟨fun _ => ?_, fun z => absurd (Nat.le_refl _) z⟩
      have key2 := up_loop (fun N a => sp2R α x1 a (α 2 3 - a) = R → ∀ σ, IX σ α β → wX6_spare_108 Q N x1 (evm (α 2 3)) (nI a) σ) (α 2 3) ?_ ?_ 0 (Nat.zero_le _)
      · obtain ⟨N, hN⟩ := key2
        exact ⟨N, hN h ρ r1⟩
      · intro N h ρ r1
        rw [Nat.sub_self, sp2R] at h
        rw [wX6_spare_108, r1.1.2.1.2.1, i_le (by omega) (by omega), h]
        exact ⟨fun _ => hq ρ r1, fun z => absurd (Nat.le_refl _) z⟩
      · intro N a ha ih h ρ r1
        rw [show α 2 3 - a = (α 2 3 - (a + 1)) + 1 by omega, sp2R] at h
        rw [wX6_spare_108, r1.1.2.1.2.1, i_le (by omega) (by omega), i1]
        refine ⟨fun z => absurd z (by omega), fun _ => fun y hy => ?_⟩
        subst hy
        have key3 := up_loop (fun N3 b => spIn α x1 a (sp2R α x1 (a + 1) (α 2 3 - (a + 1))) b (α 2 3 - b) = R → ∀ σ, IX σ α β → wX6_spare_124 (fun x1 x2 x3 ρ => wX6_spare_108 Q N x1 x2 x3 ρ) Q N3 x1 (evm (α 2 3)) (nI a) (nI b) σ) (α 2 3) ?_ ?_ (a + 1) (by omega)
        · obtain ⟨N3, hN3⟩ := key3
          exact ⟨N3, hN3 h ρ r1⟩
        · intro N3 h3 ω o1
          rw [Nat.sub_self, spIn] at h3
          rw [wX6_spare_124, o1.1.2.1.2.1, i_le (by omega) (by omega), i1]
          exact ⟨fun _ => ih h3 ω o1, fun z => absurd (Nat.le_refl _) z⟩
        · intro N3 b hb ih3 h3 ω o1
          rw [show α 2 3 - b = (α 2 3 - (b + 1)) + 1 by omega, spIn] at h3
          rw [wX6_spare_124, o1.1.2.1.2.1, i_le (by omega) (by omega), i1]
          refine ⟨fun z => absurd z (by omega), fun _ => fun y hy => ?_⟩
          subst hy
          refine X_has23 (act := twoA a b) hO o1 (hi_and (hi_and (hi_ev h8))) (fun e he => bt_two h8 (by omega) (by omega) he) (fun s1 X1 => g_ny (fun c => ?_) (fun c => ?_))
          · rw [if_pos c] at h3
            unfold wX6_spare_166
            rw [h3]
            exact hq s1 X1
          · rw [if_neg (by rw [c]; decide)] at h3
            rw [i1]
            exact ih3 h3 s1 X1
    · intro N a ha ih h ρ r1
      rw [show α 2 3 - a = (α 2 3 - (a + 1)) + 1 by omega, sp1R] at h
      rw [wX6_spare_47, r1.1.2.1.2.1, i_le (by omega) (by omega), i1]
      refine ⟨fun z => absurd z (by omega), fun _ => fun y hy => ?_⟩
      subst hy
      refine X_has23 (act := butA a) hO r1 (hi_and (hi_ev h8)) (fun e he => by rw [bt_but h8 (by omega) (by omega)]; simp [he]) (fun s1 X1 => g_ny (fun c => ?_) (fun c => ?_))
      · rw [if_pos c] at h
        unfold wX6_spare_81
        rw [h]
        exact hq s1 X1
      · rw [if_neg (by rw [c]; decide)] at h
        exact ih h s1 X1
theorem M_isSpared {x : Int32} {act : Nat → Bool} {α : DD} {β σ : Mem} {Q : Int32 → Mem → Prop} (hO : OkA α β) (hM : RM σ α β) (hm : ∀ e, e < α 2 3 → bt x e = !act e) (hq : ∀ ρ, RM ρ α β → Q (if spD α act = true then 1 else 0) ρ) : wX7_isSpared x σ Q := by
  unfold wX7_isSpared
  intro s1 h1
  have H1 : HM s1 α β (iA α) (coA (α 0)) := by rw [h1]; exact HM_go (RM_HM hM)
  refine M_livesH (act := act) (OkI_iA hO) H1 (fun e he => by rw [h1, um_at]; exact hm e he) (fun s2 H2 _ d2 _ => fun s3 h3 => ?_)
  have R3 : RM s3 α β := HM_RM (by rw [h3]; exact HM_go H2) (by rw [h3, um_at])
  have e20 : s3 0 20 = nI (danceD (iA α) (bkS α act) 24 4 0) := by rw [h3, um_nei _ _ (by omega)]; exact d2.1.1.2.2.1
  have hl : danceD (iA α) (bkS α act) 24 4 0 ≤ 120 := on_le (OkI_iA hO) (by omega)
  have e : (if s3 0 20 = 0 then (1 : Int32) else 0) = if spD α act = true then 1 else 0 := by
    rw [e20]
    by_cases c : danceD (iA α) (bkS α act) 24 4 0 = 0
    · rw [if_pos (by rw [c]; rfl), if_pos (by unfold spD bdA; simpa using c)]
    · rw [if_neg (by rw [neq0 (by omega)]; exact c), if_neg (by unfold spD bdA; simpa using c)]
  rw [e]
  exact ⟨bzi _, hq s3 R3⟩
set_option maxHeartbeats 1000000 in
theorem M_spareBy {x1 : Int32} {α : DD} {β σ : Mem} {Q : Int32 → Mem → Prop} (hO : OkA α β) (hM : RM σ α β) (hq : ∀ ρ, RM ρ α β → Q (spB α x1) ρ) : wX7_spareBy x1 σ Q := by
  have h8 := OkA.ev hO
  have hev : ∀ ρ, RM ρ α β → ρ 0 12 = nI (α 2 3) := fun ρ h => h.1.2.2.1.2.1
  unfold wX7_spareBy
  unfold spB at hq
  refine M_isSpared (act := fun _ => true) hO hM (fun e _ => b_0 e) (fun s0 X0 => g_ny (fun c => ?_) (fun c => ?_))
  · rw [if_pos c] at hq
    exact hq s0 X0
  · rw [if_neg (by rw [c]; decide)] at hq
    obtain ⟨R, hR⟩ : ∃ R, sp1R α x1 0 (α 2 3) = R := ⟨_, rfl⟩
    rw [hR] at hq
    have key := up_loop (fun N a => sp1R α x1 a (α 2 3 - a) = R → ∀ σ, RM σ α β → wX7_spareBy_21 Q N x1 (nI a) σ) (α 2 3) ?_ ?_ 0 (Nat.zero_le _)
    · obtain ⟨N, hN⟩ := key
      exact ⟨N, hN hR s0 X0⟩
    · intro N h ρ r1
      rw [Nat.sub_self, sp1R] at h
      rw [wX7_spareBy_21, hev ρ r1, i_le (by omega) (by omega)]
      refine ⟨fun _ => ?_, fun z => absurd (Nat.le_refl _) z⟩
      have key2 := up_loop (fun N a => sp2R α x1 a (α 2 3 - a) = R → ∀ σ, RM σ α β → wX7_spareBy_66 Q N x1 (nI a) σ) (α 2 3) ?_ ?_ 0 (Nat.zero_le _)
      · obtain ⟨N, hN⟩ := key2
        exact ⟨N, hN h ρ r1⟩
      · intro N h ρ r1
        rw [Nat.sub_self, sp2R] at h
        rw [wX7_spareBy_66, hev ρ r1, i_le (by omega) (by omega), h]
        exact ⟨fun _ => hq ρ r1, fun z => absurd (Nat.le_refl _) z⟩
      · intro N a ha ih h ρ r1
        rw [show α 2 3 - a = (α 2 3 - (a + 1)) + 1 by omega, sp2R] at h
        rw [wX7_spareBy_66, hev ρ r1, i_le (by omega) (by omega), i1]
        refine ⟨fun z => absurd z (by omega), fun _ => fun y hy => ?_⟩
        subst hy
        have key3 := up_loop (fun N3 b => spIn α x1 a (sp2R α x1 (a + 1) (α 2 3 - (a + 1))) b (α 2 3 - b) = R → ∀ σ, RM σ α β → wX7_spareBy_78 (fun x1 x2 ρ => wX7_spareBy_66 Q N x1 x2 ρ) Q N3 x1 (nI a) (nI b) σ) (α 2 3) ?_ ?_ (a + 1) (by omega)
        · obtain ⟨N3, hN3⟩ := key3
          exact ⟨N3, hN3 h ρ r1⟩
        · intro N3 h3 ω o1
          rw [Nat.sub_self, spIn] at h3
          rw [wX7_spareBy_78, hev ω o1, i_le (by omega) (by omega), i1]
          exact ⟨fun _ => ih h3 ω o1, fun z => absurd (Nat.le_refl _) z⟩
        · intro N3 b hb ih3 h3 ω o1
          rw [show α 2 3 - b = (α 2 3 - (b + 1)) + 1 by omega, spIn] at h3
          rw [wX7_spareBy_78, hev ω o1, i_le (by omega) (by omega), i1]
          refine ⟨fun z => absurd z (by omega), fun _ => M_isSpared (act := twoA a b) hO o1 (fun e he => ?_) (fun s1 X1 => g_ny (fun c => ?_) (fun c => ?_))⟩
          · rw [b_or, bt_one (by omega) (by omega), bt_one (by omega) (by omega)]
            unfold twoA butA
            by_cases c1 : e = a
            · simp [c1]
            · by_cases c2 : e = b
              · simp [c2]
              · simp [c1, c2]
          · rw [if_pos c] at h3
            unfold wX7_spareBy_100
            rw [h3]
            exact hq s1 X1
          · rw [if_neg (by rw [c]; decide)] at h3
            rw [i1]
            exact ih3 h3 s1 X1
    · intro N a ha ih h ρ r1
      rw [show α 2 3 - a = (α 2 3 - (a + 1)) + 1 by omega, sp1R] at h
      rw [wX7_spareBy_21, hev ρ r1, i_le (by omega) (by omega), i1]
      refine ⟨fun z => absurd z (by omega), fun _ => M_isSpared (act := butA a) hO r1 (fun e he => ?_) (fun s1 X1 => g_ny (fun c => ?_) (fun c => ?_))⟩
      · rw [bt_one (by omega) (by omega)]
        unfold butA
        by_cases c1 : e = a
        · simp [c1]
        · simp [c1]
      · rw [if_pos c] at h
        unfold wX7_spareBy_39
        rw [h]
        exact hq s1 X1
      · rw [if_neg (by rw [c]; decide)] at h
        exact ih h s1 X1
theorem M_spare {x1 : Int32} {α : DD} {β σ : Mem} {Q : Int32 → Mem → Prop} (hO : OkA α β) (hM : IM σ α β) (hq : ∀ ρ, RM ρ α β → Q (spS α x1) ρ) : wX7_spare x1 σ Q := by
  unfold wX7_spare
  unfold spS at hq
  refine s_find hO hM (fun ρ hρ hD => s_in (a := -1) (b := 1) rfl rfl ?_)
  by_cases g : (-1 ≤ x1.toInt ∧ x1.toInt ≤ 1)
  · rw [if_pos g] at hq ⊢
    exact ⟨fun z => absurd z one_ne, fun _ => M_spareBy hO hρ (fun ω h => hq ω h)⟩
  · rw [if_neg g] at hq ⊢
    exact ⟨fun _ => hq ρ hρ, fun z => absurd rfl z⟩
theorem L22 : okL_22 RR := fun σ τ a1 ⟨α, β, hO, hX, hM⟩ => X_spare hO hX (fun ρ hρ => M_spare hO hM (fun ω hω => ⟨rfl, α, β, hO, hρ, hω.1⟩))
