def FrD (σ τ : Mem) (d : Nat) : Prop := ∀ c, (c < d ∨ d + 14 < c) → τ c = σ c
theorem FrD.tr {σ τ ρ : Mem} {d : Nat} (h : FrD σ τ d) (g : FrD τ ρ d) : FrD σ ρ d := fun c hc => (g c hc).trans (h c hc)
theorem turn_keep {D : DD} {r i : Nat} (h : r ≠ 1) : turnD D r i = D r i := by simp [turnD, h]
theorem RG_turn {pl wy lf ov us wn wt : Nat → Int32} {on wo uw : Int32} {D : DD} {nd : Nat} {wy2 : Nat → Int32} (h : RG pl wy lf ov us wn wt on wo uw D nd) (h2 : ∀ i, i < nd → wy2 i = nI (1 - D 1 i)) : RG pl wy2 lf ov us wn wt on wo uw (turnD D) nd := by
  obtain ⟨r1, r2, r3, r4, r5⟩ := h
  refine ⟨fun i hi => ⟨by simpa [turnD] using (r1 i hi).1, by rw [h2 i hi]; simp [turnD], by simpa [turnD] using (r1 i hi).2.2⟩, fun i hi => ?_, by simpa [turnD] using r3, by simpa [turnD] using r4, by simpa [turnD] using r5⟩
  have hi2 : i < D 4 0 := by simpa [turnD] using hi
  simpa [turnD] using r2 i hi2
theorem RG_move {pl wy lf ov us wn wt : Nat → Int32} {on wo uw : Int32} {D : DD} {nd : Nat} {st : Nat → Bool} {pl2 : Nat → Int32} (h : RG pl wy lf ov us wn wt on wo uw D nd) (h2 : ∀ i, i < nd → pl2 i = nI (movedP st D i)) : RG pl2 wy lf ov us wn wt on wo uw (moveD st D) nd := by
  obtain ⟨r1, r2, r3, r4, r5⟩ := h
  refine ⟨fun i hi => ⟨by rw [h2 i hi]; simp [moveD], by simpa [moveD] using (r1 i hi).2.1, by simpa [moveD] using (r1 i hi).2.2⟩, fun i hi => ?_, by simpa [moveD] using r3, by simpa [moveD] using r4, by simpa [moveD] using r5⟩
  have hi2 : i < D 4 0 := by simpa [moveD] using hi
  simpa [moveD] using r2 i hi2
/-- one beat's doings, but for the notes -/
def BXs (σ : Mem) (d b : Nat) (D : DD) (nd : Nat) : Prop := XH σ d nd D ∧ σ (d + 10) b = nI (D 4 3)
theorem sX_note2 {d b : Nat} {ι : DD} {bk : Nat → Nat → Nat → Bool} {σ σ0 : Mem} {Q : Mem → Prop} (n8 : ι 3 0 ≤ 8) (hb : b < 24) (hB : BXs σ d b (danceD ι bk (b + 1)) (ι 3 0)) (hD : DOX σ d bk) (hF : FrD σ0 σ d) (hH : BHX σ d ι bk b)
    (hQ : ∀ τ, XH τ d (ι 3 0) (danceD ι bk (b + 1)) → DOX τ d bk → BHX τ d ι bk (b + 1) → FrD σ0 τ d → Q τ) : wX0_note d (nI b) σ Q := by
  refine sX_note hb (fun τ f1 f2 f3 f4 f5 => ?_)
  have g : ∀ c, c ≠ d + 6 → c ≠ d + 7 → c ≠ d + 8 → c ≠ d + 9 → c ≠ d + 10 → τ c = σ c := fun c a1 a2 a3 a4 _ => f1 c a1 a2 a3 a4
  have e10 : τ (d + 10) = σ (d + 10) := f1 _ (by omega) (by omega) (by omega) (by omega)
  refine hQ τ (XH_same hB.1 g) (fun k b i h1 h2 h3 => by rw [f1 (d + 1) (by omega) (by omega) (by omega) (by omega)]; exact hD k b i h1 h2 h3) (fun b2 h2 => ?_) (fun c hc => by rw [f1 c (by omega) (by omega) (by omega) (by omega)]; exact hF c hc)
  by_cases e : b2 = b
  · subst e
    refine ⟨?_, by rw [e10]; exact hB.2, fun i hi => ?_⟩
    · rw [f3]
      exact hB.1.1.2.2.1
    · obtain ⟨q1, q2, q3⟩ := f5 i (by omega)
      rw [q1, q2, q3]
      exact hB.1.1.1 i hi
  · obtain ⟨h3, h4, h5⟩ := hH b2 (by omega)
    refine ⟨by rw [f2 b2 e]; exact h3, by rw [e10]; exact h4, fun i hi => ?_⟩
    obtain ⟨q1, q2, q3⟩ := f4 (8 * b2 + i) (by omega)
    rw [q1, q2, q3]
    exact h5 i hi
set_option maxHeartbeats 2000000 in
theorem sX_play {d k ne : Nat} {ι : DD} {mask : Int32} {act : Nat → Bool} {ek eb en : Nat → Nat} {σ : Mem} {Q : Mem → Prop} (hd : 20 ≤ d) (hk : k + 4 < 20) (hk6 : 10 ≤ k) (hI : OkI ι) (hS : SKX σ k ι mask) (hE : EVX σ ne ek eb en) (hm : ∀ e, e < ne → bt mask e = act e)
    (hQ : ∀ τ, DOK τ d ι (bkOf act ek eb en ne) → FrD σ τ d → Q τ) : wX0_play d k σ Q := by
  have n8 := hI.1
  have l30 := hI.2.1
  unfold wX0_play
  refine sX_stand hd hk hI hS (fun t1 x1 g1 => ?_)
  have e1 : t1 k 6 = mask := by rw [g1 k (by omega) (by omega) (by omega) (by omega)]; exact hS.2.2.1
  rw [e1]
  have hE1 : EVX t1 ne ek eb en := by
    obtain ⟨a1, a2, a3⟩ := hE
    refine ⟨a1, ?_, fun e he => ?_⟩
    · rw [g1 6 (by omega) (by omega) (by omega) (by omega)]; exact a2
    · rw [g1 7 (by omega) (by omega) (by omega) (by omega), g1 8 (by omega) (by omega) (by omega) (by omega), g1 9 (by omega) (by omega) (by omega) (by omega)]
      exact a3 e he
  refine sX_spread hd hE1 hm (fun t2 g2 o2 => ?_)
  have x2 : XH t2 d (ι 3 0) (startD ι) := by
    obtain ⟨r, h2, h3, h4⟩ := x1
    have e0 := g2 d (by omega)
    refine ⟨?_, by rw [e0]; exact h2, fun i hi => by rw [e0]; exact h3 i hi, fun i a b => by rw [e0]; exact h4 i a b⟩
    unfold RGX at r ⊢
    rw [e0, g2 (d + 2) (by omega), g2 (d + 4) (by omega), g2 (d + 5) (by omega), g2 (d + 11) (by omega), g2 (d + 12) (by omega), g2 (d + 13) (by omega), g2 (d + 14) (by omega)]
    exact r
  generalize hbk : bkOf act ek eb en ne = bk at o2 hQ
  have hF2 : FrD σ t2 d := fun c hc => by rw [g2 c (by omega), g1 c (by omega) (by omega) (by omega) (by omega)]
  have key := up_loop (fun n b => ∀ τ, XH τ d (ι 3 0) (danceD ι bk b) → DOX τ d bk → BHX τ d ι bk b → FrD σ τ d → wX0_play_16 Q n d k (nI b) τ) 24 ?_ ?_ 0 (Nat.zero_le _)
  · obtain ⟨n, hn⟩ := key
    exact ⟨n, hn t2 x2 o2 (fun b hb => absurd hb (Nat.not_lt_zero _)) hF2⟩
  · intro n τ a1 a2 a3 a4
    rw [wX0_play_16]
    exact ⟨fun _ => hQ τ ⟨a1, a3⟩ a4, fun z => absurd (show nI 24 ≤ nI 24 from nI_le (Nat.le_refl _) (by omega)) z⟩
  · intro n b hb ih τ a1 a2 a3 a4
    have cb : (nI b).toNatClampNeg = b := nI_clamp (by omega)
    have e48 : (48 : Int32) + nI b = nI (48 + b) := nI_add 48 b
    have c48 : (nI (48 + b)).toNatClampNeg = 48 + b := nI_clamp (by omega)
    have hst : τ (k + 4) b = nI (ι 2 b) := by rw [a4 (k + 4) (by omega)]; exact hS.2.2.2.2 b hb
    have h3 := hI.2.2.2 b hb
    have hWb := WF_dance (bk := bk) hI b (by omega)
    rw [wX0_play_16]
    simp only [cb, e48, c48, i1, hst]
    refine ⟨fun z => absurd (show nI 24 ≤ nI b from z) (nI_ge hb (by omega)), fun _ => ⟨vp_in_nI (by omega) (by omega), fun x4 hx4 => ⟨vp_in_nI (by omega) (by omega), fun s1 h1 => ⟨vp_in_nI (by omega) (by omega), fun s2 h2 => ?_⟩⟩⟩⟩
    have x1' : XH s1 d (ι 3 0) (danceD ι bk b) := XH_same a1 (fun c _ _ _ _ c10 => by rw [h1, um_ne _ _ _ c10])
    have d1 : DOX s1 d bk := fun k b i q1 q2 q3 => by rw [h1, um_ne _ _ _ (by omega)]; exact a2 k b i q1 q2 q3
    have x2' := XH_loosen n8 hb x1' d1 h2
    have d2 : DOX s2 d bk := fun k b i q1 q2 q3 => by rw [h2, um_ne _ _ _ (by omega)]; exact d1 k b i q1 q2 q3
    have m2 : s2 (d + 10) b = 0 := by rw [h2, um_ne _ _ _ (by omega), h1, um_at]
    have F2 : FrD σ s2 d := fun c hc => by rw [h2, um_ne _ _ _ (by omega), h1, um_ne _ _ _ (by omega)]; exact a4 c hc
    have B2 : BHX s2 d ι bk b := fun b2 hb2 => by
      obtain ⟨q1, q2, q3⟩ := a3 b2 hb2
      rw [h2, um_ne _ _ _ (by omega), um_ne _ _ _ (by omega), um_ne _ _ _ (by omega), um_ne _ _ _ (by omega), um_ne _ _ _ (by omega), h1, um_ne _ _ _ (by omega), um_nei _ _ (by omega), um_ne _ _ _ (by omega), um_ne _ _ _ (by omega), um_ne _ _ _ (by omega)]
      exact ⟨q1, q2, q3⟩
    have hWl := WF_loosen (lt := bk 2 b) hWb
    obtain ⟨D, hDe⟩ : ∃ D, D = loosenD (bk 2 b) (danceD ι bk b) := ⟨_, rfl⟩
    have hD43 : D 4 3 = 0 := by rw [hDe]; exact loosen43 _ _
    rw [← hDe] at x2' hWl
    have hnx : danceD ι bk (b + 1) = beatD ι bk b (danceD ι bk b) := rfl
    have fin : ∀ ω, BXs ω d b (danceD ι bk (b + 1)) (ι 3 0) → DOX ω d bk → BHX ω d ι bk b → FrD σ ω d → wX0_play_90 (fun b0 b1 x3 ρ => wX0_play_16 Q n b0 b1 x3 ρ) Q d k (nI b) ω := fun ω w1 w2 w3 w4 => by
      unfold wX0_play_90
      refine sX_note2 n8 hb w1 w2 w4 w3 (fun ρ r1 r2 r3 r4 => ?_)
      rw [i1]
      exact ih ρ r1 r2 r3 r4
    subst hx4
    refine ⟨fun z => ?_, fun z => ?_⟩
    · have z3 : ¬ ι 2 b = 3 := fun q => z (by rw [q]; rfl)
      unfold wX0_play_67
      have go : ι 2 b < 2 → wX0_play_78 (fun b0 b1 x3 ρ => wX0_play_16 Q n b0 b1 x3 ρ) Q d k (nI b) (nI (ι 2 b)) s2 := fun hlt => by
        unfold wX0_play_78
        refine sX_goOn (st := bk 0 b) n8 l30 hb hWl x2'.1 x2'.2.1 x2'.2.2.1 (fun i hi => by have := d2 0 b i (by omega) hb (by omega); rw [show 24 * 0 + b = b by omega] at this; exact this) (fun s3 f3 f4 => ?_)
        have hWm := WF_move (st := bk 0 b) hWl
        have hXM : XM s3 d (ι 3 0) b (bk 1 b) (moveD (bk 0 b) D) := by
          refine ⟨?_, fun i hi => ⟨?_, ?_, ?_⟩, ?_, ?_⟩
          · unfold RGX
            rw [f3 (d + 4) (by omega) (by omega), f3 (d + 5) (by omega) (by omega), f3 (d + 11) (by omega) (by omega), f3 (d + 12) (by omega) (by omega), f3 (d + 13) (by omega) (by omega), f3 (d + 14) (by omega) (by omega), f3 d (by omega) (by omega)]
            exact RG_move x2'.1 (fun i hi => (f4 i hi).2)
          · rw [(f4 i hi).1]; simp [moveD]
          · rw [f3 d (by omega) (by omega), x2'.2.2.1 i hi]; simp [moveD]
          · rw [f3 (d + 1) (by omega) (by omega)]
            have := d2 1 b i (by omega) hb (by omega)
            rw [show 24 * 1 + b = 24 + b by omega] at this
            exact this
          · rw [f3 d (by omega) (by omega)]; exact x2'.2.1
          · rw [f3 (d + 10) (by omega) (by omega), m2]
            simp [moveD, hD43]; rfl
        refine sX_meetAll n8 l30 hb (by omega) hWm hXM (fun s4 m4 g4 => fin s4 ?_ ?_ ?_ ?_)
        · have eb2 : danceD ι bk (b + 1) = meetD (ι 2 b) (bk 1 b) b (ι 3 0) (moveD (bk 0 b) D) (ι 3 0) := by
            rw [hnx]
            unfold beatD
            rw [if_neg z3, if_pos hlt, hDe]
          rw [eb2]
          refine ⟨⟨m4.1, m4.2.2.1, fun i hi => (m4.2.1 i hi).2.1, fun i h5 h6 => ?_⟩, m4.2.2.2⟩
          rw [g4.2.1 15 (by omega) (by omega) (by omega), f3 d (by omega) (by omega)]
          exact x2'.2.2.2 i h5 h6
        · intro k2 b2 i q1 q2 q3
          rw [g4.1 (d + 1) (by omega) (by omega) (by omega) (by omega) (by omega) (by omega) (by omega), f3 (d + 1) (by omega) (by omega)]
          exact d2 k2 b2 i q1 q2 q3
        · intro b2 hb2
          rw [g4.1 (d + 9) (by omega) (by omega) (by omega) (by omega) (by omega) (by omega) (by omega), g4.1 (d + 6) (by omega) (by omega) (by omega) (by omega) (by omega) (by omega) (by omega), g4.1 (d + 7) (by omega) (by omega) (by omega) (by omega) (by omega) (by omega) (by omega), g4.1 (d + 8) (by omega) (by omega) (by omega) (by omega) (by omega) (by omega) (by omega), g4.2.2 b2 (by omega), f3 (d + 9) (by omega) (by omega), f3 (d + 6) (by omega) (by omega), f3 (d + 7) (by omega) (by omega), f3 (d + 8) (by omega) (by omega), f3 (d + 10) (by omega) (by omega)]
          exact B2 b2 hb2
        · intro c hc
          rw [g4.1 c (by omega) (by omega) (by omega) (by omega) (by omega) (by omega) (by omega), f3 c (by omega) (by omega)]
          exact F2 c hc
      refine ⟨fun y => ?_, fun y => ⟨fun w => ?_, fun w => ?_⟩⟩
      · rw [neq0 (by omega)] at y
        exact go (by omega)
      · rw [neq0 (by omega)] at y
        have w2 : ¬ ι 2 b = 1 := fun q => w (by rw [q]; rfl)
        have eb2 : danceD ι bk (b + 1) = D := by
          rw [hnx]
          unfold beatD
          rw [if_neg z3, if_neg (by omega), hDe]
        exact fin s2 (by rw [eb2]; exact ⟨x2', by rw [m2, hD43]; rfl⟩) d2 B2 F2
      · have w2 : nI (ι 2 b) = nI 1 := w
        rw [i_eq (by omega) (by omega)] at w2
        exact go (by omega)
    · have z2 : nI (ι 2 b) = nI 3 := z
      rw [i_eq (by omega) (by omega)] at z2
      refine sX_turn (w := fun i => D 1 i) n8 x2'.2.1 (fun i hi => ⟨(x2'.1.1 i hi).2.1, (hWl.1 i hi).2.1⟩) (fun s3 f3 f4 => ?_)
      have eb2 : danceD ι bk (b + 1) = turnD D := by
        rw [hnx]
        unfold beatD
        rw [if_pos z2, hDe]
      unfold wX0_play_67
      refine ⟨fun y => ?_, fun _ => ⟨fun _ => ?_, fun y => ?_⟩⟩
      · rw [neq0 (by omega)] at y; omega
      · refine fin s3 ?_ (fun k2 b2 i q1 q2 q3 => by rw [f3 (d + 1) (by omega)]; exact d2 k2 b2 i q1 q2 q3) (fun b2 hb2 => by rw [f3 (d + 9) (by omega), f3 (d + 10) (by omega), f3 (d + 6) (by omega), f3 (d + 7) (by omega), f3 (d + 8) (by omega)]; exact B2 b2 hb2) (fun c hc => by rw [f3 c (by omega)]; exact F2 c hc)
        rw [eb2]
        refine ⟨⟨?_, by rw [f3 d (by omega)]; exact x2'.2.1, fun i hi => by rw [f3 d (by omega), x2'.2.2.1 i hi]; simp [turnD], fun i h5 h6 => by rw [f3 d (by omega)]; exact x2'.2.2.2 i h5 h6⟩, ?_⟩
        · unfold RGX
          rw [f3 (d + 2) (by omega), f3 (d + 5) (by omega), f3 (d + 11) (by omega), f3 (d + 12) (by omega), f3 (d + 13) (by omega), f3 (d + 14) (by omega), f3 d (by omega)]
          exact RG_turn x2'.1 f4
        · rw [f3 (d + 10) (by omega), m2]
          simp [turnD, hD43]; rfl
      · have y2 : nI (ι 2 b) = nI 1 := y
        rw [i_eq (by omega) (by omega)] at y2
        omega
