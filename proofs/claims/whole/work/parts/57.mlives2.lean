def MH (σ : Mem) (nd : Nat) (D : DD) : Prop := RGM σ D nd ∧ ∀ i, i < nd → bt (σ 0 19) i = !(D 3 i == 0)
def BHM (σ : Mem) (ι : DD) (bk : Nat → Nat → Nat → Bool) (N : Nat) : Prop := ∀ b, b < N → σ 21 b = nI (danceD ι bk (b + 1) 4 0) ∧ σ 22 b = nI (danceD ι bk (b + 1) 4 3) ∧ ∀ i, i < ι 3 0 → σ 18 (8 * b + i) = nI (danceD ι bk (b + 1) 0 i) ∧ σ 19 (8 * b + i) = nI (danceD ι bk (b + 1) 1 i) ∧ σ 20 (8 * b + i) = nI (danceD ι bk (b + 1) 2 i)
def DOM (σ : Mem) (ι : DD) (bk : Nat → Nat → Nat → Bool) : Prop := MH σ (ι 3 0) (danceD ι bk 24) ∧ BHM σ ι bk 24
def SKM (σ : Mem) (ι : DD) : Prop := σ 0 7 = nI (ι 3 0) ∧ σ 0 11 = nI (ι 3 1) ∧ (∀ i, i < ι 3 0 → σ 7 (3 * i) = nI (ι 0 i) ∧ σ 7 (3 * i + 1) = nI (ι 1 i)) ∧ ∀ b, b < 24 → σ 8 b = nI (ι 2 b)
/-- what the dancing leaves as it was -/
def FrL (σ τ : Mem) : Prop := (∀ c, c ≠ 0 → (c < 10 ∨ 22 < c) → τ c = σ c) ∧ ∀ j, j ≠ 19 → j ≠ 20 → j ≠ 25 → j ≠ 26 → j ≠ 27 → τ 0 j = σ 0 j
theorem FrL.rf {σ : Mem} : FrL σ σ := ⟨fun _ _ _ => rfl, fun _ _ _ _ _ _ => rfl⟩
theorem FrL.tr {σ τ ρ : Mem} (h : FrL σ τ) (g : FrL τ ρ) : FrL σ ρ := ⟨fun c a b => (g.1 c a b).trans (h.1 c a b), fun j a b c d e => (g.2 j a b c d e).trans (h.2 j a b c d e)⟩
theorem FrL.ev {σ τ : Mem} {ne : Nat} {ek eb en : Nat → Nat} (h : FrL σ τ) (hE : EVM σ ne ek eb en) : EVM τ ne ek eb en := by
  obtain ⟨a1, a2, a3⟩ := hE
  refine ⟨a1, ?_, fun e he => ?_⟩
  · rw [h.2 12 (by omega) (by omega) (by omega) (by omega) (by omega)]; exact a2
  · rw [h.1 9 (by omega) (by omega)]; exact a3 e he
theorem FrL.sk {σ τ : Mem} {ι : DD} (h : FrL σ τ) (hS : SKM σ ι) : SKM τ ι := by
  obtain ⟨a1, a2, a3, a4⟩ := hS
  refine ⟨?_, ?_, fun i hi => ?_, fun b hb => ?_⟩
  · rw [h.2 7 (by omega) (by omega) (by omega) (by omega) (by omega)]; exact a1
  · rw [h.2 11 (by omega) (by omega) (by omega) (by omega) (by omega)]; exact a2
  · rw [h.1 7 (by omega) (by omega)]; exact a3 i hi
  · rw [h.1 8 (by omega) (by omega)]; exact a4 b hb
theorem n8 (n : Nat) : (8 : Int32) * nI n = nI (8 * n) := pk_mul 8 n
set_option maxHeartbeats 1000000 in
/-- the notes of a beat, with the turning -/
theorem sM_notes {b nd s : Nat} {w : Nat → Nat} {σ : Mem} {Q : Mem → Prop} (h8 : nd ≤ 8) (hb : b < 24) (hs : s ≤ 3) (h7 : σ 0 7 = nI nd) (h8b : σ 8 b = nI s) (hw : ∀ i, i < nd → σ 12 i = nI (w i) ∧ w i ≤ 1)
    (hQ : ∀ τ, (∀ c, c ≠ 12 → c ≠ 18 → c ≠ 19 → c ≠ 20 → c ≠ 21 → τ c = σ c) → (∀ i, i < nd → τ 12 i = nI (if s = 3 then 1 - w i else w i)) → τ 21 b = σ 0 20 → (∀ i, i ≠ b → τ 21 i = σ 21 i) → (∀ i, (i < 8 * b ∨ 8 * b + 8 ≤ i) → τ 18 i = σ 18 i ∧ τ 19 i = σ 19 i ∧ τ 20 i = σ 20 i) → (∀ i, i < nd → τ 18 (8 * b + i) = σ 10 i ∧ τ 19 (8 * b + i) = nI (if s = 3 then 1 - w i else w i) ∧ τ 20 (8 * b + i) = σ 13 i) → Q τ) : ∃ n, wX7_passes_49 Q n (nI b) (nI 0) σ := by
  have cb : (nI b).toNatClampNeg = b := nI_clamp (by omega)
  have vb : vp_in (nI b) 24 := vp_in_nI (by omega) (by omega)
  have key := up_loop (fun n j => ∀ τ, (∀ c, c ≠ 12 → c ≠ 18 → c ≠ 19 → c ≠ 20 → τ c = σ c) → (∀ i, i < j → τ 12 i = nI (if s = 3 then 1 - w i else w i)) → (∀ i, j ≤ i → i < nd → τ 12 i = nI (w i)) → (∀ i, (i < 8 * b ∨ 8 * b + 8 ≤ i) → τ 18 i = σ 18 i ∧ τ 19 i = σ 19 i ∧ τ 20 i = σ 20 i) → (∀ i, i < j → τ 18 (8 * b + i) = σ 10 i ∧ τ 19 (8 * b + i) = nI (if s = 3 then 1 - w i else w i) ∧ τ 20 (8 * b + i) = σ 13 i) → wX7_passes_49 Q n (nI b) (nI j) τ) nd ?_ ?_ 0 (Nat.zero_le _)
  · obtain ⟨n, hn⟩ := key
    exact ⟨n, hn σ (fun _ _ _ _ _ => rfl) (fun i hi => absurd hi (Nat.not_lt_zero _)) (fun i _ hi => (hw i hi).1) (fun _ _ => ⟨rfl, rfl, rfl⟩) (fun i hi => absurd hi (Nat.not_lt_zero _))⟩
  · intro n τ f1 f2 f3 f4 f5
    rw [wX7_passes_49, f1 0 (by omega) (by omega) (by omega) (by omega), h7, i_le (by omega) (by omega)]
    refine ⟨fun _ => ?_, fun z => absurd (Nat.le_refl _) z⟩
    unfold wX7_passes_147
    rw [cb]
    refine ⟨vb, fun ρ hρ => hQ ρ (fun c a1 a2 a3 a4 a5 => by rw [hρ, um_ne _ _ _ a5]; exact f1 c a1 a2 a3 a4) (fun i hi => by rw [hρ, um_ne _ _ _ (by omega)]; exact f2 i hi) (by rw [hρ, um_at, f1 0 (by omega) (by omega) (by omega) (by omega)]) (fun i hi => by rw [hρ, um_nei _ _ hi, f1 21 (by omega) (by omega) (by omega) (by omega)]) (fun i hi => by rw [hρ, um_ne _ _ _ (by omega), um_ne _ _ _ (by omega), um_ne _ _ _ (by omega)]; exact f4 i hi) (fun i hi => by rw [hρ, um_ne _ _ _ (by omega), um_ne _ _ _ (by omega), um_ne _ _ _ (by omega)]; exact f5 i hi)⟩
  · intro n j hj ih τ f1 f2 f3 f4 f5
    have cj : (nI j).toNatClampNeg = j := nI_clamp (by omega)
    have vj : vp_in (nI j) 8 := vp_in_nI (by omega) (by omega)
    have e1 := f3 j (Nat.le_refl _) hj
    have w1 := (hw j hj).2
    have k8 : τ 8 b = nI s := by rw [f1 8 (by omega) (by omega) (by omega) (by omega)]; exact h8b
    have k10 : τ 10 = σ 10 := f1 10 (by omega) (by omega) (by omega) (by omega)
    have k13 : τ 13 = σ 13 := f1 13 (by omega) (by omega) (by omega) (by omega)
    have eq8 : (8 : Int32) * nI b + nI j = nI (8 * b + j) := by rw [n8, nI_add]
    have c8 : (nI (8 * b + j)).toNatClampNeg = 8 * b + j := nI_clamp (by omega)
    have v8 : vp_in (nI (8 * b + j)) 192 := vp_in_nI (by omega) (by omega)
    have body : ∀ y0 : Int32, y0 = nI (if s = 3 then 1 - w j else w j) → wX7_passes_89 (fun x1 x2 ρ => wX7_passes_49 Q n x1 x2 ρ) Q (nI b) (nI j) y0 (nI j) τ := by
      intro y0 hy
      unfold wX7_passes_89
      simp only [cj, eq8, c8, i1]
      refine ⟨vj, fun s1 h1 => ⟨vj, v8, fun s2 h2 => ⟨vj, v8, fun s3 h3 => ⟨vj, v8, fun s4 h4 => ?_⟩⟩⟩⟩
      have a1 : s1 10 j = σ 10 j := by rw [h1, um_ne _ _ _ (by omega), k10]
      have a2 : s2 12 j = y0 := by rw [h2, um_ne _ _ _ (by omega), h1, um_at]
      have a3 : s3 13 j = σ 13 j := by rw [h3, um_ne _ _ _ (by omega), h2, um_ne _ _ _ (by omega), h1, um_ne _ _ _ (by omega), k13]
      rw [a1] at h2
      rw [a2] at h3
      rw [a3] at h4
      have r12 : s4 12 = upd (τ 12) j y0 := by rw [h4, um_ne _ _ _ (by omega), h3, um_ne _ _ _ (by omega), h2, um_ne _ _ _ (by omega), h1, um_row]
      have r18 : s4 18 = upd (τ 18) (8 * b + j) (σ 10 j) := by rw [h4, um_ne _ _ _ (by omega), h3, um_ne _ _ _ (by omega), h2, um_row, h1, um_ne _ _ _ (by omega)]
      have r19 : s4 19 = upd (τ 19) (8 * b + j) y0 := by rw [h4, um_ne _ _ _ (by omega), h3, um_row, h2, um_ne _ _ _ (by omega), h1, um_ne _ _ _ (by omega)]
      have r20 : s4 20 = upd (τ 20) (8 * b + j) (σ 13 j) := by rw [h4, um_row, h3, um_ne _ _ _ (by omega), h2, um_ne _ _ _ (by omega), h1, um_ne _ _ _ (by omega)]
      refine ih s4 (fun c q1 q2 q3 q4 => ?_) (fun i hi => ?_) (fun i h5 h6 => ?_) (fun i hi => ?_) (fun i hi => ?_)
      · rw [h4, um_ne _ _ _ q4, h3, um_ne _ _ _ q3, h2, um_ne _ _ _ q2, h1, um_ne _ _ _ q1]
        exact f1 c q1 q2 q3 q4
      · rw [r12]
        by_cases e : i = j
        · subst e; simp only [upd, if_true]; exact hy
        · simp only [upd, e, if_false]; exact f2 i (by omega)
      · rw [r12]
        have e : ¬ i = j := by omega
        simp only [upd, e, if_false]; exact f3 i (by omega) h6
      · have e : ¬ i = 8 * b + j := by omega
        rw [r18, r19, r20]
        simp only [upd, e, if_false]
        exact f4 i hi
      · rw [r18, r19, r20]
        by_cases e : i = j
        · subst e; simp only [upd, if_true]; exact ⟨trivial, hy, trivial⟩
        · have e2 : ¬ 8 * b + i = 8 * b + j := by omega
          simp only [upd, e2, if_false]; exact f5 i (by omega)
    rw [wX7_passes_49, f1 0 (by omega) (by omega) (by omega) (by omega), h7, i_le (by omega) (by omega)]
    simp only [cb, cj, k8, e1]
    refine ⟨fun z => absurd z (by omega), fun _ => ⟨vb, fun z => ⟨vj, body _ ?_⟩, fun z => ⟨vj, body _ ?_⟩⟩⟩
    · have z3 : ¬ s = 3 := fun q => z (by rw [q]; rfl)
      rw [if_neg z3]
    · have z2 : nI s = nI 3 := z
      rw [i_eq (by omega) (by omega)] at z2
      rw [if_pos z2]
      exact pk_sub (a := 1) w1
set_option maxHeartbeats 2000000 in
theorem sM_passes {b ne : Nat} {act : Nat → Bool} {ek eb en : Nat → Nat} {ι : DD} {σ : Mem} {Q : Mem → Prop} (hI : OkI ι) (hb : b < 24) (hS : SKM σ ι) (hE : EVM σ ne ek eb en) (hm : ∀ e, e < ne → bt (σ 0 14) e = !act e) (hH : MH σ (ι 3 0) (danceD ι (bkOf act ek eb en ne) b)) (hB : BHM σ ι (bkOf act ek eb en ne) b)
    (hQ : ∀ τ, MH τ (ι 3 0) (danceD ι (bkOf act ek eb en ne) (b + 1)) → BHM τ ι (bkOf act ek eb en ne) (b + 1) → FrL σ τ → Q τ) : wX7_passes (nI b) σ Q := by
  obtain ⟨bk, hbk⟩ : ∃ bk, bk = bkOf act ek eb en ne := ⟨_, rfl⟩
  rw [← hbk] at hH hB hQ
  have m8 := hI.1
  have l30 := hI.2.1
  have cb : (nI b).toNatClampNeg = b := nI_clamp (by omega)
  have vb : vp_in (nI b) 24 := vp_in_nI (by omega) (by omega)
  have hWb := WF_dance (bk := bk) hI b (by omega)
  have hst3 := hI.2.2.2 b hb
  unfold wX7_passes
  rw [cb]
  refine ⟨vb, fun s1 h1 => ?_⟩
  have F1 : FrL σ s1 := ⟨fun c _ hc => by rw [h1, um_ne _ _ _ (by omega)], fun j _ _ _ _ _ => by rw [h1, um_ne _ _ _ (by omega)]⟩
  refine sM_toldIn (k := 2) (by omega) hb (F1.ev hE) (fun e he => by rw [F1.2 14 (by omega) (by omega) (by omega) (by omega) (by omega)]; exact hm e he) (fun r2 hr2 s2 h2 => ?_)
  have F2 : FrL σ s2 := F1.tr ⟨fun c hc _ => by rw [h2, um_ne _ _ _ hc], fun j j19 _ _ _ _ => by rw [h2, um_nei _ _ j19]⟩
  refine sM_toldIn (k := 1) (by omega) hb (F2.ev hE) (fun e he => by rw [F2.2 14 (by omega) (by omega) (by omega) (by omega) (by omega)]; exact hm e he) (fun r1 hr1 s3 h3 => ?_)
  have F3 : FrL σ s3 := F2.tr ⟨fun c hc _ => by rw [h3, um_ne _ _ _ hc], fun j _ _ j25 _ _ => by rw [h3, um_nei _ _ j25]⟩
  rw [← hbk] at hr1 hr2
  have c3 : ∀ c, c ≠ 0 → c ≠ 22 → s3 c = σ c := fun c a0 a22 => by rw [h3, um_ne _ _ _ a0, h2, um_ne _ _ _ a0, h1, um_ne _ _ _ a22]
  have f3 : ∀ j, j ≠ 19 → j ≠ 25 → s3 0 j = σ 0 j := fun j a b => by rw [h3, um_nei _ _ b, h2, um_nei _ _ a, h1, um_ne _ _ _ (by omega)]
  have r19 : s3 0 19 = σ 0 19 ||| r2 := by rw [h3, um_nei _ _ (by omega), h2, um_at, h1, um_ne _ _ _ (by omega)]
  have r25 : s3 0 25 = r1 := by rw [h3, um_at]
  have r22 : s3 22 b = 0 := by rw [h3, um_ne _ _ _ (by omega), h2, um_ne _ _ _ (by omega), h1, um_at]
  have r22' : ∀ i, i ≠ b → s3 22 i = σ 22 i := fun i hi => by rw [h3, um_ne _ _ _ (by omega), h2, um_ne _ _ _ (by omega), h1, um_nei _ _ hi]
  have hWl := WF_loosen (lt := bk 2 b) hWb
  obtain ⟨D, hDe⟩ : ∃ D, D = loosenD (bk 2 b) (danceD ι bk b) := ⟨_, rfl⟩
  have hD43 : D 4 3 = 0 := by rw [hDe]; exact loosen43 _ _
  have H3 : MH s3 (ι 3 0) D := by
    obtain ⟨⟨q1, q2, q3, q4, q5⟩, h4⟩ := hH
    refine ⟨?_, fun i hi => ?_⟩
    · unfold RGM
      rw [c3 10 (by omega) (by omega), c3 12 (by omega) (by omega), c3 13 (by omega) (by omega), c3 14 (by omega) (by omega), c3 15 (by omega) (by omega), c3 17 (by omega) (by omega), c3 16 (by omega) (by omega), f3 20 (by omega) (by omega), f3 26 (by omega) (by omega), f3 27 (by omega) (by omega), hDe]
      refine ⟨fun i hi => by simpa [loosenD] using q1 i hi, fun i hi => ?_, by simpa [loosenD] using q3, by simpa [loosenD] using q4, by simpa [loosenD] using q5⟩
      have hi2 : i < danceD ι bk b 4 0 := by simpa [loosenD] using hi
      simpa [loosenD] using q2 i hi2
    · rw [r19, b_or, h4 i hi, hr2 i (by omega), hDe]
      cases hq : bk 2 b i <;> simp [loosenD, hq]
  rw [← hDe] at hWl
  have hnx : danceD ι bk (b + 1) = beatD ι bk b (danceD ι bk b) := rfl
  have k8 : s3 8 b = nI (ι 2 b) := by rw [c3 8 (by omega) (by omega)]; exact hS.2.2.2 b hb
  have k7 : s3 0 7 = nI (ι 3 0) := by rw [f3 7 (by omega) (by omega)]; exact hS.1
  -- behind the notes
  have fin : ∀ (ω : Mem) (D2 : DD), RGM ω D2 (ι 3 0) → WF D2 (ι 3 0) (ι 3 1) → (∀ i, i < ι 3 0 → bt (ω 0 19) i = !(D2 3 i == 0)) → ω 22 b = nI (D2 4 3) → (∀ i, i ≠ b → ω 22 i = σ 22 i) → FrL σ ω → (∀ c, 18 ≤ c → c ≤ 21 → ω c = σ c) → danceD ι bk (b + 1) = (if ι 2 b = 3 then turnD D2 else D2) → ∃ n, wX7_passes_49 Q n (nI b) (nI 0) ω := by
    intro ω D2 w1 w2 w3 w4 w5 w6 w7 w8
    refine sM_notes (w := fun i => D2 1 i) (s := ι 2 b) m8 hb hst3 (w6.sk hS).1 ((w6.sk hS).2.2.2 b hb) (fun i hi => ⟨(w1.1 i hi).2.1, (w2.1 i hi).2.1⟩) (fun t g1 g2 g3 g4 g5 g6 => ?_)
    have t0 : t 0 = ω 0 := g1 0 (by omega) (by omega) (by omega) (by omega) (by omega)
    have dn : ∀ r i, r ≠ 1 → danceD ι bk (b + 1) r i = D2 r i := fun r i hr => by
      rw [w8]; split
      · exact turn_keep hr
      · rfl
    have dn1 : ∀ i, danceD ι bk (b + 1) 1 i = if ι 2 b = 3 then 1 - D2 1 i else D2 1 i := fun i => by
      rw [w8]; split
      · simp [turnD]
      · rfl
    refine hQ t ⟨?_, fun i hi => ?_⟩ (fun b2 hb2 => ?_) ⟨fun c c0 hc => ?_, fun j j1 j2 j3 j4 j5 => ?_⟩
    · unfold RGM
      rw [t0, g1 10 (by omega) (by omega) (by omega) (by omega) (by omega), g1 13 (by omega) (by omega) (by omega) (by omega) (by omega), g1 14 (by omega) (by omega) (by omega) (by omega) (by omega), g1 15 (by omega) (by omega) (by omega) (by omega) (by omega), g1 17 (by omega) (by omega) (by omega) (by omega) (by omega), g1 16 (by omega) (by omega) (by omega) (by omega) (by omega)]
      rw [w8]
      split
      · rename_i q
        exact RG_turn w1 (fun i hi => by rw [g2 i hi, if_pos q])
      · rename_i q
        obtain ⟨q1, q2, q3⟩ := w1
        exact ⟨fun i hi => ⟨(q1 i hi).1, by rw [g2 i hi, if_neg q], (q1 i hi).2.2⟩, q2, q3⟩
    · rw [t0, w3 i hi, dn 3 i (by omega)]
    · by_cases e : b2 = b
      · subst e
        refine ⟨?_, ?_, fun i hi => ?_⟩
        · rw [g3, dn 4 0 (by omega)]; exact w1.2.2.1
        · rw [g1 22 (by omega) (by omega) (by omega) (by omega) (by omega), w4, dn 4 3 (by omega)]
        · obtain ⟨p1, p2, p3⟩ := g6 i hi
          rw [p1, p2, p3, dn 0 i (by omega), dn 2 i (by omega), dn1 i]
          exact ⟨(w1.1 i hi).1, rfl, (w1.1 i hi).2.2⟩
      · obtain ⟨p1, p2, p3⟩ := hB b2 (by omega)
        refine ⟨?_, ?_, fun i hi => ?_⟩
        · rw [g4 b2 e, w7 21 (by omega) (by omega)]; exact p1
        · rw [g1 22 (by omega) (by omega) (by omega) (by omega) (by omega), w5 b2 e]; exact p2
        · obtain ⟨z1, z2, z3⟩ := g5 (8 * b2 + i) (by omega)
          rw [z1, z2, z3, w7 18 (by omega) (by omega), w7 19 (by omega) (by omega), w7 20 (by omega) (by omega)]
          exact p3 i hi
    · rw [g1 c (by omega) (by omega) (by omega) (by omega) (by omega)]; exact w6.1 c c0 hc
    · rw [t0]; exact w6.2 j j1 j2 j3 j4 j5
  rw [k8]
  refine ⟨vb, fun z => ?_, fun z => ?_⟩
  · have z2 : nI 2 ≤ nI (ι 2 b) := z
    rw [i_le (by omega) (by omega)] at z2
    refine fin s3 D H3.1 hWl H3.2 (by rw [r22, hD43]; rfl) r22' F3 (fun c a1 a2 => c3 c (by omega) (by omega)) ?_
    rw [hnx]
    unfold beatD
    rw [← hDe]
    by_cases q : ι 2 b = 3
    · rw [if_pos q, if_pos q]
    · rw [if_neg q, if_neg q, if_neg (by omega)]
  · have z2 : ¬ nI 2 ≤ nI (ι 2 b) := z
    rw [i_le (by omega) (by omega)] at z2
    refine sM_goes (s := ι 2 b) (wr := bk 1 b) (act := act) (ek := ek) (eb := eb) (en := en) (ne := ne) m8 l30 hb (by omega) hWl H3.1 k7 H3.2 (fun i hi => by rw [r25]; exact hr1 i (by omega)) (F3.ev hE) (fun e he => by rw [F3.2 14 (by omega) (by omega) (by omega) (by omega) (by omega)]; exact hm e he) (by rw [r22, hD43]; rfl) k8 (fun t m1 g1 g2 g3 => ?_)
    rw [← hbk] at m1
    refine fin t _ m1.1 (WF_meet (WF_move hWl) hb _ (Nat.le_refl _)) (fun i hi => (m1.2.1 i hi).2.1) m1.2.2.2.1 (fun i hi => by rw [g3 i hi]; exact r22' i hi) (F3.tr ⟨fun c c0 hc => g1 c c0 (by omega) (by omega) (by omega) (by omega) (by omega) (by omega) (by omega) (by omega), fun j j1 j2 j3 j4 j5 => g2 j j2 j4 j5⟩) (fun c a1 a2 => by rw [g1 c (by omega) (by omega) (by omega) (by omega) (by omega) (by omega) (by omega) (by omega) (by omega)]; exact c3 c (by omega) (by omega)) ?_
    rw [hnx]
    unfold beatD
    rw [← hDe, if_neg (by omega), if_pos (by omega), if_neg (by omega)]
set_option maxHeartbeats 1000000 in
theorem sM_lives {ne : Nat} {act : Nat → Bool} {ek eb en : Nat → Nat} {ι : DD} {σ : Mem} {Q : Mem → Prop} (hI : OkI ι) (hS : SKM σ ι) (hE : EVM σ ne ek eb en) (hm : ∀ e, e < ne → bt (σ 0 14) e = !act e)
    (hQ : ∀ τ, DOM τ ι (bkOf act ek eb en ne) → FrL σ τ → Q τ) : wX7_lives σ Q := by
  have m8 := hI.1
  have key := up_loop (fun n j => ∀ τ, FrL σ τ → (∀ i, i < j → τ 10 i = nI (ι 0 i) ∧ τ 12 i = nI (ι 1 i) ∧ τ 13 i = nI (ι 3 1)) → wX7_lives_2 Q n (nI j) τ) (ι 3 0) ?_ ?_ 0 (Nat.zero_le _)
  · obtain ⟨n, hn⟩ := key
    exact ⟨n, hn σ FrL.rf (fun i hi => absurd hi (Nat.not_lt_zero _))⟩
  · intro n τ f1 f2
    rw [wX7_lives_2, (f1.sk hS).1, i_le (by omega) (by omega)]
    refine ⟨fun _ => ?_, fun z => absurd (Nat.le_refl _) z⟩
    unfold wX7_lives_56
    intro s1 h1 s2 h2 s3 h3 s4 h4
    have F4 : FrL σ s4 := f1.tr ⟨fun c c0 _ => by rw [h4, um_ne _ _ _ c0, h3, um_ne _ _ _ c0, h2, um_ne _ _ _ c0, h1, um_ne _ _ _ c0], fun j j1 j2 j3 j4 j5 => by rw [h4, um_nei _ _ j5, h3, um_nei _ _ j4, h2, um_nei _ _ j2, h1, um_nei _ _ j1]⟩
    have cc : ∀ c, c ≠ 0 → s4 c = τ c := fun c c0 => by rw [h4, um_ne _ _ _ c0, h3, um_ne _ _ _ c0, h2, um_ne _ _ _ c0, h1, um_ne _ _ _ c0]
    have a20 : s4 0 20 = 0 := by rw [h4, um_nei _ _ (by omega), h3, um_nei _ _ (by omega), h2, um_at]
    have a26 : s4 0 26 = 0 := by rw [h4, um_nei _ _ (by omega), h3, um_at]
    have a27 : s4 0 27 = 0 := by rw [h4, um_at]
    have a19 : s4 0 19 = 0 := by rw [h4, um_nei _ _ (by omega), h3, um_nei _ _ (by omega), h2, um_nei _ _ (by omega), h1, um_at]
    have H4 : MH s4 (ι 3 0) (startD ι) := by
      refine ⟨⟨fun i hi => ?_, fun i hi => by simp [startD] at hi, ?_, ?_, ?_⟩, fun i hi => ?_⟩
      · rw [cc 10 (by omega), cc 12 (by omega), cc 13 (by omega)]
        simpa [startD] using f2 i hi
      · rw [a20]; simp [startD]; rfl
      · rw [a26]; simp [startD]; rfl
      · rw [a27]; simp [startD]; rfl
      · rw [a19, b_0]; simp [startD]
    have key2 := up_loop (fun n b => ∀ τ, MH τ (ι 3 0) (danceD ι (bkOf act ek eb en ne) b) → BHM τ ι (bkOf act ek eb en ne) b → FrL σ τ → wX7_lives_78 Q n (nI b) τ) 24 ?_ ?_ 0 (Nat.zero_le _)
    · obtain ⟨n, hn⟩ := key2
      exact ⟨n, hn s4 H4 (fun b hb => absurd hb (Nat.not_lt_zero _)) F4⟩
    · intro n ρ r1 r2 r3
      rw [wX7_lives_78]
      exact ⟨fun _ => hQ ρ ⟨r1, r2⟩ r3, fun z => absurd (show nI 24 ≤ nI 24 from nI_le (Nat.le_refl _) (by omega)) z⟩
    · intro n b hb ih ρ r1 r2 r3
      rw [wX7_lives_78]
      refine ⟨fun z => absurd (show nI 24 ≤ nI b from z) (nI_ge hb (by omega)), fun _ => ?_⟩
      rw [i1]
      exact sM_passes hI hb (r3.sk hS) (r3.ev hE) (fun e he => by rw [r3.2 14 (by omega) (by omega) (by omega) (by omega) (by omega)]; exact hm e he) r1 r2 (fun ω o1 o2 o3 => ih ω o1 o2 (r3.tr o3))
  · intro n j hj ih τ f1 f2
    have cj : (nI j).toNatClampNeg = j := nI_clamp (by omega)
    have vj : vp_in (nI j) 8 := vp_in_nI (by omega) (by omega)
    have c0 : (nI (3 * j)).toNatClampNeg = 3 * j := nI_clamp (by omega)
    have c1 : (nI (3 * j + 1)).toNatClampNeg = 3 * j + 1 := nI_clamp (by omega)
    have q := (f1.sk hS).2.2.1 j hj
    have q5 := (f1.sk hS).2.1
    rw [wX7_lives_2, (f1.sk hS).1, i_le (by omega) (by omega)]
    simp only [cj, i3, i1, c0, c1, q.1]
    refine ⟨fun z => absurd z (by omega), fun _ => ⟨vp_in_nI (by omega) (by omega), vj, fun s1 h1 => ⟨vp_in_nI (by omega) (by omega), vj, fun s2 h2 => ⟨vj, fun s3 h3 => ?_⟩⟩⟩⟩
    have k2 : s1 7 (3 * j + 1) = nI (ι 1 j) := by rw [h1, um_ne _ _ _ (by omega)]; exact q.2
    have k3 : s2 0 11 = nI (ι 3 1) := by rw [h2, um_ne _ _ _ (by omega), h1, um_ne _ _ _ (by omega)]; exact q5
    rw [k2] at h2
    rw [k3] at h3
    refine ih s3 (f1.tr ⟨fun c _ hc => by rw [h3, um_ne _ _ _ (by omega), h2, um_ne _ _ _ (by omega), h1, um_ne _ _ _ (by omega)], fun j _ _ _ _ _ => by rw [h3, um_ne _ _ _ (by omega), h2, um_ne _ _ _ (by omega), h1, um_ne _ _ _ (by omega)]⟩) (fun i hi => ?_)
    by_cases e : i = j
    · subst e
      refine ⟨?_, ?_, ?_⟩
      · rw [h3, um_ne _ _ _ (by omega), h2, um_ne _ _ _ (by omega), h1, um_at]
      · rw [h3, um_ne _ _ _ (by omega), h2, um_at]
      · rw [h3, um_at]
    · obtain ⟨z1, z2, z3⟩ := f2 i (by omega)
      refine ⟨?_, ?_, ?_⟩
      · rw [h3, um_ne _ _ _ (by omega), h2, um_ne _ _ _ (by omega), h1, um_nei _ _ e]; exact z1
      · rw [h3, um_ne _ _ _ (by omega), h2, um_nei _ _ e, h1, um_ne _ _ _ (by omega)]; exact z2
      · rw [h3, um_nei _ _ e, h2, um_ne _ _ _ (by omega), h1, um_ne _ _ _ (by omega)]; exact z3
