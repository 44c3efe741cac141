/-- a Setting at cell k holds the dance's beginning ι and a set of events -/
def SKX (σ : Mem) (k : Nat) (ι : DD) (mask : Int32) : Prop := σ k 4 = nI (ι 3 0) ∧ σ k 5 = nI (ι 3 1) ∧ σ k 6 = mask ∧ (∀ i, i < ι 3 0 → σ (k + 1) i = nI (ι 0 i) ∧ σ (k + 2) i = nI (ι 1 i)) ∧ ∀ b, b < 24 → σ (k + 4) b = nI (ι 2 b)
theorem hold8 : ∀ nd, nd < 9 → ∀ i, i < 32 → bt (((1 : Int32) <<< (nI nd &&& 31)) - 1) i = decide (i < nd) := by decide +kernel
theorem cpok8 : cpOk (0 : Int32) (0 : Int32) (8 : Int32) 8 8 := by unfold cpOk; decide
theorem cn0 : ((0 : Int32)).toNatClampNeg = 0 := by decide
theorem cn8 : ((8 : Int32)).toNatClampNeg = 8 := by decide
def XH (σ : Mem) (d nd : Nat) (D : DD) : Prop := RGX σ d D nd ∧ σ d 14 = nI nd ∧ (∀ i, i < nd → bt (σ d 15) i = (D 3 i == 0)) ∧ ∀ i, nd ≤ i → i < 32 → bt (σ d 15) i = false
set_option maxHeartbeats 1000000 in
theorem sX_stand {d k : Nat} {ι : DD} {mask : Int32} {σ : Mem} {Q : Mem → Prop} (hd : 20 ≤ d) (hk : k + 4 < 20) (hI : OkI ι) (hS : SKX σ k ι mask)
    (hQ : ∀ τ, XH τ d (ι 3 0) (startD ι) → (∀ c, c ≠ d → c ≠ d + 2 → c ≠ d + 4 → c ≠ d + 5 → τ c = σ c) → Q τ) : wX0_stand d k σ Q := by
  obtain ⟨s1, s2, s3, s4, s5⟩ := hS
  have n8 := hI.1
  unfold wX0_stand
  intro t1 h1 t2 h2
  refine ⟨cpok8, ?_⟩
  intro t3 h3
  refine ⟨cpok8, ?_⟩
  intro t4 h4
  refine s_fill (by omega) ?_
  intro t6 h6 t7 h7 t h8
  rw [cn0, cn8] at h3 h4
  have k5 : t4 k 5 = nI (ι 3 1) := by
    rw [h4, cpM_ne _ (by omega), h3, cpM_ne _ (by omega), h2, um_ne _ _ _ (by omega), h1, um_ne _ _ _ (by omega)]
    exact s2
  rw [k5] at h6
  have a14 : t1 d 14 = nI (ι 3 0) := by rw [h1, um_at]; exact s1
  rw [a14] at h2
  have f2 : ∀ i, i < 8 → t (d + 2) i = σ (k + 1) i := fun i hi => by
    rw [h8, um_ne _ _ _ (by omega), h7, um_ne _ _ _ (by omega), h6, um_ne _ _ _ (by omega), fillM_ne _ (by omega), h4, cpM_ne _ (by omega), h3, cpM_at, if_pos (by omega), h2, um_ne _ _ _ (by omega), h1, um_ne _ _ _ (by omega)]
    congr 1
    omega
  have f4 : ∀ i, i < 8 → t (d + 4) i = σ (k + 2) i := fun i hi => by
    rw [h8, um_ne _ _ _ (by omega), h7, um_ne _ _ _ (by omega), h6, um_ne _ _ _ (by omega), fillM_ne _ (by omega), h4, cpM_at, if_pos (by omega), h3, cpM_ne _ (by omega), h2, um_ne _ _ _ (by omega), h1, um_ne _ _ _ (by omega)]
    congr 1
    omega
  have f5 : ∀ i, i < 8 → t (d + 5) i = nI (ι 3 1) := fun i hi => by
    rw [h8, um_ne _ _ _ (by omega), h7, um_ne _ _ _ (by omega), h6, um_ne _ _ _ (by omega), fillM_at _ hi]
  have r16 : t d 16 = 0 := by rw [h8, um_nei _ _ (by omega), h7, um_nei _ _ (by omega), h6, um_at]
  have r17 : t d 17 = 0 := by rw [h8, um_nei _ _ (by omega), h7, um_at]
  have r18 : t d 18 = 0 := by rw [h8, um_at]
  have r15 : t d 15 = ((1 : Int32) <<< (nI (ι 3 0) &&& 31)) - 1 := by
    rw [h8, um_nei _ _ (by omega), h7, um_nei _ _ (by omega), h6, um_nei _ _ (by omega), fillM_ne _ (by omega), h4, cpM_ne _ (by omega), h3, cpM_ne _ (by omega), h2, um_at]
  have r14 : t d 14 = nI (ι 3 0) := by
    rw [h8, um_nei _ _ (by omega), h7, um_nei _ _ (by omega), h6, um_nei _ _ (by omega), fillM_ne _ (by omega), h4, cpM_ne _ (by omega), h3, cpM_ne _ (by omega), h2, um_nei _ _ (by omega)]
    exact a14
  refine hQ t ⟨⟨fun i hi => ?_, fun i hi => ?_, ?_, ?_, ?_⟩, r14, fun i hi => ?_, fun i h1 h2 => ?_⟩ (fun c c0 c2 c4 c5 => ?_)
  · rw [f2 i (by omega), f4 i (by omega), f5 i (by omega)]
    refine ⟨?_, ?_, ?_⟩
    · rw [(s4 i hi).1]; simp [startD]
    · rw [(s4 i hi).2]; simp [startD]
    · simp [startD]
  · simp [startD] at hi
  · rw [r16]; simp [startD]; rfl
  · rw [r17]; simp [startD]; rfl
  · rw [r18]; simp [startD]; rfl
  · rw [r15, hold8 _ (by omega) i (by omega)]
    simp [startD, hi]
  · rw [r15, hold8 _ (by omega) i (by omega)]
    simp
    omega
  · rw [h8, um_ne _ _ _ c0, h7, um_ne _ _ _ c0, h6, um_ne _ _ _ c0, fillM_ne _ c5, h4, cpM_ne _ c4, h3, cpM_ne _ c2, h2, um_ne _ _ _ c0, h1, um_ne _ _ _ c0]
theorem cpok192 {b : Nat} (hb : b < 24) : cpOk (0 : Int32) (nI (b * 8)) (8 : Int32) 8 192 := by
  unfold cpOk
  rw [cn0, cn8, nI_clamp (show b * 8 < 2 ^ 31 by omega)]
  exact ⟨⟨by decide, nI_pos (by omega), by decide⟩, by omega, by omega⟩
set_option maxHeartbeats 1000000 in
theorem sX_note {d b : Nat} {σ : Mem} {Q : Mem → Prop} (hb : b < 24)
    (hQ : ∀ τ, (∀ c, c ≠ d + 6 → c ≠ d + 7 → c ≠ d + 8 → c ≠ d + 9 → τ c = σ c) → (∀ i, i ≠ b → τ (d + 9) i = σ (d + 9) i) → τ (d + 9) b = σ d 16 → (∀ i, (i < 8 * b ∨ 8 * b + 8 ≤ i) → τ (d + 6) i = σ (d + 6) i ∧ τ (d + 7) i = σ (d + 7) i ∧ τ (d + 8) i = σ (d + 8) i) → (∀ i, i < 8 → τ (d + 6) (8 * b + i) = σ (d + 2) i ∧ τ (d + 7) (8 * b + i) = σ (d + 4) i ∧ τ (d + 8) (8 * b + i) = σ (d + 5) i) → Q τ) : wX0_note d (nI b) σ Q := by
  have cb : (nI b).toNatClampNeg = b := nI_clamp (by omega)
  have e8 : nI b * (8 : Int32) = nI (b * 8) := pk_mul b 8
  have cb8 : (nI (b * 8)).toNatClampNeg = b * 8 := nI_clamp (by omega)
  unfold wX0_note
  rw [cb, e8]
  refine ⟨vp_in_nI (by omega) (by omega), ?_⟩
  intro t1 h1 x2 hx2
  subst hx2
  refine ⟨cpok192 hb, ?_⟩
  intro t2 h2
  refine ⟨cpok192 hb, ?_⟩
  intro t3 h3
  refine ⟨cpok192 hb, ?_⟩
  intro t h4
  rw [cn0, cn8, cb8] at h2 h3 h4
  refine hQ t (fun c c6 c7 c8 c9 => ?_) (fun i hi => ?_) ?_ (fun i hi => ⟨?_, ?_, ?_⟩) (fun i hi => ⟨?_, ?_, ?_⟩)
  · rw [h4, cpM_ne _ c8, h3, cpM_ne _ c7, h2, cpM_ne _ c6, h1, um_ne _ _ _ c9]
  · rw [h4, cpM_ne _ (by omega), h3, cpM_ne _ (by omega), h2, cpM_ne _ (by omega), h1, um_nei _ _ hi]
  · rw [h4, cpM_ne _ (by omega), h3, cpM_ne _ (by omega), h2, cpM_ne _ (by omega), h1, um_at]
  · rw [h4, cpM_ne _ (by omega), h3, cpM_ne _ (by omega), h2, cpM_at, if_neg (by omega), h1, um_ne _ _ _ (by omega)]
  · rw [h4, cpM_ne _ (by omega), h3, cpM_at, if_neg (by omega), h2, cpM_ne _ (by omega), h1, um_ne _ _ _ (by omega)]
  · rw [h4, cpM_at, if_neg (by omega), h3, cpM_ne _ (by omega), h2, cpM_ne _ (by omega), h1, um_ne _ _ _ (by omega)]
  · rw [h4, cpM_ne _ (by omega), h3, cpM_ne _ (by omega), h2, cpM_at, if_pos (by omega), h1, um_ne _ _ _ (by omega)]
    congr 1
    omega
  · rw [h4, cpM_ne _ (by omega), h3, cpM_at, if_pos (by omega), h2, cpM_ne _ (by omega), h1, um_ne _ _ _ (by omega)]
    congr 1
    omega
  · rw [h4, cpM_at, if_pos (by omega), h3, cpM_ne _ (by omega), h2, cpM_ne _ (by omega), h1, um_ne _ _ _ (by omega)]
    congr 1
    omega
/-- behind the beats below N, as numbers -/
def BHX (σ : Mem) (d : Nat) (ι : DD) (bk : Nat → Nat → Nat → Bool) (N : Nat) : Prop := ∀ b, b < N → σ (d + 9) b = nI (danceD ι bk (b + 1) 4 0) ∧ σ (d + 10) b = nI (danceD ι bk (b + 1) 4 3) ∧ ∀ i, i < ι 3 0 → σ (d + 6) (8 * b + i) = nI (danceD ι bk (b + 1) 0 i) ∧ σ (d + 7) (8 * b + i) = nI (danceD ι bk (b + 1) 1 i) ∧ σ (d + 8) (8 * b + i) = nI (danceD ι bk (b + 1) 2 i)
def DOX (σ : Mem) (d : Nat) (bk : Nat → Nat → Nat → Bool) : Prop := ∀ k b i, k < 3 → b < 24 → i < 32 → bt (σ (d + 1) (24 * k + b)) i = bk k b i
/-- Dance d has danced ι with bk -/
def DOK (σ : Mem) (d : Nat) (ι : DD) (bk : Nat → Nat → Nat → Bool) : Prop := XH σ d (ι 3 0) (danceD ι bk 24) ∧ BHX σ d ι bk 24
theorem loosen43 (lt : Nat → Bool) (D : DD) : loosenD lt D 4 3 = 0 := by simp [loosenD]
theorem XH_loosen {σ τ : Mem} {d nd b : Nat} {D : DD} {bk : Nat → Nat → Nat → Bool} (n8 : nd ≤ 8) (hb : b < 24) (h : XH σ d nd D) (hD : DOX σ d bk) (e : τ = um σ d 15 (σ d 15 &&& (σ (d + 1) (48 + b) ^^^ (-1)))) : XH τ d nd (loosenD (bk 2 b) D) := by
  obtain ⟨⟨r1, r2, r3, r4, r5⟩, h2, h3, h4⟩ := h
  have ec : ∀ c, c ≠ d → τ c = σ c := fun c hc => by rw [e, um_ne _ _ _ hc]
  have ed : ∀ j, j ≠ 15 → τ d j = σ d j := fun j hj => by rw [e, um_nei _ _ hj]
  refine ⟨?_, by rw [ed 14 (by omega)]; exact h2, fun i hi => ?_, fun i h5 h6 => ?_⟩
  · unfold RGX
    rw [ec _ (by omega), ec _ (by omega), ec _ (by omega), ec _ (by omega), ec _ (by omega), ec _ (by omega), ec _ (by omega), ed 16 (by omega), ed 17 (by omega), ed 18 (by omega)]
    refine ⟨fun i hi => by simpa [loosenD] using r1 i hi, fun i hi => ?_, by simpa [loosenD] using r3, by simpa [loosenD] using r4, by simpa [loosenD] using r5⟩
    have hi2 : i < D 4 0 := by simpa [loosenD] using hi
    simpa [loosenD] using r2 i hi2
  · rw [e, um_at, b_and, bt_not (by omega), h3 i hi]
    have := hD 2 b i (by omega) hb (by omega)
    rw [show 24 * 2 + b = 48 + b by omega] at this
    rw [this]
    cases hbk : bk 2 b i
    · simp [loosenD, hbk]
    · simp [loosenD, hbk]
  · rw [e, um_at, b_and, h4 i h5 h6]
    rfl
theorem XH_same {σ τ : Mem} {d nd : Nat} {D : DD} (h : XH σ d nd D) (hc : ∀ c, c ≠ d + 6 → c ≠ d + 7 → c ≠ d + 8 → c ≠ d + 9 → c ≠ d + 10 → τ c = σ c) : XH τ d nd D := by
  obtain ⟨r, h2, h3, h4⟩ := h
  have e0 := hc d (by omega) (by omega) (by omega) (by omega) (by omega)
  refine ⟨?_, by rw [e0]; exact h2, fun i hi => by rw [e0]; exact h3 i hi, fun i a b => by rw [e0]; exact h4 i a b⟩
  unfold RGX at r ⊢
  rw [e0, hc (d + 2) (by omega) (by omega) (by omega) (by omega) (by omega), hc (d + 4) (by omega) (by omega) (by omega) (by omega) (by omega), hc (d + 5) (by omega) (by omega) (by omega) (by omega) (by omega), hc (d + 11) (by omega) (by omega) (by omega) (by omega) (by omega), hc (d + 12) (by omega) (by omega) (by omega) (by omega) (by omega), hc (d + 13) (by omega) (by omega) (by omega) (by omega) (by omega), hc (d + 14) (by omega) (by omega) (by omega) (by omega) (by omega)]
  exact r
