theorem cn24 : ((24 : Int32)).toNatClampNeg = 24 := by decide
theorem cpok24 : cpOk (0 : Int32) (0 : Int32) (24 : Int32) 24 24 := by unfold cpOk; decide
set_option maxHeartbeats 1000000 in
theorem s_become {σ : Mem} {Q : Mem → Prop} (hQ : ∀ τ, (∀ c, (c < 15 ∨ 19 < c) → τ c = σ c) → τ 15 4 = σ 10 4 → τ 15 5 = σ 10 5 → τ 15 6 = σ 10 6 → (∀ i, i < 8 → τ (15 + 1) i = σ (10 + 1) i ∧ τ (15 + 2) i = σ (10 + 2) i ∧ τ (15 + 3) i = σ (10 + 3) i) → (∀ i, i < 24 → τ (15 + 4) i = σ (10 + 4) i) → Q τ) : wX3_become 15 10 σ Q := by
  unfold wX3_become
  simp only [cn0, cn8, cn24]
  refine ⟨cpok8, fun s1 h1 => ⟨cpok8, fun s2 h2 => ⟨cpok8, fun s3 h3 => ⟨cpok24, fun s4 h4 s5 h5 s6 h6 s7 h7 => ?_⟩⟩⟩⟩
  have e4 : ∀ c, c ≠ 15 → s7 c = s4 c := fun c hc => by rw [h7, um_ne _ _ _ hc, h6, um_ne _ _ _ hc, h5, um_ne _ _ _ hc]
  have e0 : ∀ c, c ≠ 15 + 1 → c ≠ 15 + 2 → c ≠ 15 + 3 → c ≠ 15 + 4 → s4 c = σ c := fun c a1 a2 a3 a4 => by rw [h4, cpM_ne _ a4, h3, cpM_ne _ a3, h2, cpM_ne _ a2, h1, cpM_ne _ a1]
  have t10 : s4 10 = σ 10 := e0 10 (by omega) (by omega) (by omega) (by omega)
  refine hQ s7 (fun c hc => by rw [e4 c (by omega), e0 c (by omega) (by omega) (by omega) (by omega)]) ?_ ?_ ?_ (fun i hi => ⟨?_, ?_, ?_⟩) (fun i hi => ?_)
  · rw [h7, um_nei _ _ (by omega), h6, um_nei _ _ (by omega), h5, um_at, t10]
  · rw [h7, um_nei _ _ (by omega), h6, um_at, h5, um_ne _ _ _ (by omega), t10]
  · rw [h7, um_at, h6, um_ne _ _ _ (by omega), h5, um_ne _ _ _ (by omega), t10]
  · rw [e4 _ (by omega), h4, cpM_ne _ (by omega), h3, cpM_ne _ (by omega), h2, cpM_ne _ (by omega), h1, cpM_at, if_pos (by omega)]
    congr 1
    omega
  · rw [e4 _ (by omega), h4, cpM_ne _ (by omega), h3, cpM_ne _ (by omega), h2, cpM_at, if_pos (by omega), h1, cpM_ne _ (by omega)]
    congr 1
    omega
  · rw [e4 _ (by omega), h4, cpM_ne _ (by omega), h3, cpM_at, if_pos (by omega), h2, cpM_ne _ (by omega), h1, cpM_ne _ (by omega)]
    congr 1
    omega
  · rw [e4 _ (by omega), h4, cpM_at, if_pos (by omega), h3, cpM_ne _ (by omega), h2, cpM_ne _ (by omega), h1, cpM_ne _ (by omega)]
    congr 1
    omega
theorem X_become {α : DD} {β σ : Mem} {Q : Mem → Prop} (hO : OkA α β) (hX : IX σ α β) (hQ : ∀ τ, IX τ α β → SKX τ 15 (iA α) (evm (α 2 3)) → (∀ d, d < nDa α → τ 18 d = nI (coA (α 0) d)) → (∀ c, (c < 15 ∨ 19 < c) → τ c = σ c) → Q τ) : wX3_become 15 10 σ Q := by
  have hn := hO.nd
  refine s_become (fun τ f1 f2 f3 f4 f5 f6 => ?_)
  obtain ⟨k1, k2, k3, k4, k5⟩ := hX.1.2.2.1
  refine hQ τ (IX_same hX (fun c hc => f1 c (by omega))) ⟨f2.trans k1, f3.trans k2, f4.trans k3, fun i hi => ?_, fun b hb => (f6 b hb).trans (k5 b hb)⟩ (fun d hd => ?_) f1
  · have hi2 : i < nDa α := by rw [iA30] at hi; exact hi
    exact ⟨(f5 i (by omega)).1.trans (k4 i hi).1, (f5 i (by omega)).2.1.trans (k4 i hi).2⟩
  · exact (f5 d (by omega)).2.2.trans (hX.1.2.2.2.1 d hd)
theorem X_play {ι : DD} {mask : Int32} {act : Nat → Bool} {α : DD} {β σ : Mem} {Q : Mem → Prop} (hX : IX σ α β) (hI : OkI ι) (hS : SKX σ 15 ι mask) (hm : ∀ e, e < α 2 3 → bt mask e = act e) (hQ : ∀ τ, IX τ α β → SKX τ 15 ι mask → DOK τ 35 ι (bkS α act) → (∀ c, (c < 35 ∨ 49 < c) → τ c = σ c) → Q τ) : wX0_play 35 15 σ Q :=
  sX_play (by omega) (by omega) (by omega) hI hS hX.1.2.1 hm (fun τ hD hF => hQ τ (IX_same hX (fun c hc => hF c (by omega))) (by
    unfold SKX
    rw [hF 15 (by omega), hF (15 + 1) (by omega), hF (15 + 2) (by omega), hF (15 + 4) (by omega)]
    exact hS) hD (fun c hc => hF c (by omega)))
theorem bt_evA {α : DD} {β : Mem} (hO : OkA α β) : ∀ e, e < α 2 3 → bt (evm (α 2 3)) e = true := fun e he => by
  have := OkA.ev hO
  rw [bt_evm this (by omega)]
  simpa using he
theorem SKX_st {σ : Mem} {ι ι' : DD} {mask : Int32} {b s : Nat} (h : SKX σ 15 ι mask) (h1 : ∀ r i, ¬ (r = 2 ∧ i = b) → ι' r i = ι r i) (h2 : ι' 2 b = s) : SKX (um σ 19 b (nI s)) 15 ι' mask := by
  obtain ⟨k1, k2, k3, k4, k5⟩ := h
  have e30 := h1 3 0 (by omega)
  have e31 := h1 3 1 (by omega)
  refine ⟨?_, ?_, ?_, fun i hi => ?_, fun b2 hb2 => ?_⟩
  · rw [um_ne _ _ _ (by omega), e30]; exact k1
  · rw [um_ne _ _ _ (by omega), e31]; exact k2
  · rw [um_ne _ _ _ (by omega)]; exact k3
  · rw [e30] at hi
    rw [um_ne _ _ _ (by omega), um_ne _ _ _ (by omega), h1 0 i (by omega), h1 1 i (by omega)]
    exact k4 i hi
  · rw [um_any]
    by_cases c : b2 = b
    · rw [if_pos ⟨rfl, c⟩, c, h2]
    · rw [if_neg (fun z => c z.2), h1 2 b2 (by omega)]
      exact k5 b2 hb2
theorem SKX_pl {σ : Mem} {ι ι' : DD} {mask : Int32} {d s : Nat} (h : SKX σ 15 ι mask) (h1 : ∀ r i, ¬ (r = 0 ∧ i = d) → ι' r i = ι r i) (h2 : ι' 0 d = s) : SKX (um σ 16 d (nI s)) 15 ι' mask := by
  obtain ⟨k1, k2, k3, k4, k5⟩ := h
  have e30 := h1 3 0 (by omega)
  have e31 := h1 3 1 (by omega)
  refine ⟨?_, ?_, ?_, fun i hi => ?_, fun b2 hb2 => ?_⟩
  · rw [um_ne _ _ _ (by omega), e30]; exact k1
  · rw [um_ne _ _ _ (by omega), e31]; exact k2
  · rw [um_ne _ _ _ (by omega)]; exact k3
  · rw [e30] at hi
    rw [um_any, um_ne _ _ _ (by omega), h1 1 i (by omega)]
    refine ⟨?_, (k4 i hi).2⟩
    by_cases c : i = d
    · rw [if_pos ⟨rfl, c⟩, c, h2]
    · rw [if_neg (fun z => c z.2), h1 0 i (by omega)]
      exact (k4 i hi).1
  · rw [um_ne _ _ _ (by omega), h1 2 b2 (by omega)]
    exact k5 b2 hb2
theorem SKX_wy {σ : Mem} {ι ι' : DD} {mask : Int32} {d s : Nat} (h : SKX σ 15 ι mask) (h1 : ∀ r i, ¬ (r = 1 ∧ i = d) → ι' r i = ι r i) (h2 : ι' 1 d = s) : SKX (um σ 17 d (nI s)) 15 ι' mask := by
  obtain ⟨k1, k2, k3, k4, k5⟩ := h
  have e30 := h1 3 0 (by omega)
  have e31 := h1 3 1 (by omega)
  refine ⟨?_, ?_, ?_, fun i hi => ?_, fun b2 hb2 => ?_⟩
  · rw [um_ne _ _ _ (by omega), e30]; exact k1
  · rw [um_ne _ _ _ (by omega), e31]; exact k2
  · rw [um_ne _ _ _ (by omega)]; exact k3
  · rw [e30] at hi
    rw [um_ne _ _ _ (by omega), um_any, h1 0 i (by omega)]
    refine ⟨(k4 i hi).1, ?_⟩
    by_cases c : i = d
    · rw [if_pos ⟨rfl, c⟩, c, h2]
    · rw [if_neg (fun z => c z.2), h1 1 i (by omega)]
      exact (k4 i hi).2
  · rw [um_ne _ _ _ (by omega), h1 2 b2 (by omega)]
    exact k5 b2 hb2
theorem SKX_le {σ : Mem} {ι ι' : DD} {mask : Int32} {s : Nat} (h : SKX σ 15 ι mask) (h1 : ∀ r i, ¬ (r = 3 ∧ i = 1) → ι' r i = ι r i) (h2 : ι' 3 1 = s) : SKX (um σ 15 5 (nI s)) 15 ι' mask := by
  obtain ⟨k1, k2, k3, k4, k5⟩ := h
  have e30 := h1 3 0 (by omega)
  refine ⟨?_, ?_, ?_, fun i hi => ?_, fun b2 hb2 => ?_⟩
  · rw [um_nei _ _ (by omega), e30]; exact k1
  · rw [um_at, h2]
  · rw [um_nei _ _ (by omega)]; exact k3
  · rw [e30] at hi
    rw [um_ne _ _ _ (by omega), um_ne _ _ _ (by omega), h1 0 i (by omega), h1 1 i (by omega)]
    exact k4 i hi
  · rw [um_ne _ _ _ (by omega), h1 2 b2 (by omega)]
    exact k5 b2 hb2
theorem SKX_ma {σ : Mem} {ι : DD} {mask x : Int32} (h : SKX σ 15 ι mask) : SKX (um σ 15 6 x) 15 ι x := by
  obtain ⟨k1, k2, k3, k4, k5⟩ := h
  refine ⟨?_, ?_, ?_, fun i hi => ?_, fun b2 hb2 => ?_⟩
  · rw [um_nei _ _ (by omega)]; exact k1
  · rw [um_nei _ _ (by omega)]; exact k2
  · rw [um_at]
  · rw [um_ne _ _ _ (by omega), um_ne _ _ _ (by omega)]
    exact k4 i hi
  · rw [um_ne _ _ _ (by omega)]
    exact k5 b2 hb2
/-- a write to the trial -/
theorem IX_tr {σ : Mem} {α : DD} {β : Mem} {c i : Nat} {v : Int32} (h : IX σ α β) (h1 : 15 ≤ c) (h2 : c < 20) : IX (um σ c i v) α β := IX_same h (fun k hk => um_ne _ _ _ (by omega))
theorem un_any (D : DD) (r i v r' i' : Nat) : un D r i v r' i' = if (r' = r ∧ i' = i) then v else D r' i' := rfl
theorem un_un (D : DD) (r i v w : Nat) : ∀ a c, ¬ (a = r ∧ c = i) → un D r i v a c = un D r i w a c := fun a c h => by rw [un_any, un_any, if_neg h, if_neg h]
theorem un_self (D : DD) (r i : Nat) : un D r i (D r i) = D := by
  funext a c
  rw [un_any]
  split
  · rename_i h; rw [h.1, h.2]
  · rfl
/-! the model, altered -/
def nz (τ : Mem) (α : DD) : Mem := um (um τ 0 14 0) 0 11 (nI (α 2 2))
theorem nz_c {τ : Mem} {α : DD} {c : Nat} (h : c ≠ 0) : nz τ α c = τ c := by unfold nz; rw [um_ne _ _ _ h, um_ne _ _ _ h]
theorem nz_j {τ : Mem} {α : DD} {j : Nat} (h1 : j ≠ 14) (h2 : j ≠ 11) : nz τ α 0 j = τ 0 j := by unfold nz; rw [um_nei _ _ h2, um_nei _ _ h1]
theorem nz_14 {τ : Mem} {α : DD} : nz τ α 0 14 = 0 := by unfold nz; rw [um_nei _ _ (by omega), um_at]
theorem nz_11 {τ : Mem} {α : DD} : nz τ α 0 11 = nI (α 2 2) := by unfold nz; rw [um_at]
def HM (τ : Mem) (α : DD) (β : Mem) (ι : DD) (co : Nat → Nat) : Prop := IM (nz τ α) α β ∧ SKM τ ι ∧ (∀ d, d < nDa α → τ 7 (3 * d + 2) = nI (co d)) ∧ τ 0 9 = nI (toA α)
theorem IMz {σ τ : Mem} {α : DD} {β : Mem} (h : IM (nz σ α) α β) (hc : ∀ c, (c = 1 ∨ c = 2 ∨ c = 3 ∨ c = 5 ∨ c = 6 ∨ c = 9 ∨ c = 23) → τ c = σ c) (h0 : ∀ j, (j = 4 ∨ j = 12 ∨ j = 33) → τ 0 j = σ 0 j) : IM (nz τ α) α β :=
  IM_same h (fun c hc' => by rw [nz_c (by omega), nz_c (by omega)]; exact hc c hc') (fun j hj => by
    by_cases e : j = 14
    · subst e; rw [nz_14, nz_14]
    · by_cases e2 : j = 11
      · subst e2; rw [nz_11, nz_11]
      · rw [nz_j e e2, nz_j e e2]; exact h0 j (by omega))
theorem RM_HM {τ : Mem} {α : DD} {β : Mem} (h : RM τ α β) : HM τ α β (iA α) (coA (α 0)) := by
  refine ⟨IM_same h.1 (fun c hc => nz_c (by omega)) (fun j hj => ?_), h.2.1, h.2.2.1, h.2.2.2⟩
  by_cases e : j = 14
  · subst e; rw [nz_14, h.1.2.2.2.1]
  · by_cases e2 : j = 11
    · subst e2; rw [nz_11, h.1.2.1]
    · rw [nz_j e e2]
theorem HM_RM {τ : Mem} {α : DD} {β : Mem} (h : HM τ α β (iA α) (coA (α 0))) (h14 : τ 0 14 = 0) : RM τ α β := by
  refine ⟨IM_same h.1 (fun c hc => (nz_c (by omega)).symm) (fun j hj => ?_), h.2.1, h.2.2.1, h.2.2.2⟩
  by_cases e : j = 14
  · subst e; rw [nz_14, h14]
  · by_cases e2 : j = 11
    · subst e2; rw [nz_11, h.2.1.2.1, iA31]
    · rw [nz_j e e2]
theorem HM.se {τ : Mem} {α : DD} {β : Mem} {ι : DD} {co : Nat → Nat} (h : HM τ α β ι co) : SEM τ α := by
  have := h.1.2.2.2.2.1
  unfold SEM at this ⊢
  rw [nz_j (by omega) (by omega), nz_c (by omega)] at this
  exact this
theorem HM.ev {τ : Mem} {α : DD} {β : Mem} {ι : DD} {co : Nat → Nat} (h : HM τ α β ι co) : EVM τ (α 2 3) (α 3) (α 4) (α 5) := by
  have := h.1.2.2.1
  unfold EVM at this ⊢
  rw [nz_j (by omega) (by omega), nz_c (by omega)] at this
  exact this
theorem HM.tx {τ : Mem} {α : DD} {β : Mem} {ι : DD} {co : Nat → Nat} (h : HM τ α β ι co) : TXM τ α := by
  have := h.1.1
  unfold TXM at this ⊢
  rw [nz_c (by omega), nz_c (by omega)] at this
  exact this
theorem HM_lives {σ τ : Mem} {α : DD} {β : Mem} {ι : DD} {co : Nat → Nat} (h : HM σ α β ι co) (hF : FrL σ τ) : HM τ α β ι co := by
  obtain ⟨m, k, c, t⟩ := h
  refine ⟨IMz m (fun c hc => hF.1 c (by omega) (by omega)) (fun j hj => hF.2 j (by omega) (by omega) (by omega) (by omega) (by omega)), hF.sk k, ?_, ?_⟩
  · rw [hF.1 7 (by omega) (by omega)]; exact c
  · rw [hF.2 9 (by omega) (by omega) (by omega) (by omega) (by omega)]; exact t
theorem M_livesH {τ : Mem} {α : DD} {β : Mem} {ι : DD} {co : Nat → Nat} {act : Nat → Bool} {Q : Mem → Prop} (hI : OkI ι) (h : HM τ α β ι co) (hm : ∀ e, e < α 2 3 → bt (τ 0 14) e = !act e) (hQ : ∀ ρ, HM ρ α β ι co → ρ 0 14 = τ 0 14 → DOM ρ ι (bkS α act) → FrL τ ρ → Q ρ) : wX7_lives τ Q :=
  sM_lives (act := act) hI h.2.1 h.ev hm (fun ρ hD hF => hQ ρ (HM_lives h hF) (hF.2 14 (by omega) (by omega) (by omega) (by omega) (by omega)) hD hF)
theorem g14 {τ : Mem} (h : τ 0 14 = 0) (n : Nat) : ∀ e, e < n → bt (τ 0 14) e = !(fun _ => true) e := fun e _ => by rw [h, b_0]; rfl
theorem HM_st {σ : Mem} {α : DD} {β : Mem} {ι ι' : DD} {co : Nat → Nat} {b s : Nat} (h : HM σ α β ι co) (h1 : ∀ r i, ¬ (r = 2 ∧ i = b) → ι' r i = ι r i) (h2 : ι' 2 b = s) : HM (um σ 8 b (nI s)) α β ι' co := by
  obtain ⟨m, ⟨k1, k2, k3, k4⟩, c, t⟩ := h
  have e30 := h1 3 0 (by omega)
  have e31 := h1 3 1 (by omega)
  refine ⟨IMz m (fun c hc => um_ne _ _ _ (by omega)) (fun j hj => by rw [um_ne _ _ _ (by omega)]), ⟨?_, ?_, fun i hi => ?_, fun b2 hb2 => ?_⟩, ?_, ?_⟩
  · rw [um_ne _ _ _ (by omega), e30]; exact k1
  · rw [um_ne _ _ _ (by omega), e31]; exact k2
  · rw [e30] at hi
    rw [um_ne _ _ _ (by omega), h1 0 i (by omega), h1 1 i (by omega)]
    exact k3 i hi
  · rw [um_any]
    by_cases c : b2 = b
    · rw [if_pos ⟨rfl, c⟩, c, h2]
    · rw [if_neg (fun z => c z.2), h1 2 b2 (by omega)]
      exact k4 b2 hb2
  · rw [um_ne _ _ _ (by omega)]; exact c
  · rw [um_ne _ _ _ (by omega)]; exact t
theorem HM_pl {σ : Mem} {α : DD} {β : Mem} {ι ι' : DD} {co : Nat → Nat} {d s : Nat} (h : HM σ α β ι co) (h1 : ∀ r i, ¬ (r = 0 ∧ i = d) → ι' r i = ι r i) (h2 : ι' 0 d = s) : HM (um σ 7 (3 * d) (nI s)) α β ι' co := by
  obtain ⟨m, ⟨k1, k2, k3, k4⟩, c, t⟩ := h
  have e30 := h1 3 0 (by omega)
  have e31 := h1 3 1 (by omega)
  refine ⟨IMz m (fun c hc => um_ne _ _ _ (by omega)) (fun j hj => by rw [um_ne _ _ _ (by omega)]), ⟨?_, ?_, fun i hi => ?_, fun b2 hb2 => ?_⟩, fun i hi => ?_, ?_⟩
  · rw [um_ne _ _ _ (by omega), e30]; exact k1
  · rw [um_ne _ _ _ (by omega), e31]; exact k2
  · rw [e30] at hi
    rw [um_any, um_nei _ _ (by omega), h1 1 i (by omega)]
    refine ⟨?_, (k3 i hi).2⟩
    by_cases c : i = d
    · rw [if_pos ⟨rfl, by omega⟩, c, h2]
    · rw [if_neg (by omega), h1 0 i (by omega)]
      exact (k3 i hi).1
  · rw [um_ne _ _ _ (by omega), h1 2 b2 (by omega)]; exact k4 b2 hb2
  · rw [um_nei _ _ (by omega)]; exact c i hi
  · rw [um_ne _ _ _ (by omega)]; exact t
theorem HM_wy {σ : Mem} {α : DD} {β : Mem} {ι ι' : DD} {co : Nat → Nat} {d s : Nat} (h : HM σ α β ι co) (h1 : ∀ r i, ¬ (r = 1 ∧ i = d) → ι' r i = ι r i) (h2 : ι' 1 d = s) : HM (um σ 7 (3 * d + 1) (nI s)) α β ι' co := by
  obtain ⟨m, ⟨k1, k2, k3, k4⟩, c, t⟩ := h
  have e30 := h1 3 0 (by omega)
  have e31 := h1 3 1 (by omega)
  refine ⟨IMz m (fun c hc => um_ne _ _ _ (by omega)) (fun j hj => by rw [um_ne _ _ _ (by omega)]), ⟨?_, ?_, fun i hi => ?_, fun b2 hb2 => ?_⟩, fun i hi => ?_, ?_⟩
  · rw [um_ne _ _ _ (by omega), e30]; exact k1
  · rw [um_ne _ _ _ (by omega), e31]; exact k2
  · rw [e30] at hi
    rw [um_nei _ _ (by omega), um_any, h1 0 i (by omega)]
    refine ⟨(k3 i hi).1, ?_⟩
    by_cases c : i = d
    · rw [if_pos ⟨rfl, by omega⟩, c, h2]
    · rw [if_neg (by omega), h1 1 i (by omega)]
      exact (k3 i hi).2
  · rw [um_ne _ _ _ (by omega), h1 2 b2 (by omega)]; exact k4 b2 hb2
  · rw [um_nei _ _ (by omega)]; exact c i hi
  · rw [um_ne _ _ _ (by omega)]; exact t
theorem HM_le {σ : Mem} {α : DD} {β : Mem} {ι ι' : DD} {co : Nat → Nat} {s : Nat} (h : HM σ α β ι co) (h1 : ∀ r i, ¬ (r = 3 ∧ i = 1) → ι' r i = ι r i) (h2 : ι' 3 1 = s) : HM (um σ 0 11 (nI s)) α β ι' co := by
  obtain ⟨m, ⟨k1, k2, k3, k4⟩, c, t⟩ := h
  have e30 := h1 3 0 (by omega)
  refine ⟨IMz m (fun c hc => um_ne _ _ _ (by omega)) (fun j hj => by rw [um_nei _ _ (by omega)]), ⟨?_, ?_, fun i hi => ?_, fun b2 hb2 => ?_⟩, fun i hi => ?_, ?_⟩
  · rw [um_nei _ _ (by omega), e30]; exact k1
  · rw [um_at, h2]
  · rw [e30] at hi
    rw [um_ne _ _ _ (by omega), h1 0 i (by omega), h1 1 i (by omega)]
    exact k3 i hi
  · rw [um_ne _ _ _ (by omega), h1 2 b2 (by omega)]; exact k4 b2 hb2
  · rw [um_ne _ _ _ (by omega)]; exact c i hi
  · rw [um_nei _ _ (by omega)]; exact t
theorem HM_go {σ : Mem} {α : DD} {β : Mem} {ι : DD} {co : Nat → Nat} {x : Int32} (h : HM σ α β ι co) : HM (um σ 0 14 x) α β ι co := by
  obtain ⟨m, ⟨k1, k2, k3, k4⟩, c, t⟩ := h
  refine ⟨IMz m (fun c hc => um_ne _ _ _ (by omega)) (fun j hj => by rw [um_nei _ _ (by omega)]), ⟨?_, ?_, fun i hi => ?_, fun b2 hb2 => ?_⟩, fun i hi => ?_, ?_⟩
  · rw [um_nei _ _ (by omega)]; exact k1
  · rw [um_nei _ _ (by omega)]; exact k2
  · rw [um_ne _ _ _ (by omega)]; exact k3 i hi
  · rw [um_ne _ _ _ (by omega)]; exact k4 b2 hb2
  · rw [um_ne _ _ _ (by omega)]; exact c i hi
  · rw [um_nei _ _ (by omega)]; exact t
/-! what was seen -/
def seenB (α : DD) (f : Nat → Nat) : Nat → Bool
  | 0 => true
  | n + 1 => seenB α f n && (f (α 6 n) == α 7 n)
def seB (α : DD) (f : Nat → Nat) : Bool := seenB α f (α 2 4)
theorem seenB_f {α : DD} {f : Nat → Nat} : ∀ {m n : Nat}, n ≤ m → seenB α f n = false → seenB α f m = false
  | 0, n, h, e => by
    have : n = 0 := by omega
    subst this
    exact e
  | m + 1, n, h, e => by
    by_cases c : n = m + 1
    · subst c; exact e
    · rw [seenB, seenB_f (m := m) (by omega) e]; rfl
theorem X_comesOut {b1 nb1 off : Nat} {f : Nat → Nat} {α : DD} {β σ : Mem} {Q : Int32 → Mem → Prop} (hO : OkA α β) (hX : IX σ α β) (hb : off + 24 ≤ nb1) (hnb : nb1 < 2 ^ 31) (hf : ∀ b, b < 24 → σ b1 (off + b) = nI (f b) ∧ f b ≤ 120) (hq : Q (if seB α f = true then 1 else 0) σ) : wX2_comesOut b1 nb1 (nI off) σ Q := by
  obtain ⟨o1, o2⟩ := hO.2.2.2.1
  obtain ⟨s1, s2⟩ := hX.1.2.2.2.2.1
  unfold wX2_comesOut
  have key := up_loop (fun N j => seenB α f j = true → wX2_comesOut_2 Q N b1 nb1 (nI off) (nI j) σ) (α 2 4) ?_ ?_ 0 (Nat.zero_le _)
  · obtain ⟨N, hN⟩ := key
    exact ⟨N, hN rfl⟩
  · intro N h
    rw [wX2_comesOut_2, s1, i_le (by omega) (by omega)]
    refine ⟨fun _ => ?_, fun z => absurd (Nat.le_refl _) z⟩
    rw [if_pos (show seB α f = true from h)] at hq
    exact hq
  · intro N j hj ih h
    obtain ⟨q1, q2⟩ := s2 j hj
    obtain ⟨q3, q4⟩ := o2 j hj
    obtain ⟨q5, q6⟩ := hf (α 6 j) q3
    rw [wX2_comesOut_2, s1, i_le (by omega) (by omega), nI_clamp (show j < 2 ^ 31 by omega), q1, q2, nI_add, nI_clamp (by omega), q5, i_eq (by omega) (by omega), i1]
    refine ⟨fun z => absurd z (by omega), fun _ => ⟨vp_in_nI (by omega) (by omega), vp_in_nI (by omega) (by omega), vp_in_nI (by omega) (by omega), fun z => ih ?_, fun z => ?_⟩⟩
    · rw [seenB, h]; simpa using z
    · have e : seB α f = false := seenB_f (n := j + 1) (by omega) (by rw [seenB, h]; simpa using z)
      rw [e] at hq
      exact hq
theorem M_isSeen {τ : Mem} {α : DD} {β : Mem} {ι : DD} {co : Nat → Nat} {act : Nat → Bool} {Q : Int32 → Mem → Prop} (hO : OkA α β) (hI : OkI ι) (h : HM τ α β ι co) (hm : ∀ e, e < α 2 3 → bt (τ 0 14) e = !act e) (hQ : ∀ ρ, HM ρ α β ι co → ρ 0 14 = τ 0 14 → DOM ρ ι (bkS α act) → FrL τ ρ → Q (if seB α (fun b => danceD ι (bkS α act) (b + 1) 4 0) = true then 1 else 0) ρ) : wX7_isSeen τ Q := by
  obtain ⟨o1, o2⟩ := hO.2.2.2.1
  unfold wX7_isSeen
  refine M_livesH hI h hm (fun ρ h1 h2 h3 h4 => ?_)
  have hq := hQ ρ h1 h2 h3 h4
  obtain ⟨s1, s2⟩ := h1.se
  obtain ⟨f, hf⟩ : ∃ f : Nat → Nat, f = fun b => danceD ι (bkS α act) (b + 1) 4 0 := ⟨_, rfl⟩
  rw [← hf] at hq
  have key := up_loop (fun N j => wX7_isSeen_8 Q N (if seenB α f j = true then 1 else 0) (nI j) ρ) (α 2 4) ?_ ?_ 0 (Nat.zero_le _)
  · exact key
  · intro N
    rw [wX7_isSeen_8, s1, i_le (by omega) (by omega)]
    exact ⟨fun _ => ⟨bzi _, hq⟩, fun z => absurd (Nat.le_refl _) z⟩
  · intro N j hj ih
    obtain ⟨q1, q2⟩ := s2 j hj
    obtain ⟨q3, q4⟩ := o2 j hj
    have q5 : ρ 21 (α 6 j) = nI (f (α 6 j)) := by rw [hf]; exact (h3.2 _ q3).1
    have q6 : f (α 6 j) ≤ 120 := by rw [hf]; exact on_le hI (by omega)
    rw [wX7_isSeen_8, s1, i_le (by omega) (by omega), i1]
    refine ⟨fun z => absurd z (by omega), fun _ => ?_⟩
    rw [seenB] at ih
    by_cases c : seenB α f j = true
    · rw [if_pos c]
      rw [c] at ih
      rw [show (2 : Int32) * nI j = nI (2 * j) from pk_mul 2 j, i1, nI_clamp (by omega), nI_clamp (by omega), q1, q2, nI_clamp (by omega), q5, i_eq (by omega) (by omega)]
      refine ⟨fun z => absurd z one_ne, fun _ => ⟨vp_in_nI (by omega) (by omega), vp_in_nI (by omega) (by omega), vp_in_nI (by omega) (by omega), fun z => ?_, fun z => ?_⟩⟩
      · rw [if_neg (by simpa using z)] at ih; exact ih
      · rw [if_pos (by simpa using z)] at ih; exact ih
    · rw [if_neg c]
      rw [Bool.not_eq_true] at c
      rw [c] at ih
      exact ⟨fun _ => ih, fun z => absurd rfl z⟩
