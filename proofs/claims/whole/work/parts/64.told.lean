/-! BOTH MEMORIES against what is told -/
def bkS (α : DD) (act : Nat → Bool) : Nat → Nat → Nat → Bool := bkOf act (α 3) (α 4) (α 5) (α 2 3)
def bkA (α : DD) : Nat → Nat → Nat → Bool := bkS α (fun _ => true)
def evm (n : Nat) : Int32 := ((1 : Int32) <<< (nI n &&& 31)) - 1
def TXX (σ : Mem) (α : DD) : Prop := (σ 2 0 = nI 31 ∧ σ 2 2 = nI (α 2 0) ∧ σ 2 3 = flt0 α ∧ ∀ i, i < α 2 0 → σ 3 i = nI (α 0 i)) ∧ (σ 4 0 = nI 24 ∧ σ 4 2 = nI (α 2 1) ∧ σ 4 3 = flt1 α ∧ ∀ i, i < α 2 1 → σ 5 i = nI (α 1 i))
def COX (σ : Mem) (α : DD) : Prop := ∀ d, d < nDa α → σ 13 d = nI (coA (α 0) d)
def SEX (σ : Mem) (α : DD) : Prop := σ 50 2 = nI (α 2 4) ∧ ∀ j, j < α 2 4 → σ 51 j = nI (α 6 j) ∧ σ 52 j = nI (α 7 j)
def SHX (σ : Mem) (α : DD) (β : Mem) : Prop := ∀ s, s < 4 → σ (54 + 2 * s) 1 = β 4 s ∧ σ (54 + 2 * s) 2 = nI (α 8 s) ∧ ∀ i, i < α 8 s → σ (54 + 2 * s + 1) i = β s i
def TOX (σ : Mem) (α : DD) (β : Mem) : Prop := TXX σ α ∧ EVX σ (α 2 3) (α 3) (α 4) (α 5) ∧ SKX σ 10 (iA α) (evm (α 2 3)) ∧ COX σ α ∧ SEX σ α ∧ SHX σ α β ∧ σ 0 14 = β 5 0
def CAX (σ : Mem) (α : DD) : Prop := (σ 0 11 = 0 ∨ DOK σ 20 (iA α) (bkA α)) ∧ (σ 0 12 = 0 ∨ ∀ v, 2 ≤ v → v < 31 → ∀ b, b < 24 → σ 63 (24 * (v - 2) + b) = nI (danceD (un (iA α) 3 1 v) (bkA α) (b + 1) 4 0)) ∧ (σ 0 13 = 0 ∨ ∀ z, z < 256 → σ 62 z = -1 ∨ ∀ b, b < 24 → bt (σ 62 z) b = (danceD (iA α) (bkS α (fun e => bt (nI z) e)) (b + 1) 4 0 == 0))
def IX (σ : Mem) (α : DD) (β : Mem) : Prop := TOX σ α β ∧ CAX σ α
def SEM (τ : Mem) (α : DD) : Prop := τ 0 33 = nI (α 2 4) ∧ ∀ j, j < α 2 4 → τ 23 (2 * j) = nI (α 6 j) ∧ τ 23 (2 * j + 1) = nI (α 7 j)
def SHM (τ : Mem) (α : DD) (β : Mem) : Prop := ∀ s, s < 4 → τ 1 s = β 4 s ∧ τ 2 s = nI (α 8 s) ∧ ∀ i, i < α 8 s → τ 3 (60 * s + i) = β s i
def IM (τ : Mem) (α : DD) (β : Mem) : Prop := TXM τ α ∧ τ 0 11 = nI (α 2 2) ∧ EVM τ (α 2 3) (α 3) (α 4) (α 5) ∧ τ 0 14 = 0 ∧ SEM τ α ∧ SHM τ α β ∧ τ 0 4 = β 5 0
def COM (τ : Mem) (α : DD) : Prop := ∀ d, d < nDa α → τ 7 (3 * d + 2) = nI (coA (α 0) d)
def RM (τ : Mem) (α : DD) (β : Mem) : Prop := IM τ α β ∧ SKM τ (iA α) ∧ COM τ α ∧ τ 0 9 = nI (toA α)
def RR (σ τ : Mem) : Prop := ∃ α β, OkA α β ∧ IX σ α β ∧ IM τ α β
/-! frames -/
theorem TOX_same {σ τ : Mem} {α : DD} {β : Mem} (h : TOX σ α β) (hc : ∀ c, ((1 < c ∧ c < 15) ∨ (49 < c ∧ c < 62)) → τ c = σ c) (h0 : τ 0 14 = σ 0 14) : TOX τ α β := by
  obtain ⟨⟨t1, t2⟩, e, k, c, s, z, l⟩ := h
  refine ⟨⟨?_, ?_⟩, ?_, ?_, ?_, ?_, ?_, ?_⟩
  · rw [hc 2 (by omega), hc 3 (by omega)]; exact t1
  · rw [hc 4 (by omega), hc 5 (by omega)]; exact t2
  · unfold EVX; rw [hc 6 (by omega), hc 7 (by omega), hc 8 (by omega), hc 9 (by omega)]; exact e
  · unfold SKX; rw [hc 10 (by omega), hc (10 + 1) (by omega), hc (10 + 2) (by omega), hc (10 + 4) (by omega)]; exact k
  · unfold COX; rw [hc 13 (by omega)]; exact c
  · unfold SEX; rw [hc 50 (by omega), hc 51 (by omega), hc 52 (by omega)]; exact s
  · intro i hi
    rw [hc (54 + 2 * i) (by omega), hc (54 + 2 * i + 1) (by omega)]
    exact z i hi
  · rw [h0]; exact l
theorem DOK_same {σ τ : Mem} {d : Nat} {ι : DD} {bk : Nat → Nat → Nat → Bool} (h : DOK σ d ι bk) (hc : ∀ c, (d ≤ c ∧ c < d + 15) → τ c = σ c) : DOK τ d ι bk := by
  unfold DOK XH BHX RGX
  rw [hc d (by omega), hc (d + 2) (by omega), hc (d + 4) (by omega), hc (d + 5) (by omega), hc (d + 11) (by omega), hc (d + 12) (by omega), hc (d + 13) (by omega), hc (d + 14) (by omega), hc (d + 9) (by omega), hc (d + 10) (by omega), hc (d + 6) (by omega), hc (d + 7) (by omega), hc (d + 8) (by omega)]
  exact h
theorem IX_same {σ τ : Mem} {α : DD} {β : Mem} (h : IX σ α β) (hc : ∀ c, (c < 15 ∨ (19 < c ∧ c < 35) ∨ (49 < c ∧ c < 64)) → τ c = σ c) : IX τ α β := by
  obtain ⟨t, c1, c2, c3⟩ := h
  refine ⟨TOX_same t (fun c h => hc c (by omega)) (by rw [hc 0 (by omega)]), ?_, ?_, ?_⟩
  · rw [hc 0 (by omega)]
    rcases c1 with c1 | c1
    · exact Or.inl c1
    · exact Or.inr (DOK_same c1 (fun c h => hc c (by omega)))
  · rw [hc 0 (by omega), hc 63 (by omega)]; exact c2
  · rw [hc 0 (by omega), hc 62 (by omega)]; exact c3
theorem IM_same {σ τ : Mem} {α : DD} {β : Mem} (h : IM σ α β) (hc : ∀ c, (c = 1 ∨ c = 2 ∨ c = 3 ∨ c = 5 ∨ c = 6 ∨ c = 9 ∨ c = 23) → τ c = σ c) (h0 : ∀ j, (j = 4 ∨ j = 11 ∨ j = 12 ∨ j = 14 ∨ j = 33) → τ 0 j = σ 0 j) : IM τ α β := by
  obtain ⟨t, l, e, g, s, z, f⟩ := h
  refine ⟨?_, ?_, ?_, ?_, ?_, ?_, ?_⟩
  · unfold TXM; rw [hc 6 (by omega), hc 5 (by omega)]; exact t
  · rw [h0 11 (by omega)]; exact l
  · unfold EVM; rw [hc 9 (by omega), h0 12 (by omega)]; exact e
  · rw [h0 14 (by omega)]; exact g
  · unfold SEM; rw [hc 23 (by omega), h0 33 (by omega)]; exact s
  · unfold SHM; rw [hc 1 (by omega), hc 2 (by omega), hc 3 (by omega)]; exact z
  · rw [h0 4 (by omega)]; exact f
theorem RM_lives {σ τ : Mem} {α : DD} {β : Mem} (h : RM σ α β) (hF : FrL σ τ) : RM τ α β := by
  obtain ⟨m, k, c, t⟩ := h
  refine ⟨IM_same m (fun c hc => hF.1 c (by omega) (by omega)) (fun j hj => hF.2 j (by omega) (by omega) (by omega) (by omega) (by omega)), hF.sk k, ?_, ?_⟩
  · unfold COM; rw [hF.1 7 (by omega) (by omega)]; exact c
  · rw [hF.2 9 (by omega) (by omega) (by omega) (by omega) (by omega)]; exact t
/-! the model finds -/
theorem OkA.ev {α : DD} {β : Mem} (h : OkA α β) : α 2 3 ≤ 8 := h.2.2.1.1
theorem s_livesA {α : DD} {β : Mem} {τ : Mem} {Q : Mem → Prop} (hO : OkA α β) (hI : RM τ α β) (hQ : ∀ ρ, RM ρ α β → DOM ρ (iA α) (bkA α) → Q ρ) : wX7_lives τ Q := by
  refine sM_lives (act := fun _ => true) (OkI_iA hO) hI.2.1 hI.1.2.2.1 (fun e _ => ?_) (fun ρ hD hF => hQ ρ (RM_lives hI hF) hD)
  rw [hI.1.2.2.2.1, b_0]
  rfl
theorem s_find0 {α : DD} {β : Mem} {τ : Mem} {Q : Mem → Prop} (hO : OkA α β) (hI : IM τ α β) (hQ : ∀ ρ, RM ρ α β → wX7_lives ρ Q) : wX7_find τ Q := by
  unfold wX7_find
  refine s_readsDancers hO.1.1 hO.1.2.2.1 hI.1 (fun τ1 f1 f2 f3 f4 => ?_)
  have i1 : IM τ1 α β := IM_same hI (fun c hc => f1 c (by omega) (by omega)) (fun j hj => f2 j (by omega))
  refine s_readsSteps hO.1.2.1 hO.1.2.2.2 i1.1 (fun τ2 g1 g2 g3 g4 => ?_)
  refine hQ τ2 ⟨IM_same i1 (fun c hc => g1 c (by omega) (by omega)) (fun j hj => g2 j (by omega)), ⟨?_, ?_, fun i hi => ?_, fun b hb => ?_⟩, fun d hd => ?_, g3⟩
  · rw [g2 7 (by omega), f3, iA30]
  · rw [g2 11 (by omega), f2 11 (by omega), hI.2.1, iA31]
  · rw [iA30] at hi
    rw [g1 7 (by omega) (by omega), iA0, iA1]
    exact ⟨(f4 i hi).1, (f4 i hi).2.1⟩
  · rw [iA2]; exact g4 b hb
  · rw [g1 7 (by omega) (by omega)]
    exact (f4 d hd).2.2
theorem s_find {α : DD} {β : Mem} {τ : Mem} {Q : Mem → Prop} (hO : OkA α β) (hI : IM τ α β) (hQ : ∀ ρ, RM ρ α β → DOM ρ (iA α) (bkA α) → Q ρ) : wX7_find τ Q :=
  s_find0 hO hI (fun _ h => s_livesA hO h hQ)
/-! the class has danced -/
theorem bt_evm {n i : Nat} (hn : n ≤ 8) (hi : i < 32) : bt (evm n) i = decide (i < n) := hold8 n (by omega) i hi
theorem s_danced {α : DD} {β : Mem} {σ : Mem} {Q : Mem → Prop} (hO : OkA α β) (hI : IX σ α β) (hQ : ∀ ρ, IX ρ α β → DOK ρ 20 (iA α) (bkA α) → Q ρ) : wX6_danced σ Q := by
  unfold wX6_danced
  obtain ⟨t, c1, c2, c3⟩ := hI
  refine ⟨fun z => ?_, fun _ => ?_⟩
  · rcases c1 with c1 | c1
    · exact absurd c1 z
    · exact hQ σ ⟨t, Or.inr c1, c2, c3⟩ c1
  · have h8 := OkA.ev hO
    refine sX_play (act := fun _ => true) (by omega) (by omega) (by omega) (OkI_iA hO) t.2.2.1 t.2.1 (fun e he => ?_) (fun τ hD hF => ?_)
    · rw [bt_evm h8 (by omega)]
      simpa using he
    · intro ρ hρ
      have cc : ∀ c, c ≠ 0 → (c < 20 ∨ 34 < c) → ρ c = σ c := fun c h0 hc => by rw [hρ, um_ne _ _ _ h0]; exact hF c (by omega)
      have c0 : ∀ j, j ≠ 11 → ρ 0 j = σ 0 j := fun j hj => by rw [hρ, um_nei _ _ hj, hF 0 (by omega)]
      have hd : DOK ρ 20 (iA α) (bkA α) := DOK_same hD (fun c hc => by rw [hρ, um_ne _ _ _ (by omega)])
      refine hQ ρ ⟨TOX_same t (fun c hc => cc c (by omega) (by omega)) (c0 14 (by omega)), Or.inr hd, ?_, ?_⟩ hd
      · rw [c0 12 (by omega), cc 63 (by omega) (by omega)]; exact c2
      · rw [c0 13 (by omega), cc 62 (by omega) (by omega)]; exact c3
theorem s_forgetOut {α : DD} {β : Mem} {σ : Mem} {Q : Mem → Prop} (hT : TOX σ α β) (hQ : ∀ τ, IX τ α β → (∀ c, c ≠ 0 → τ c = σ c) → Q τ) : wX6_forgetOutcomes σ Q := by
  unfold wX6_forgetOutcomes
  intro s1 h1 s2 h2 s3 h3
  have cc : ∀ c, c ≠ 0 → s3 c = σ c := fun c hc => by rw [h3, um_ne _ _ _ hc, h2, um_ne _ _ _ hc, h1, um_ne _ _ _ hc]
  refine hQ s3 ⟨TOX_same hT (fun c hc => cc c (by omega)) ?_, Or.inl ?_, Or.inl ?_, Or.inl ?_⟩ cc
  · rw [h3, um_nei _ _ (by omega), h2, um_nei _ _ (by omega), h1, um_nei _ _ (by omega)]
  · rw [h3, um_nei _ _ (by omega), h2, um_nei _ _ (by omega), h1, um_at]
  · rw [h3, um_nei _ _ (by omega), h2, um_at]
  · rw [h3, um_at]
/-! guards -/
theorem s_isText {x : Int32} {σ : Mem} {Q : Int32 → Mem → Prop} (hq : Q (if (0 ≤ x.toInt ∧ x.toInt ≤ 1) then 1 else 0) σ) : wX6_isText x σ Q := by
  unfold wX6_isText
  rw [show (x = 0) = (x.toInt = 0) from eqk x (k := 0) (by omega), show (x = (1 : Int32)) = (x.toInt = 1) from eqk x (k := 1) (by omega)]
  refine ⟨fun z => ?_, fun z => ⟨fun y => ?_, fun y => ?_⟩⟩
  · rw [if_pos (by omega)] at hq; exact hq
  · rw [if_neg (by omega)] at hq; exact hq
  · rw [if_pos (by omega)] at hq; exact hq
theorem s_isEither {x : Int32} {σ : Mem} {Q : Int32 → Mem → Prop} (hq : Q (if (0 ≤ x.toInt ∧ x.toInt ≤ 1) then 1 else 0) σ) : wX6_isEither x σ Q := by
  unfold wX6_isEither
  rw [show (x = 0) = (x.toInt = 0) from eqk x (k := 0) (by omega), show (x = (1 : Int32)) = (x.toInt = 1) from eqk x (k := 1) (by omega)]
  refine ⟨fun z => ?_, fun z => ⟨fun y => ?_, fun y => ?_⟩⟩
  · rw [if_pos (by omega)] at hq; exact hq
  · rw [if_neg (by omega)] at hq; exact hq
  · rw [if_pos (by omega)] at hq; exact hq
theorem s_isBeatX {x : Int32} {σ : Mem} {Q : Int32 → Mem → Prop} (hq : Q (if (0 ≤ x.toInt ∧ x.toInt ≤ 23) then 1 else 0) σ) : wX6_isBeat x σ Q := by
  unfold wX6_isBeat
  rw [ltz, show ((24 : Int32) ≤ x) = ((24 : Int) ≤ x.toInt) from kle x (k := 24) (by omega)]
  refine ⟨fun z => ?_, fun z => ⟨fun y => ?_, fun y => ?_⟩⟩
  · rw [if_neg (by omega)] at hq; exact hq
  · rw [if_neg (by omega)] at hq; exact hq
  · rw [if_pos (by omega)] at hq; exact hq
theorem s_isSheetX {x : Int32} {σ : Mem} {Q : Int32 → Mem → Prop} (hq : Q (if (0 ≤ x.toInt ∧ x.toInt ≤ 3) then 1 else 0) σ) : wX6_isSheet x σ Q := by
  unfold wX6_isSheet
  rw [ltz, show ((4 : Int32) ≤ x) = ((4 : Int) ≤ x.toInt) from kle x (k := 4) (by omega)]
  refine ⟨fun z => ?_, fun z => ⟨fun y => ?_, fun y => ?_⟩⟩
  · rw [if_neg (by omega)] at hq; exact hq
  · rw [if_neg (by omega)] at hq; exact hq
  · rw [if_pos (by omega)] at hq; exact hq
theorem s_isForm {x : Int32} {σ : Mem} {Q : Int32 → Mem → Prop} (hq : Q (if (0 ≤ x.toInt ∧ x.toInt ≤ 2) then 1 else 0) σ) : wX6_isForm x σ Q := by
  unfold wX6_isForm
  rw [ltz, show ((2 : Int32) < x) = ((2 : Int) < x.toInt) from klt x (k := 2) (by omega)]
  refine ⟨fun z => ?_, fun z => ⟨fun y => ?_, fun y => ?_⟩⟩
  · rw [if_neg (by omega)] at hq; exact hq
  · rw [if_neg (by omega)] at hq; exact hq
  · rw [if_pos (by omega)] at hq; exact hq
theorem s_isBeatM {x : Int32} {σ : Mem} {Q : Int32 → Mem → Prop} (hq : Q (if (0 ≤ x.toInt ∧ x.toInt ≤ 23) then 1 else 0) σ) : wX7_isBeat x σ Q := by
  unfold wX7_isBeat
  exact s_in (a := 0) (b := 23) rfl rfl ⟨bzi _, hq⟩
theorem s_isSheetM {x : Int32} {σ : Mem} {Q : Int32 → Mem → Prop} (hq : Q (if (0 ≤ x.toInt ∧ x.toInt ≤ 3) then 1 else 0) σ) : wX7_isSheet x σ Q := by
  unfold wX7_isSheet
  exact s_in (a := 0) (b := 3) rfl rfl ⟨bzi _, hq⟩
theorem s_isDancerX {x : Int32} {n : Nat} {σ : Mem} {Q : Int32 → Mem → Prop} (hn : n < 2 ^ 31) (h : σ 10 4 = nI n) (hq : Q (if (0 ≤ x.toInt ∧ x.toInt < n) then 1 else 0) σ) : wX6_isDancer x σ Q := by
  unfold wX6_isDancer
  rw [ltz, h, kle x hn]
  refine ⟨fun z => ?_, fun z => ⟨fun y => ?_, fun y => ?_⟩⟩
  · rw [if_neg (by omega)] at hq; exact hq
  · rw [if_neg (by omega)] at hq; exact hq
  · rw [if_pos (by omega)] at hq; exact hq
theorem toI_m1 {n : Nat} (hn : n < 2 ^ 31) : (nI n - 1).toInt = (n : Int) - 1 := by
  by_cases h : n = 0
  · subst h; decide
  · rw [nI_m1 (by omega), toI (by omega)]; omega
theorem s_isDancerM {x : Int32} {n : Nat} {σ : Mem} {Q : Int32 → Mem → Prop} (hn : n < 2 ^ 31) (h : σ 0 7 = nI n) (hq : Q (if (0 ≤ x.toInt ∧ x.toInt < n) then 1 else 0) σ) : wX7_isDancer x σ Q := by
  unfold wX7_isDancer
  refine s_in (a := 0) (b := (n : Int) - 1) rfl ?_ ⟨bzi _, ?_⟩
  · rw [Int32.toInt_toInt64, h, toI_m1 hn]
  · by_cases c : (0 ≤ x.toInt ∧ x.toInt < n)
    · rw [if_pos (by omega)]; rw [if_pos c] at hq; exact hq
    · rw [if_neg (by omega)]; rw [if_neg c] at hq; exact hq
