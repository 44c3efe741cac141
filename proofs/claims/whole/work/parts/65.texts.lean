theorem flt0_cong {α α' : DD} (h0 : α' 0 = α 0) (h2 : α' 2 0 = α 2 0) : flt0 α' = flt0 α := by unfold flt0 bad0; rw [h0, h2]
theorem nDa_cong {α α' : DD} (h0 : α' 0 = α 0) (h2 : α' 2 0 = α 2 0) : nDa α' = nDa α := by unfold nDa bad0; rw [h0, h2]
theorem flt1_cong {α α' : DD} (h0 : α' 1 = α 1) (h2 : α' 2 1 = α 2 1) : flt1 α' = flt1 α := by unfold flt1 bad1; rw [h0, h2]
theorem stA_cong {α α' : DD} (h0 : α' 1 = α 1) (h2 : α' 2 1 = α 2 1) : stA α' = stA α := by funext b; unfold stA bad1; rw [h0, h2]
theorem iA_cong {α α' : DD} (h0 : α' 0 = α 0) (h20 : α' 2 0 = α 2 0) (h1 : α' 1 = α 1) (h21 : α' 2 1 = α 2 1) (h22 : α' 2 2 = α 2 2) : iA α' = iA α := by
  funext r i
  simp only [iA, h0, stA_cong h1 h21, nDa_cong h0 h20, h22]
theorem s_takeText0 {α α' : DD} {β : Mem} {σ0 σ : Mem} {Q : Mem → Prop} (hC : ∀ r, r ≠ 0 → r ≠ 2 → α' r = α r) (h2 : ∀ i, i ≠ 0 → α' 2 i = α 2 i) (hn : α' 2 0 ≤ 31) (hB : ∀ i, i < α' 2 0 → α' 0 i ≤ 255) (hT : TOX σ0 α β) (hc : ∀ c, c ≠ 2 → c ≠ 3 → σ c = σ0 c) (g0 : σ 2 0 = nI 31) (g2 : σ 2 2 = nI (α' 2 0)) (gb : ∀ i, i < α' 2 0 → σ 3 i = nI (α' 0 i))
    (hQ : ∀ τ, IX τ α' β → τ 2 2 = nI (α' 2 0) → Q τ) : wX6_takeText (nI 0) σ Q := by
  unfold wX6_takeText
  refine ⟨fun z => absurd rfl z, fun _ => ⟨vp_in_nI (by omega) (by omega), vp_in_nI (by omega) (by omega), ?_⟩⟩
  have e0 : 2 + 2 * (nI 0).toNatClampNeg = 2 := by decide
  simp only [e0]
  refine s_takeDancers (by omega) hn hB g2 gb (fun τ f1 f2 f3 f4 => ?_)
  intro τ2 ht2
  have c2 : ∀ c, c ≠ 2 → τ2 c = τ c := fun c h => by rw [ht2, um_ne _ _ _ h]
  have t2 : ∀ j, j ≠ 3 → τ2 2 j = τ 2 j := fun j hj => by rw [ht2, um_nei _ _ hj]
  obtain ⟨⟨x1, x2⟩, e, k, c, s, z, l⟩ := hT
  have E1 := hC 1 (by omega) (by omega)
  have s4 : stA α' = stA α := stA_cong E1 (h2 1 (by omega))
  have f15 : ∀ c, c ≠ 10 → c ≠ 11 → c ≠ 12 → c ≠ 13 → c ≠ 2 → c ≠ 3 → τ2 c = σ0 c := fun c h1 h2 h3 h4 h5 h6 => by rw [c2 c h5, f1 c h1 h2 h3 h4, hc c h5 h6]
  have T : TOX τ2 α' β := by
    refine ⟨⟨⟨?_, ?_, ?_, ?_⟩, ?_, ?_, ?_, ?_⟩, ?_, ⟨?_, ?_, ?_, ?_, ?_⟩, ?_, ?_, ?_, ?_⟩
    · rw [t2 0 (by omega), f1 2 (by omega) (by omega) (by omega) (by omega), g0]
    · rw [t2 2 (by omega), f1 2 (by omega) (by omega) (by omega) (by omega), g2]
    · rw [ht2, um_at]
    · rw [c2 3 (by omega), f1 3 (by omega) (by omega) (by omega) (by omega)]; exact gb
    · rw [f15 4 (by omega) (by omega) (by omega) (by omega) (by omega) (by omega)]; exact x2.1
    · rw [f15 4 (by omega) (by omega) (by omega) (by omega) (by omega) (by omega), h2 1 (by omega)]; exact x2.2.1
    · rw [f15 4 (by omega) (by omega) (by omega) (by omega) (by omega) (by omega), flt1_cong E1 (h2 1 (by omega))]; exact x2.2.2.1
    · rw [f15 5 (by omega) (by omega) (by omega) (by omega) (by omega) (by omega), h2 1 (by omega), E1]; exact x2.2.2.2
    · unfold EVX
      rw [f15 6 (by omega) (by omega) (by omega) (by omega) (by omega) (by omega), f15 7 (by omega) (by omega) (by omega) (by omega) (by omega) (by omega), f15 8 (by omega) (by omega) (by omega) (by omega) (by omega) (by omega), f15 9 (by omega) (by omega) (by omega) (by omega) (by omega) (by omega), h2 3 (by omega), hC 3 (by omega) (by omega), hC 4 (by omega) (by omega), hC 5 (by omega) (by omega)]
      exact e
    · rw [c2 10 (by omega), f3, iA30]
    · rw [c2 10 (by omega), f2 5 (by omega), hc 10 (by omega) (by omega), k.2.1, iA31, iA31, h2 2 (by omega)]
    · rw [c2 10 (by omega), f2 6 (by omega), hc 10 (by omega) (by omega), k.2.2.1, h2 3 (by omega)]
    · intro i hi
      rw [iA30] at hi
      rw [c2 (10 + 1) (by omega), c2 (10 + 2) (by omega), iA0, iA1]
      exact ⟨(f4 i hi).1, (f4 i hi).2.1⟩
    · intro b hb
      rw [f15 (10 + 4) (by omega) (by omega) (by omega) (by omega) (by omega) (by omega), k.2.2.2.2 b hb, iA2, iA2, s4]
    · intro d hd
      rw [c2 13 (by omega)]
      exact (f4 d hd).2.2
    · unfold SEX
      rw [f15 50 (by omega) (by omega) (by omega) (by omega) (by omega) (by omega), f15 51 (by omega) (by omega) (by omega) (by omega) (by omega) (by omega), f15 52 (by omega) (by omega) (by omega) (by omega) (by omega) (by omega), h2 4 (by omega), hC 6 (by omega) (by omega), hC 7 (by omega) (by omega)]
      exact s
    · intro i hi
      rw [f15 (54 + 2 * i) (by omega) (by omega) (by omega) (by omega) (by omega) (by omega), f15 (54 + 2 * i + 1) (by omega) (by omega) (by omega) (by omega) (by omega) (by omega), hC 8 (by omega) (by omega)]
      exact z i hi
    · rw [f15 0 (by omega) (by omega) (by omega) (by omega) (by omega) (by omega)]; exact l
  refine s_forgetOut T (fun ρ hi hf => hQ ρ hi ?_)
  rw [hf 2 (by omega)]
  exact T.1.1.2.1
theorem s_takeText1 {α α' : DD} {β : Mem} {σ0 σ : Mem} {Q : Mem → Prop} (hC : ∀ r, r ≠ 1 → r ≠ 2 → α' r = α r) (h2 : ∀ i, i ≠ 1 → α' 2 i = α 2 i) (hn : α' 2 1 ≤ 24) (hB : ∀ i, i < α' 2 1 → α' 1 i ≤ 255) (hT : TOX σ0 α β) (hc : ∀ c, c ≠ 4 → c ≠ 5 → σ c = σ0 c) (g0 : σ 4 0 = nI 24) (g2 : σ 4 2 = nI (α' 2 1)) (gb : ∀ i, i < α' 2 1 → σ 5 i = nI (α' 1 i))
    (hQ : ∀ τ, IX τ α' β → τ 4 2 = nI (α' 2 1) → Q τ) : wX6_takeText (nI 1) σ Q := by
  unfold wX6_takeText
  refine ⟨fun _ => ⟨vp_in_nI (by omega) (by omega), vp_in_nI (by omega) (by omega), ?_⟩, fun z => absurd z (by decide)⟩
  have e0 : 2 + 2 * (nI 1).toNatClampNeg = 4 := by decide
  simp only [e0]
  refine s_takeSteps (by omega) hn hB g2 gb (fun τ f1 f4 => ?_)
  intro τ2 ht2
  have c2 : ∀ c, c ≠ 4 → τ2 c = τ c := fun c h => by rw [ht2, um_ne _ _ _ h]
  have t2 : ∀ j, j ≠ 3 → τ2 4 j = τ 4 j := fun j hj => by rw [ht2, um_nei _ _ hj]
  obtain ⟨⟨x1, x2⟩, e, k, c, s, z, l⟩ := hT
  have E1 := hC 0 (by omega) (by omega)
  have s4 : nDa α' = nDa α := nDa_cong E1 (h2 0 (by omega))
  have f15 : ∀ c, c ≠ 14 → c ≠ 4 → c ≠ 5 → τ2 c = σ0 c := fun c h1 h2 h3 => by rw [c2 c h2, f1 c h1, hc c h2 h3]
  have T : TOX τ2 α' β := by
    refine ⟨⟨⟨?_, ?_, ?_, ?_⟩, ?_, ?_, ?_, ?_⟩, ?_, ⟨?_, ?_, ?_, ?_, ?_⟩, ?_, ?_, ?_, ?_⟩
    · rw [f15 2 (by omega) (by omega) (by omega)]; exact x1.1
    · rw [f15 2 (by omega) (by omega) (by omega), h2 0 (by omega)]; exact x1.2.1
    · rw [f15 2 (by omega) (by omega) (by omega), flt0_cong E1 (h2 0 (by omega))]; exact x1.2.2.1
    · rw [f15 3 (by omega) (by omega) (by omega), h2 0 (by omega), E1]; exact x1.2.2.2
    · rw [t2 0 (by omega), f1 4 (by omega), g0]
    · rw [t2 2 (by omega), f1 4 (by omega), g2]
    · rw [ht2, um_at]
    · rw [c2 5 (by omega), f1 5 (by omega)]; exact gb
    · unfold EVX
      rw [f15 6 (by omega) (by omega) (by omega), f15 7 (by omega) (by omega) (by omega), f15 8 (by omega) (by omega) (by omega), f15 9 (by omega) (by omega) (by omega), h2 3 (by omega), hC 3 (by omega) (by omega), hC 4 (by omega) (by omega), hC 5 (by omega) (by omega)]
      exact e
    · rw [f15 10 (by omega) (by omega) (by omega), k.1, iA30, iA30, s4]
    · rw [f15 10 (by omega) (by omega) (by omega), k.2.1, iA31, iA31, h2 2 (by omega)]
    · rw [f15 10 (by omega) (by omega) (by omega), k.2.2.1, h2 3 (by omega)]
    · intro i hi
      rw [iA30, s4] at hi
      rw [f15 (10 + 1) (by omega) (by omega) (by omega), f15 (10 + 2) (by omega) (by omega) (by omega), iA0, iA1, E1]
      have := k.2.2.2.1 i (by rw [iA30]; exact hi)
      rw [iA0, iA1] at this
      exact this
    · intro b hb
      rw [c2 (10 + 4) (by omega), iA2]
      exact f4 b hb
    · intro d hd
      rw [s4] at hd
      rw [f15 13 (by omega) (by omega) (by omega), E1]
      exact c d hd
    · unfold SEX
      rw [f15 50 (by omega) (by omega) (by omega), f15 51 (by omega) (by omega) (by omega), f15 52 (by omega) (by omega) (by omega), h2 4 (by omega), hC 6 (by omega) (by omega), hC 7 (by omega) (by omega)]
      exact s
    · intro i hi
      rw [f15 (54 + 2 * i) (by omega) (by omega) (by omega), f15 (54 + 2 * i + 1) (by omega) (by omega) (by omega), hC 8 (by omega) (by omega)]
      exact z i hi
    · rw [f15 0 (by omega) (by omega) (by omega)]; exact l
  refine s_forgetOut T (fun ρ hi hf => hQ ρ hi ?_)
  rw [hf 4 (by omega)]
  exact T.1.2.2.1
/-- the model after a change of a text -/
theorem IM_text {α α' : DD} {β : Mem} {σ τ : Mem} (hC : ∀ r, r ≠ 0 → r ≠ 1 → r ≠ 2 → α' r = α r) (h2 : ∀ i, i ≠ 0 → i ≠ 1 → α' 2 i = α 2 i) (hI : IM σ α β) (hc : ∀ c, c ≠ 5 → c ≠ 6 → τ c = σ c) (hT : TXM τ α') : IM τ α' β := by
  obtain ⟨t, l, e, g, s, z, f⟩ := hI
  refine ⟨hT, ?_, ?_, ?_, ?_, ?_, ?_⟩
  · rw [hc 0 (by omega) (by omega), h2 2 (by omega) (by omega)]; exact l
  · unfold EVM; rw [hc 9 (by omega) (by omega), hc 0 (by omega) (by omega), h2 3 (by omega) (by omega), hC 3 (by omega) (by omega) (by omega), hC 4 (by omega) (by omega) (by omega), hC 5 (by omega) (by omega) (by omega)]; exact e
  · rw [hc 0 (by omega) (by omega)]; exact g
  · unfold SEM; rw [hc 23 (by omega) (by omega), hc 0 (by omega) (by omega), h2 4 (by omega) (by omega), hC 6 (by omega) (by omega) (by omega), hC 7 (by omega) (by omega) (by omega)]; exact s
  · unfold SHM; rw [hc 1 (by omega) (by omega), hc 2 (by omega) (by omega), hc 3 (by omega) (by omega), hC 8 (by omega) (by omega) (by omega)]; exact z
  · rw [hc 0 (by omega) (by omega)]; exact f
theorem OkA_text {α α' : DD} {β : Mem} (hC : ∀ r, r ≠ 0 → r ≠ 1 → r ≠ 2 → α' r = α r) (h2 : ∀ i, i ≠ 0 → i ≠ 1 → α' 2 i = α 2 i) (hO : OkA α β) (h : α' 2 0 ≤ 31 ∧ α' 2 1 ≤ 24 ∧ (∀ i, i < α' 2 0 → α' 0 i ≤ 255) ∧ ∀ i, i < α' 2 1 → α' 1 i ≤ 255) : OkA α' β := by
  obtain ⟨_, o2, o3, o4, o5⟩ := hO
  refine ⟨h, ?_, ?_, ?_, ?_⟩
  · rw [h2 2 (by omega) (by omega)]; exact o2
  · rw [h2 3 (by omega) (by omega), hC 3 (by omega) (by omega) (by omega), hC 4 (by omega) (by omega) (by omega), hC 5 (by omega) (by omega) (by omega)]; exact o3
  · rw [h2 4 (by omega) (by omega), hC 6 (by omega) (by omega) (by omega), hC 7 (by omega) (by omega) (by omega)]; exact o4
  · rw [hC 8 (by omega) (by omega) (by omega)]; exact o5
