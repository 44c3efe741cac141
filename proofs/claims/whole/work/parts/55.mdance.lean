def RGM (σ : Mem) (D : DD) (nd : Nat) : Prop := RG (σ 10) (σ 12) (σ 13) (σ 14) (σ 15) (σ 17) (σ 16) (σ 0 20) (σ 0 26) (σ 0 27) D nd
def EVM (σ : Mem) (ne : Nat) (ek eb en : Nat → Nat) : Prop := ne ≤ 8 ∧ σ 0 12 = nI ne ∧ ∀ e, e < ne → σ 9 (3 * e) = nI (ek e) ∧ σ 9 (3 * e + 1) = nI (eb e) ∧ σ 9 (3 * e + 2) = nI (en e) ∧ ek e ≤ 2 ∧ eb e < 24 ∧ en e < 8
theorem i3 (n : Nat) : (3 : Int32) * nI n = nI (3 * n) := pk_mul 3 n
theorem iadd (n k : Nat) : nI n + (OfNat.ofNat k : Int32) = nI (n + k) := nI_add n k
set_option maxHeartbeats 1000000 in
theorem sM_toldIn {k b ne : Nat} {act : Nat → Bool} {ek eb en : Nat → Nat} {σ : Mem} {Q : Int32 → Mem → Prop} (hk : k < 3) (hb : b < 24) (hE : EVM σ ne ek eb en) (hm : ∀ e, e < ne → bt (σ 0 14) e = !act e)
    (hQ : ∀ r, (∀ i, i < 32 → bt r i = bkOf act ek eb en ne k b i) → Q r σ) : wX7_toldIn (nI k) (nI b) σ Q := by
  obtain ⟨hne, h12, hev⟩ := hE
  have key := up_loop (fun n j => ∀ r, (∀ i, i < 32 → bt r i = bkOf act ek eb en j k b i) → wX7_toldIn_5 Q n (nI k) (nI b) r (nI j) σ) ne ?_ ?_ 0 (Nat.zero_le _)
  · obtain ⟨n, hn⟩ := key
    exact ⟨n, hn 0 (fun i hi => b_0 i)⟩
  · intro n r hr
    rw [wX7_toldIn_5, h12, i_le (by omega) (by omega)]
    exact ⟨fun _ => hQ r hr, fun z => absurd (Nat.le_refl _) z⟩
  · intro n j hj ih r hr
    obtain ⟨e1, e2, e3, e4, e5, e6⟩ := hev j hj
    have c0 : (nI (3 * j)).toNatClampNeg = 3 * j := nI_clamp (by omega)
    have c1 : (nI (3 * j + 1)).toNatClampNeg = 3 * j + 1 := nI_clamp (by omega)
    have c2 : (nI (3 * j + 2)).toNatClampNeg = 3 * j + 2 := nI_clamp (by omega)
    have a2 : nI (3 * j) + (2 : Int32) = nI (3 * j + 2) := nI_add (3 * j) 2
    have no : ∀ x, x = r ||| (0 : Int32) → (act j && (24 * ek j + eb j == 24 * k + b)) = false → wX7_toldIn_5 Q n (nI k) (nI b) x (nI (j + 1)) σ := fun x hx hz => by
      refine ih x (fun i hi => ?_)
      rw [hx, b_or, b_0, hr i hi]
      simp only [bkOf, anyN, hz]
      simp
    rw [wX7_toldIn_5, h12, i_le (by omega) (by omega)]
    simp only [i3, i1, a2, c0, c1, c2, e1, e2, e3]
    rw [i_eq (a := ek j) (b := k) (by omega) (by omega), i_eq (a := eb j) (b := b) (by omega) (by omega)]
    refine ⟨fun z => absurd z (by omega), fun _ => ⟨vp_in_nI (by omega) (by omega), fun z x hx => no x hx ?_, fun z => ⟨vp_in_nI (by omega) (by omega), fun y x hx => no x hx ?_, fun y => s_isIn (by omega) ?_⟩⟩⟩
    · have : ¬ 24 * ek j + eb j = 24 * k + b := by omega
      simp [this]
    · have : ¬ 24 * ek j + eb j = 24 * k + b := by omega
      simp [this]
    · rw [hm j hj]
      cases ha : act j
      · refine ⟨fun _ x hx => no x hx (by simp [ha]), fun z => absurd z (by decide)⟩
      · refine ⟨fun z => absurd rfl z, fun _ => ⟨vp_in_nI (by omega) (by omega), fun x hx => ih x (fun i hi => ?_)⟩⟩
        rw [hx, b_or, hr i hi, e3, bt_one (by omega) hi]
        have e7 : (24 * ek j + eb j == 24 * k + b) = true := by simp; omega
        by_cases e8 : i = en j
        · subst e8
          simp [bkOf, anyN, ha, e7]
        · have e9 : ¬ en j = i := fun q => e8 q.symm
          simp [bkOf, anyN, e8, e9]
theorem sM_meets {nd a c : Nat} {D : DD} {σ : Mem} {Q : Int32 → Mem → Prop} (h8 : nd ≤ 8) (ha : a < nd) (hc : c < nd) (h12 : ∀ i, i < nd → D 0 i < 12 ∧ D 1 i ≤ 1 ∧ D 9 i < 12) (hp : ∀ i, i < nd → σ 10 i = nI (D 0 i)) (hw : ∀ i, i < nd → σ 12 i = nI (D 1 i)) (hbf : ∀ i, i < nd → σ 11 i = nI (D 9 i))
    (hq : Q (if (¬ D 1 a = D 1 c ∧ ¬ D 9 a = D 9 c ∧ ((D 0 a = D 9 c ∧ D 0 c = D 9 a) ∨ D 0 a = D 0 c)) then 1 else 0) σ) : wX7_meets (nI a) (nI c) σ Q := by
  have ca : (nI a).toNatClampNeg = a := nI_clamp (by omega)
  have cc : (nI c).toNatClampNeg = c := nI_clamp (by omega)
  have va : vp_in (nI a) 8 := vp_in_nI (by omega) (by omega)
  have vc : vp_in (nI c) 8 := vp_in_nI (by omega) (by omega)
  have k1 := h12 a ha
  have k2 := h12 c hc
  have tail : ∀ y0 : Int32, (y0 = 0 ∧ ¬ (D 0 a = D 9 c ∧ D 0 c = D 9 a)) ∨ (¬ y0 = 0 ∧ (D 0 a = D 9 c ∧ D 0 c = D 9 a)) → wX7_meets_35 Q (nI a) (nI c) y0 σ := by
    intro y0 hy
    unfold wX7_meets_35
    simp only [ca, cc, hp a ha, hp c hc, hbf a ha, hbf c hc, hw a ha, hw c hc]
    rw [i_eq (a := D 9 a) (b := D 9 c) (by omega) (by omega), i_eq (a := D 0 a) (b := D 0 c) (by omega) (by omega), i_eq (a := D 1 a) (b := D 1 c) (by omega) (by omega)]
    refine ⟨va, vc, fun z1 => ?_, fun z1 => ⟨va, vc, fun z2 => ?_, fun z2 => ⟨fun z3 => ?_, fun z3 => ⟨va, vc, fun z4 => ?_, fun z4 => ?_⟩⟩⟩⟩
    · rw [if_neg (fun z => z.1 z1)] at hq; exact hq
    · rw [if_neg (fun z => z.2.1 z2)] at hq; exact hq
    · have hy2 := hy.resolve_left (fun q => z3 q.1)
      rw [if_pos ⟨z1, z2, Or.inl hy2.2⟩] at hq; exact hq
    · have hy2 := hy.resolve_right (fun q => q.1 z3)
      rw [if_neg (fun z => z.2.2.elim hy2.2 z4)] at hq; exact hq
    · rw [if_pos ⟨z1, z2, Or.inr z4⟩] at hq; exact hq
  unfold wX7_meets
  simp only [ca, cc, hp a ha, hp c hc, hbf a ha, hbf c hc]
  rw [i_eq (a := D 0 a) (b := D 9 c) (by omega) (by omega), i_eq (a := D 0 c) (b := D 9 a) (by omega) (by omega)]
  refine ⟨va, vc, fun z => tail 0 (Or.inl ⟨rfl, fun q => z q.1⟩), fun z => ⟨vc, va, fun y => tail 0 (Or.inl ⟨rfl, fun q => y q.2⟩), fun y => tail 1 (Or.inr ⟨by decide, z, y⟩)⟩⟩
def FrW (σ τ : Mem) : Prop := (∀ c, c ≠ 0 → c ≠ 13 → c ≠ 14 → c ≠ 15 → c ≠ 16 → c ≠ 17 → τ c = σ c) ∧ ∀ j, j ≠ 20 → j ≠ 26 → j ≠ 27 → τ 0 j = σ 0 j
theorem FrW.rf {σ : Mem} : FrW σ σ := ⟨fun _ _ _ _ _ _ _ => rfl, fun _ _ _ _ => rfl⟩
theorem addm1 (x : Int32) : x + (-1) = x - 1 := by
  have h : x - 1 = x + (-1 : Int32) := Int32.sub_eq_add_neg x 1
  rw [h]
theorem sM_takes {o u : Nat} {x : Int32} {σ : Mem} {Q : Mem → Prop} (ho : o < 8) (hu : u < 8) (hne : o ≠ u) (hQ : ∀ τ, τ 13 = upd (upd (σ 13) o (σ 13 o + x)) u (σ 13 u + x) → (∀ c, c ≠ 13 → τ c = σ c) → Q τ) : wX7_takes (nI o) (nI u) x σ Q := by
  have co : (nI o).toNatClampNeg = o := nI_clamp (by omega)
  have cu : (nI u).toNatClampNeg = u := nI_clamp (by omega)
  have vo : vp_in (nI o) 8 := vp_in_nI (by omega) (by omega)
  have vu : vp_in (nI u) 8 := vp_in_nI (by omega) (by omega)
  have hne2 : ¬ u = o := fun z => hne z.symm
  unfold wX7_takes
  simp only [co, cu]
  refine ⟨vo, vo, fun s1 h1 => ⟨vu, vu, fun t h2 => hQ t ?_ (fun c hc => by rw [h2, um_ne _ _ _ hc, h1, um_ne _ _ _ hc])⟩⟩
  have k : s1 13 u = σ 13 u := by rw [h1, um_nei _ _ hne2]
  rw [h2, um_row, k, h1, um_row]
set_option maxHeartbeats 1000000 in
theorem sM_w83 {nd len b o u : Nat} {D : DD} {σ : Mem} {Q : Mem → Prop} (h8 : nd ≤ 8) (h30 : len ≤ 30) (hW : WF D nd len) (ho : o < nd) (hu : u < nd) (hne : o ≠ u) (hR : RGM σ D nd)
    (hq : ∀ τ, RGM τ (if (0 < D 2 o ∧ 0 < D 2 u) then weaveD D b o u else D) nd → FrW σ τ → Q τ) : wX7_weaves_83 Q (nI b) (nI o) (nI u) σ := by
  have e1 := (hR.1 o ho).2.2
  have e2 := (hR.1 u hu).2.2
  have e3 := hR.2.2.1
  have co : (nI o).toNatClampNeg = o := nI_clamp (by omega)
  have cu : (nI u).toNatClampNeg = u := nI_clamp (by omega)
  have l1 := hW.left h8 h30 ho
  have l2 := hW.left h8 h30 hu
  unfold wX7_weaves_83
  simp only [co, cu]
  refine ⟨vp_in_nI (by omega) (by omega), fun hz => ?_, fun hz => ?_⟩
  · rw [e1, nle0 (by omega)] at hz
    refine hq σ ?_ FrW.rf
    rw [if_neg (by omega)]
    exact hR
  · rw [e1, nle0 (by omega)] at hz
    refine ⟨vp_in_nI (by omega) (by omega), fun hy => ?_, fun hy => ?_⟩
    · rw [e2, nle0 (by omega)] at hy
      refine hq σ ?_ FrW.rf
      rw [if_neg (by omega)]
      exact hR
    · rw [e2, nle0 (by omega)] at hy
      have hon := hW.room h8 h30 ho hu hne (by omega) (by omega)
      have con : (nI (D 4 0)).toNatClampNeg = D 4 0 := nI_clamp (by omega)
      have vin : vp_in (nI (D 4 0)) 120 := vp_in_nI hon (by omega)
      refine ⟨by rw [e3]; exact vin, fun s1 h1 => ?_⟩
      have f1 : s1 0 20 = nI (D 4 0) := by rw [h1, um_ne _ _ _ (by omega)]; exact e3
      refine ⟨by rw [f1]; exact vin, fun s2 h2 => ?_⟩
      have f2 : s2 0 20 = nI (D 4 0) := by rw [h2, um_ne _ _ _ (by omega)]; exact f1
      refine ⟨vp_in_nI (by omega) (by omega), by rw [f2]; exact vin, fun s3 h3 => ?_⟩
      have f3 : s3 0 20 = nI (D 4 0) := by rw [h3, um_ne _ _ _ (by omega)]; exact f2
      refine ⟨by rw [f3]; exact vin, fun s4 h4 s5 h5 s6 h6 => ?_⟩
      refine sM_takes (by omega) (by omega) hne (fun t t13 tc => ?_)
      rw [e3, con] at h1
      rw [f1, con] at h2
      rw [f2, con] at h3
      rw [f3, con] at h4
      have key := RG_weave (b := b) hR ho hu hne (by omega) (by omega)
      refine hq t ?_ ⟨fun c k0 k13 k14 k15 k16 k17 => ?_, fun j j1 j2 j3 => ?_⟩
      · rw [if_pos ⟨by omega, by omega⟩]
        have k10 : t 10 = σ 10 := by rw [tc _ (by omega)]; simp [h6, h5, h4, h3, h2, h1, um]
        have k12 : t 12 = σ 12 := by rw [tc _ (by omega)]; simp [h6, h5, h4, h3, h2, h1, um]
        have e13 : s6 13 = σ 13 := by simp [h6, h5, h4, h3, h2, h1, um]
        have k13 : t 13 = upd (upd (σ 13) o (σ 13 o - 1)) u (σ 13 u - 1) := by rw [t13, e13, addm1, addm1]
        have k14 : t 14 = upd (σ 14) (D 4 0) (nI o) := by rw [tc _ (by omega)]; simp [h6, h5, h4, h3, h2, h1, um]
        have k15 : t 15 = upd (σ 15) (D 4 0) (nI u) := by rw [tc _ (by omega)]; simp [h6, h5, h4, h3, h2, h1, um]
        have k17 : t 17 = upd (σ 17) (D 4 0) (nI b) := by rw [tc _ (by omega)]; simp [h6, h5, h4, h3, h2, h1, um]
        have k16 : t 16 = upd (σ 16) (D 4 0) (σ 12 o) := by rw [tc _ (by omega)]; simp [h6, h5, h4, h3, h2, h1, um]
        have k20 : t 0 20 = σ 0 20 + 1 := by rw [tc _ (by omega)]; simp [h6, h5, h4, h3, h2, h1, um, upd]
        have k26 : t 0 26 = σ 0 26 + 1 := by rw [tc _ (by omega)]; simp [h6, h5, h4, h3, h2, h1, um, upd]
        have k27 : t 0 27 = σ 0 27 := by rw [tc _ (by omega)]; simp [h6, h5, h4, h3, h2, h1, um, upd]
        unfold RGM
        rw [k10, k12, k13, k14, k15, k17, k16, k20, k26, k27]
        exact key
      · rw [tc c k13]
        simp [h6, h5, h4, h3, h2, h1, um, k0, k14, k15, k16, k17]
      · rw [tc 0 (by omega)]
        simp [h6, h5, h4, h3, h2, h1, um, upd, j1, j2]
set_option maxHeartbeats 1000000 in
theorem sM_weaves {nd len b o u : Nat} {D : DD} {σ : Mem} {Q : Mem → Prop} (h8 : nd ≤ 8) (h30 : len ≤ 30) (hW : WF D nd len) (ho : o < nd) (hu : u < nd) (hne : o ≠ u) (hR : RGM σ D nd)
    (hq : ∀ τ, RGM τ (crossD D b o u) nd → FrW σ τ → Q τ) : wX7_weaves (nI b) (nI o) (nI u) σ Q := by
  have co : (nI o).toNatClampNeg = o := nI_clamp (by omega)
  have cu : (nI u).toNatClampNeg = u := nI_clamp (by omega)
  have e3 := hR.2.2.1
  have hon := hW.on h8 h30
  have weave : ¬ (0 < D 4 0 ∧ D 5 (D 4 0 - 1) = o ∧ D 6 (D 4 0 - 1) = u ∧ ¬ D 8 (D 4 0 - 1) = D 1 o) → wX7_weaves_83 Q (nI b) (nI o) (nI u) σ := fun hn => by
    refine sM_w83 h8 h30 hW ho hu hne hR (fun τ h1 h2 => hq τ ?_ h2)
    unfold crossD
    rw [if_neg hn]
    exact h1
  unfold wX7_weaves
  intro x4 h4
  simp only [co]
  rw [e3, nle0 (by omega)]
  refine ⟨fun z => weave (by omega), fun hz => ?_⟩
  have e10 : x4 = nI (D 4 0 - 1) := by rw [h4, e3, nI_m1 (by omega)]
  have r2 := hR.2.1 (D 4 0 - 1) (by omega)
  have w2 := hW.2.1 (D 4 0 - 1) (by omega)
  have wo := (hW.1 o ho).2.1
  have c10 : (nI (D 4 0 - 1)).toNatClampNeg = D 4 0 - 1 := nI_clamp (by omega)
  have v10 : vp_in (nI (D 4 0 - 1)) 120 := vp_in_nI (by omega) (by omega)
  rw [e10, c10]
  refine ⟨v10, fun z => ?_, fun z1 => ⟨v10, fun z => ?_, fun z2 => ⟨v10, vp_in_nI (by omega) (by omega), fun z => ?_, fun z3 => ?_⟩⟩⟩
  · rw [r2.1, i_eq (by omega) (by omega)] at z
    exact weave (fun q => z q.2.1)
  · rw [r2.2.1, i_eq (by omega) (by omega)] at z
    exact weave (fun q => z q.2.2.1)
  · rw [r2.2.2.2, (hR.1 o ho).2.1, i_eq (by omega) (by omega)] at z
    exact weave (fun q => q.2.2.2 z)
  · rw [r2.1, i_eq (by omega) (by omega)] at z1
    rw [r2.2.1, i_eq (by omega) (by omega)] at z2
    rw [r2.2.2.2, (hR.1 o ho).2.1, i_eq (by omega) (by omega)] at z3
    intro s1 h1 s2 h2
    refine sM_takes (by omega) (by omega) hne (fun t t13 tc => ?_)
    have key := RG_unwind hR ho hu hne (by omega)
    refine hq t ?_ ⟨fun c k0 k13 k14 k15 k16 k17 => ?_, fun j j1 j2 j3 => ?_⟩
    · unfold crossD
      rw [if_pos ⟨by omega, z1, z2, z3⟩]
      have e13 : s2 13 = σ 13 := by simp [h2, h1, um]
      have k13 : t 13 = upd (upd (σ 13) o (σ 13 o + 1)) u (σ 13 u + 1) := by rw [t13, e13]
      have kk : ∀ c, c ≠ 0 → c ≠ 13 → t c = σ c := fun c a1 a2 => by rw [tc c a2]; simp [h2, h1, um, a1]
      have k20 : t 0 20 = σ 0 20 - 1 := by rw [tc _ (by omega)]; simp [h2, h1, um, upd, e3]
      have k26 : t 0 26 = σ 0 26 := by rw [tc _ (by omega)]; simp [h2, h1, um, upd]
      have k27 : t 0 27 = σ 0 27 + 1 := by rw [tc _ (by omega)]; simp [h2, h1, um, upd]
      unfold RGM
      rw [kk 10 (by omega) (by omega), kk 12 (by omega) (by omega), k13, kk 14 (by omega) (by omega), kk 15 (by omega) (by omega), kk 17 (by omega) (by omega), kk 16 (by omega) (by omega), k20, k26, k27]
      exact key
    · rw [tc c k13]
      simp [h2, h1, um, k0]
    · rw [tc 0 (by omega)]
      simp [h2, h1, um, upd, j1, j3]
