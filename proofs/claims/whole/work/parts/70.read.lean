theorem lez (x : Int32) : (0 ≤ x) = (0 ≤ x.toInt) := propext Int32.le_iff_toInt_le
theorem form_of {α : DD} {β : Mem} {s : Nat} (hO : OkA α β) (hs : s < 4) : (β 4 s = -1 ∨ ∃ f, f ≤ 2 ∧ β 4 s = nI f) := (hO.2.2.2.2 s hs).2
theorem lost_of {α : DD} {β : Mem} {s : Nat} (hO : OkA α β) (hs : s < 4) : (0 ≤ β 4 s) = (¬ β 4 s = -1) := by
  rcases form_of hO hs with h | ⟨f, hf, h⟩
  · rw [h]; decide
  · rw [h, lez, toI (by omega)]
    apply propext
    refine ⟨fun _ z => ?_, fun _ => by omega⟩
    have := toI (n := f) (by omega)
    rw [z] at this
    have e : ((-1 : Int32)).toInt = -1 := by decide
    omega
theorem OkA_found {α : DD} {β : Mem} {x : Int32} (hO : OkA α β) : OkA α (um β 5 0 x) := by
  obtain ⟨o1, o2, o3, o4, o5⟩ := hO
  refine ⟨o1, o2, o3, o4, fun s hs => ?_⟩
  rw [um_ne _ _ _ (by omega)]
  exact o5 s hs
theorem s_found {x : Int32} {α : DD} {β : Mem} {σ : Mem} {Q : Int32 → Mem → Prop} (hX : IX σ α β) (hQ : ∀ ρ, IX ρ α (um β 5 0 x) → Q (-10 - x) ρ) : wX6_found x σ Q := by
  unfold wX6_found
  intro s1 e1
  have cc : ∀ c, c ≠ 0 → s1 c = σ c := fun c h => by rw [e1, um_ne _ _ _ h]
  have c0 : ∀ j, j ≠ 14 → s1 0 j = σ 0 j := fun j h => by rw [e1, um_nei _ _ h]
  obtain ⟨⟨t, e, k, c, s, z, l⟩, c1, c2, c3⟩ := hX
  refine hQ s1 ⟨⟨?_, ?_, ?_, ?_, ?_, ?_, ?_⟩, ?_, ?_, ?_⟩
  · unfold TXX; rw [cc 2 (by omega), cc 3 (by omega), cc 4 (by omega), cc 5 (by omega)]; exact t
  · unfold EVX; rw [cc 6 (by omega), cc 7 (by omega), cc 8 (by omega), cc 9 (by omega)]; exact e
  · unfold SKX; rw [cc 10 (by omega), cc (10 + 1) (by omega), cc (10 + 2) (by omega), cc (10 + 4) (by omega)]; exact k
  · unfold COX; rw [cc 13 (by omega)]; exact c
  · unfold SEX; rw [cc 50 (by omega), cc 51 (by omega), cc 52 (by omega)]; exact s
  · intro i hi
    rw [cc (54 + 2 * i) (by omega), cc (54 + 2 * i + 1) (by omega), um_ne _ _ _ (by omega), um_ne _ _ _ (by omega)]
    exact z i hi
  · rw [e1, um_at, um_at]
  · rw [c0 11 (by omega)]
    rcases c1 with c1 | c1
    · exact Or.inl c1
    · exact Or.inr (DOK_same c1 (fun c h => cc c (by omega)))
  · rw [c0 12 (by omega), cc 63 (by omega)]; exact c2
  · rw [c0 13 (by omega), cc 62 (by omega)]; exact c3
theorem IM_found {x : Int32} {α : DD} {β : Mem} {σ s1 : Mem} (hM : IM σ α β) (e1 : s1 = um σ 0 4 x) : IM s1 α (um β 5 0 x) := by
  have cc : ∀ c, c ≠ 0 → s1 c = σ c := fun c h => by rw [e1, um_ne _ _ _ h]
  have c0 : ∀ j, j ≠ 4 → s1 0 j = σ 0 j := fun j h => by rw [e1, um_nei _ _ h]
  obtain ⟨t, l, e, g, s, z, f⟩ := hM
  refine ⟨?_, ?_, ?_, ?_, ?_, ?_, ?_⟩
  · unfold TXM; rw [cc 6 (by omega), cc 5 (by omega)]; exact t
  · rw [c0 11 (by omega)]; exact l
  · unfold EVM; rw [cc 9 (by omega), c0 12 (by omega)]; exact e
  · rw [c0 14 (by omega)]; exact g
  · unfold SEM; rw [cc 23 (by omega), c0 33 (by omega)]; exact s
  · intro i hi
    rw [cc 1 (by omega), cc 2 (by omega), cc 3 (by omega), um_ne _ _ _ (by omega), um_ne _ _ _ (by omega)]
    exact z i hi
  · rw [e1, um_at, um_at]
theorem s_finds {x : Int32} {α : DD} {β : Mem} {σ : Mem} {Q : Int32 → Mem → Prop} (hM : IM σ α β) (hQ : ∀ ρ, IM ρ α (um β 5 0 x) → Q (-10 - x) ρ) : wX7_finds x σ Q := by
  unfold wX7_finds
  intro s1 e1
  exact hQ s1 (IM_found hM e1)
/-! read -/
def rd (β : Mem) (s : Nat) : Nat → Nat → DD → Nat × DD
  | 0, n, α => (n, α)
  | f + 1, n, α => if (3 * n + 3 ≤ α 8 s ∧ 0 ≤ (evr α (β s (3 * n)) (β s (3 * n + 1)) (β s (3 * n + 2))).toInt) then rd β s f (n + 1) (evN α (β s (3 * n)) (β s (3 * n + 1)) (β s (3 * n + 2))) else (n, α)
theorem evN_neg {α : DD} {x1 x2 x3 : Int32} (h8 : α 2 3 ≤ 8) (h : ¬ 0 ≤ (evr α x1 x2 x3).toInt) : evN α x1 x2 x3 = α := by
  unfold evN
  split
  · rename_i g
    exfalso
    apply h
    unfold evr
    rw [if_pos g.1, if_pos g.2, toI (by omega)]
    omega
  · rfl
theorem OkA_rd {β : Mem} {s : Nat} : ∀ (f n : Nat) (α : DD), OkA α β → OkA (rd β s f n α).2 β
  | 0, _, _, h => h
  | f + 1, n, α, h => by
    unfold rd
    split
    · exact OkA_rd f (n + 1) _ (OkA_evN h)
    · exact h
theorem evN_8 {α : DD} {x1 x2 x3 : Int32} : evN α x1 x2 x3 8 = α 8 := by
  unfold evN
  split
  · exact evA_o (by omega) (by omega) (by omega) (by omega)
  · rfl
theorem s_readX {β : Mem} {s : Nat} {Q : Int32 → Mem → Prop} (hs : s < 4) : ∀ (f n : Nat) (α : DD) (σ : Mem), OkA α β → IX σ α β → 21 ≤ n + f → n ≤ 21 → (∀ ρ, IX ρ (rd β s f n α).2 β → Q (nI (rd β s f n α).1) ρ) → wX6_read_36 Q (f + 1) (54 + 2 * s) (nI n) (nI (3 * n)) σ
  | 0, n, α, σ, hO, hX, h1, h2, hQ => by
    have h60 := (hO.2.2.2.2 s hs).1
    rw [wX6_read_36, (hX.1.2.2.2.2.2.1 s hs).2.1, show nI (3 * n) + (3 : Int32) = nI (3 * n + 3) from nI_add _ 3, i_lt (by omega) (by omega)]
    exact ⟨fun _ => hQ σ hX, fun z => absurd z (by omega)⟩
  | f + 1, n, α, σ, hO, hX, h1, h2, hQ => by
    have h60 := (hO.2.2.2.2 s hs).1
    obtain ⟨_, z2, z3⟩ := hX.1.2.2.2.2.2.1 s hs
    unfold rd at hQ
    by_cases c : 3 * n + 3 ≤ α 8 s
    · have k0 := z3 (3 * n) (by omega)
      have k1 := z3 (3 * n + 1) (by omega)
      have k2 := z3 (3 * n + 2) (by omega)
      rw [wX6_read_36, z2, show nI (3 * n) + (3 : Int32) = nI (3 * (n + 1)) from nI_add _ 3, i_lt (by omega) (by omega), i1, i2, nI_clamp (by omega), nI_clamp (by omega), nI_clamp (by omega), k0, k1, k2, i1]
      refine ⟨fun z => absurd z (by omega), fun _ => ⟨vp_in_nI (by omega) (by omega), vp_in_nI (by omega) (by omega), vp_in_nI (by omega) (by omega), s_eventX hO hX (fun ρ hρ => ?_)⟩⟩
      rw [lez]
      refine ⟨fun y => ?_, fun y => ?_⟩
      · rw [if_pos ⟨c, y⟩] at hQ
        exact s_readX hs f (n + 1) _ ρ (OkA_evN hO) hρ (by omega) (by omega) hQ
      · rw [if_neg (fun w => y w.2)] at hQ
        rw [evN_neg hO.ev y] at hρ
        exact hQ ρ hρ
    · rw [wX6_read_36, z2, show nI (3 * n) + (3 : Int32) = nI (3 * n + 3) from nI_add _ 3, i_lt (by omega) (by omega)]
      rw [if_neg (fun w => c w.1)] at hQ
      exact ⟨fun _ => hQ σ hX, fun z => absurd z (by omega)⟩
theorem s_readM {β : Mem} {s : Nat} {Q : Int32 → Mem → Prop} (hs : s < 4) : ∀ (f n : Nat) (α : DD) (σ : Mem), OkA α β → IM σ α β → 21 ≤ n + f → n ≤ 21 → (∀ ρ, IM ρ (rd β s f n α).2 β → Q (nI (rd β s f n α).1) ρ) → wX7_read_29 Q (f + 2) (nI s) (nI n) 1 σ
  | 0, n, α, σ, hO, hX, h1, h2, hQ => by
    have h60 := (hO.2.2.2.2 s hs).1
    rw [wX7_read_29, nI_clamp (by omega), (hX.2.2.2.2.2.1 s hs).2.1, i3, show nI (3 * n) + (3 : Int32) = nI (3 * n + 3) from nI_add _ 3, i_lt (by omega) (by omega)]
    exact ⟨fun z => absurd z one_ne, fun _ => ⟨vp_in_nI (by omega) (by omega), fun _ => hQ σ hX, fun z => absurd z (by omega)⟩⟩
  | f + 1, n, α, σ, hO, hX, h1, h2, hQ => by
    have h60 := (hO.2.2.2.2 s hs).1
    obtain ⟨_, z2, z3⟩ := hX.2.2.2.2.2.1 s hs
    unfold rd at hQ
    by_cases c : 3 * n + 3 ≤ α 8 s
    · have k0 := z3 (3 * n) (by omega)
      have k1 := z3 (3 * n + 1) (by omega)
      have k2 := z3 (3 * n + 2) (by omega)
      rw [wX7_read_29, nI_clamp (by omega), z2, i3, show nI (3 * n) + (3 : Int32) = nI (3 * (n + 1)) from nI_add _ 3, i_lt (by omega) (by omega)]
      refine ⟨fun z => absurd z one_ne, fun _ => ⟨vp_in_nI (by omega) (by omega), fun z => absurd z (by omega), fun _ => ?_⟩⟩
      intro y hy
      have ey : y = nI (60 * s + 3 * n) := by rw [hy, show (60 : Int32) * nI s = nI (60 * s) from pk_mul 60 s]; exact nI_add _ _
      subst ey
      rw [i1, i2, nI_clamp (by omega), nI_clamp (by omega), nI_clamp (by omega), k0, show 60 * s + 3 * n + 1 = 60 * s + (3 * n + 1) by omega, show 60 * s + 3 * n + 2 = 60 * s + (3 * n + 2) by omega, k1, k2]
      refine ⟨vp_in_nI (by omega) (by omega), vp_in_nI (by omega) (by omega), vp_in_nI (by omega) (by omega), s_eventM hO hX (fun ρ hρ => ?_)⟩
      intro w hw v hv
      by_cases g : 0 ≤ (evr α (β s (3 * n)) (β s (3 * n + 1)) (β s (3 * n + 2))).toInt
      · rw [if_neg (by rw [ltz]; omega)] at hw
        subst hw
        rw [if_neg one_ne, i1] at hv
        subst hv
        rw [if_pos ⟨c, g⟩] at hQ
        exact s_readM hs f (n + 1) _ ρ (OkA_evN hO) hρ (by omega) (by omega) hQ
      · rw [if_pos (by rw [ltz]; omega)] at hw
        subst hw
        rw [if_pos rfl] at hv
        have ev : v = nI n := by rw [hv]; exact nI_add n 0
        subst ev
        rw [if_neg (fun w => g w.2)] at hQ
        rw [evN_neg hO.ev g] at hρ
        rw [wX7_read_29]
        exact ⟨fun _ => hQ ρ hρ, fun z => absurd rfl z⟩
    · rw [wX7_read_29, nI_clamp (by omega), z2, i3, show nI (3 * n) + (3 : Int32) = nI (3 * n + 3) from nI_add _ 3, i_lt (by omega) (by omega)]
      rw [if_neg (fun w => c w.1)] at hQ
      exact ⟨fun z => absurd z one_ne, fun _ => ⟨vp_in_nI (by omega) (by omega), fun _ => hQ σ hX, fun z => absurd z (by omega)⟩⟩
theorem L9 : okL_9 RR := by
  intro σ τ a1 ⟨α, β, hO, hX, hM⟩
  unfold wX6_read
  refine s_isSheetX ?_
  by_cases g1 : (0 ≤ a1.toInt ∧ a1.toInt ≤ 3)
  · rw [if_pos g1]
    refine ⟨fun _ => ?_, fun z => absurd z one_ne⟩
    obtain ⟨s, hs, rfl⟩ := nat_of g1.1 (n := 3) g1.2 (by omega)
    have hs4 : s < 4 := by omega
    have hl := lost_of hO hs4
    rw [nI_clamp (by omega), (hX.1.2.2.2.2.2.1 s hs4).1]
    refine ⟨vp_in_nI (by omega) (by omega), fun z => ⟨_, s_readX hs4 21 0 α σ hO hX (by omega) (by omega) (fun ρ hρ => ?_)⟩, fun z => s_found hX (fun ρ hρ => ?_)⟩
    · unfold wX7_read
      refine s_isSheetM ?_
      rw [if_pos g1]
      refine ⟨fun _ => ?_, fun z => absurd z one_ne⟩
      rw [nI_clamp (by omega), (hM.2.2.2.2.2.1 s hs4).1, hl]
      exact ⟨vp_in_nI (by omega) (by omega), fun _ => ⟨_, s_readM hs4 21 0 α τ hO hM (by omega) (by omega) (fun ω hω => ⟨rfl, _, β, OkA_rd _ _ _ hO, hρ, hω⟩)⟩, fun y => absurd z y⟩
    · unfold wX7_read
      refine s_isSheetM ?_
      rw [if_pos g1]
      refine ⟨fun _ => ?_, fun z => absurd z one_ne⟩
      rw [nI_clamp (by omega), (hM.2.2.2.2.2.1 s hs4).1, hl]
      exact ⟨vp_in_nI (by omega) (by omega), fun y => absurd z y, fun _ => s_finds hM (fun ω hω => ⟨rfl, _, _, OkA_found hO, hρ, hω⟩)⟩
  · rw [if_neg g1]
    refine ⟨fun z => absurd rfl z, fun _ => ?_⟩
    unfold wX7_read
    refine s_isSheetM ?_
    rw [if_neg g1]
    exact ⟨fun z => absurd rfl z, fun _ => ⟨rfl, α, β, hO, hX, hM⟩⟩
