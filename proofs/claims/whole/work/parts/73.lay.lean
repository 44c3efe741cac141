theorem nI_sub {a b : Nat} (h : b ≤ a) : nI a - nI b = nI (a - b) := by
  have e : nI a = nI (a - b) + nI b := by rw [show a = (a - b) + b by omega]; exact (nI_add _ _).symm.trans (by rw [show a - b + b - b = a - b by omega]) 
  rw [e, Int32.add_sub_cancel]
def holdsA (n : Nat) (x1 x2 : Int32) : Bool := decide (0 ≤ x1.toInt ∧ 0 ≤ x2.toInt ∧ x1.toInt + x2.toInt ≤ n)
theorem s_holds {b0 n : Nat} {x1 x2 : Int32} {σ : Mem} {Q : Int32 → Mem → Prop} (h : σ b0 2 = nI n) (hn : n ≤ 60) (hq : Q (if holdsA n x1 x2 = true then 1 else 0) σ) : wX4_holds b0 x1 x2 σ Q := by
  have ev : (holdsA n x1 x2 = true) = (0 ≤ x1.toInt ∧ 0 ≤ x2.toInt ∧ x1.toInt + x2.toInt ≤ n) := by simp [holdsA]
  unfold wX4_holds
  rw [h, ltz, ltz, klt x1 (by omega)]
  refine ⟨fun z => ?_, fun z => ⟨fun y => ?_, fun y => ⟨fun w => ?_, fun w => ?_⟩⟩⟩
  · rw [if_neg (by rw [ev]; omega)] at hq; exact hq
  · rw [if_neg (by rw [ev]; omega)] at hq; exact hq
  · rw [if_neg (by rw [ev]; omega)] at hq; exact hq
  · obtain ⟨j, hj, rfl⟩ := nat_of (x := x1) (by omega) (n := n) (by omega) (by omega)
    rw [nI_sub hj, klt x2 (by omega)]
    rw [toI (by omega)] at ev
    refine ⟨fun v => ?_, fun v => ?_⟩
    · rw [if_neg (by rw [ev]; omega)] at hq; exact hq
    · rw [if_pos (by rw [ev]; omega)] at hq; exact hq
def fnd (α : DD) (β : Mem) (s : Nat) (x2 x3 : Int32) : Nat := if β 4 s = -1 then 1 else if β 4 s = x2 then (if (0 ≤ x3.toInt ∧ x3.toInt < α 8 s) then 0 else 2) else 3
theorem fnd_ok {α : DD} {β : Mem} {s : Nat} {x2 x3 : Int32} (h : fnd α β s x2 x3 = 0) : β 4 s = x2 ∧ 0 ≤ x3.toInt ∧ x3.toInt < α 8 s := by
  unfold fnd at h
  split at h
  · omega
  · split at h
    · rename_i e
      split at h
      · rename_i e2; exact ⟨e, e2⟩
      · omega
    · omega
theorem fnd_no {α : DD} {β : Mem} {s : Nat} {x2 x3 : Int32} (h : ¬ fnd α β s x2 x3 = 0) : fnd α β s x2 x3 = 1 ∨ fnd α β s x2 x3 = 2 ∨ fnd α β s x2 x3 = 3 := by
  unfold fnd at h ⊢
  split
  · exact Or.inl rfl
  · rename_i e
    rw [if_neg e] at h
    split
    · rename_i e2
      rw [if_pos e2] at h
      split
      · rename_i e3; rw [if_pos e3] at h; exact absurd rfl h
      · exact Or.inr (Or.inl rfl)
    · exact Or.inr (Or.inr rfl)
theorem s_findingOf {α : DD} {β : Mem} {s : Nat} {x2 x3 : Int32} {σ : Mem} {Q : Int32 → Mem → Prop} (hs : s < 4) (hO : OkA α β) (hX : IX σ α β) (hq : Q (nI (fnd α β s x2 x3)) σ) : wX6_findingOf (nI s) x2 x3 σ Q := by
  obtain ⟨q1, q2, q3⟩ := hX.1.2.2.2.2.2.1 s hs
  have h60 := (hO.2.2.2.2 s hs).1
  unfold wX6_findingOf
  rw [nI_clamp (by omega), q1]
  unfold fnd at hq
  refine ⟨vp_in_nI (by omega) (by omega), fun z => ⟨fun y => ?_, fun y => ?_⟩, fun z => ?_⟩
  · rw [if_neg z, if_pos y] at hq
    refine s_holds q2 h60 ?_
    have e1 : ((1 : Int32)).toInt = 1 := by decide
    have ev : (holdsA (α 8 s) x3 1 = true) = (0 ≤ x3.toInt ∧ x3.toInt < α 8 s) := by
      simp only [holdsA, decide_eq_true_eq, e1]
      apply propext
      omega
    by_cases c : (0 ≤ x3.toInt ∧ x3.toInt < α 8 s)
    · rw [if_pos c] at hq
      rw [if_pos (ev.mpr c), if_neg one_ne]
      exact hq
    · rw [if_neg c] at hq
      rw [if_neg (fun w => c (ev.mp w)), if_pos rfl]
      exact hq
  · rw [if_neg z, if_neg y] at hq; exact hq
  · rw [if_pos z] at hq; exact hq
theorem s_lacks {α : DD} {β : Mem} {s : Nat} {x2 x3 : Int32} {σ : Mem} {Q : Int32 → Mem → Prop} (hs : s < 4) (hO : OkA α β) (hM : IM σ α β) (h0 : fnd α β s x2 x3 = 0 → Q 0 σ) (h1 : ¬ fnd α β s x2 x3 = 0 → ∀ ρ, IM ρ α (um β 5 0 (nI (fnd α β s x2 x3))) → Q (-10 - nI (fnd α β s x2 x3)) ρ) : wX7_lacks (nI s) x2 x3 σ Q := by
  obtain ⟨q1, q2, q3⟩ := hM.2.2.2.2.2.1 s hs
  have h60 := (hO.2.2.2.2 s hs).1
  unfold wX7_lacks
  rw [nI_clamp (by omega), q1, lost_of hO hs]
  unfold fnd at h0 h1
  refine ⟨vp_in_nI (by omega) (by omega), fun z => ⟨vp_in_nI (by omega) (by omega), fun y => ⟨vp_in_nI (by omega) (by omega), ?_⟩, fun y => ?_⟩, fun z => ?_⟩
  · rw [if_neg z, if_pos y] at h0 h1
    refine s_in (a := 0) (b := (α 8 s : Int) - 1) rfl (by rw [Int32.toInt_toInt64, q2, toI_m1 (by omega)]) ?_
    by_cases c : (0 ≤ x3.toInt ∧ x3.toInt < α 8 s)
    · rw [if_pos (by omega)]
      exact ⟨fun w => absurd w one_ne, fun _ => h0 (if_pos c)⟩
    · rw [if_neg (by omega)]
      rw [if_neg c] at h1
      exact ⟨fun _ => s_finds hM (fun ρ hρ => h1 (by omega) ρ hρ), fun w => absurd rfl w⟩
  · rw [if_neg z, if_neg y] at h1
    exact s_finds hM (fun ρ hρ => h1 (by omega) ρ hρ)
  · rw [if_pos (Decidable.not_not.mp z)] at h1
    exact s_finds hM (fun ρ hρ => h1 (by omega) ρ hρ)
def cutI (f v : Int32) : Int32 := if f = 0 then v.toInt8.toInt32 else (if f = (1 : Int32) then v.toInt16.toInt32 else v)
/-- one item laid -/
theorem IX_put {σ s1 : Mem} {α : DD} {β : Mem} {s i : Nat} {v : Int32} (hs : s < 4) (hX : IX σ α β) (e1 : s1 = um σ (54 + 2 * s + 1) i v) : IX s1 α (um β s i v) := by
  refine IX_sh (fun r _ => rfl) hX (fun c h => by rw [e1, um_ne _ _ _ (by omega)]) (fun q hq => ?_) (by rw [um_ne _ _ _ (by omega)])
  obtain ⟨q1, q2, q3⟩ := hX.1.2.2.2.2.2.1 q hq
  refine ⟨?_, ?_, fun j hj => ?_⟩
  · rw [e1, um_ne _ _ _ (by omega), um_ne _ _ _ (by omega)]; exact q1
  · rw [e1, um_ne _ _ _ (by omega)]; exact q2
  · rw [e1, um_any, um_any]
    by_cases c : (q = s ∧ j = i)
    · rw [if_pos c, if_pos ⟨by omega, c.2⟩]
    · rw [if_neg c, if_neg (by omega)]; exact q3 j hj
theorem IM_put {σ s1 : Mem} {α : DD} {β : Mem} {s i : Nat} {v : Int32} (hs : s < 4) (hi : i < 60) (hO : OkA α β) (hM : IM σ α β) (e1 : s1 = um σ 3 (60 * s + i) v) : IM s1 α (um β s i v) := by
  refine IM_sh (fun r _ => rfl) hM (fun c a1 a2 a3 a4 => by rw [e1, um_ne _ _ _ a3]) (fun q hq => ?_) (by rw [um_ne _ _ _ (by omega)])
  obtain ⟨q1, q2, q3⟩ := hM.2.2.2.2.2.1 q hq
  have h60 := (hO.2.2.2.2 q hq).1
  refine ⟨?_, ?_, fun j hj => ?_⟩
  · rw [e1, um_ne _ _ _ (by omega), um_ne _ _ _ (by omega)]; exact q1
  · rw [e1, um_ne _ _ _ (by omega)]; exact q2
  · rw [e1, um_any, um_any]
    by_cases c : (q = s ∧ j = i)
    · rw [if_pos c, if_pos ⟨rfl, by omega⟩]
    · rw [if_neg c, if_neg (by omega)]; exact q3 j hj
theorem OkA_put {α : DD} {β : Mem} {s i : Nat} {v : Int32} (hs : s < 4) (hO : OkA α β) : OkA α (um β s i v) := by
  refine OkA_sh (fun r _ => rfl) hO (fun q hq => ?_)
  rw [um_ne _ _ _ (by omega)]
  exact hO.2.2.2.2 q hq
theorem nz_f {n : Nat} (h : n = 1 ∨ n = 2 ∨ n = 3) : ¬ nI n = (0 : Int32) ∧ ¬ (-10 - nI n : Int32) = 0 := by
  rcases h with rfl | rfl | rfl <;> decide
theorem L33 : okL_33 RR := by
  intro σ τ a1 a2 a3 a4 ⟨α, β, hO, hX, hM⟩
  unfold wX6_lay
  refine s_isSheetX ?_
  by_cases g1 : (0 ≤ a1.toInt ∧ a1.toInt ≤ 3)
  · rw [if_pos g1]
    refine ⟨fun z => absurd z one_ne, fun _ => s_isForm ?_⟩
    by_cases g2 : (0 ≤ a2.toInt ∧ a2.toInt ≤ 2)
    · rw [if_pos g2]
      refine ⟨fun _ => ?_, fun z => absurd z one_ne⟩
      obtain ⟨s, hs, rfl⟩ := nat_of g1.1 (n := 3) g1.2 (by omega)
      have hs4 : s < 4 := by omega
      have h60 := (hO.2.2.2.2 s hs4).1
      refine s_findingOf hs4 hO hX ?_
      have mod : ∀ (Q : Int32 → Mem → Prop), wX7_lacks (nI s) a2 a3 τ (fun r26 σ26 => (((r26 = 0) → (wX7_cut a2 a4 σ26 (fun r52 σ52 => (vp_in (((60 : Int32) * nI s) + a3) 240 ∧ (∀ σ55 : Mem, σ55 = um σ52 3 ((((60 : Int32) * nI s) + a3)).toNatClampNeg r52 → (Q (1 : Int32) σ55)))))) ∧ ((¬ r26 = 0) → (Q r26 σ26)))) → wX7_lay (nI s) a2 a3 a4 τ Q := fun Q h => by
        unfold wX7_lay
        refine s_isSheetM ?_
        rw [if_pos g1]
        refine ⟨fun z => absurd z one_ne, fun _ => s_in (a := 0) (b := 2) rfl rfl ?_⟩
        rw [if_pos g2]
        exact ⟨fun _ => h, fun z => absurd z one_ne⟩
      by_cases c : fnd α β s a2 a3 = 0
      · rw [c]
        refine ⟨fun _ => ?_, fun z => absurd rfl z⟩
        obtain ⟨w1, w2, w3⟩ := fnd_ok c
        obtain ⟨j, hj, rfl⟩ := nat_of (x := a3) w2 (n := α 8 s - 1) (by omega) (by omega)
        rw [toI (by omega)] at w3
        refine ⟨vp_in_nI (by omega) (by omega), ?_⟩
        unfold wX4_put
        rw [nI_clamp (by omega), nI_clamp (by omega), (hX.1.2.2.2.2.2.1 s hs4).1]
        refine ⟨vp_in_nI (by omega) (by omega), ?_⟩
        intro s1 e1
        refine mod _ (s_lacks hs4 hO hM (fun _ => ⟨fun _ => ?_, fun z => absurd rfl z⟩) (fun y => absurd c y))
        unfold wX7_cut
        have ea : (60 : Int32) * nI s + nI j = nI (60 * s + j) := by
          rw [show (60 : Int32) * nI s = nI (60 * s) from pk_mul 60 s]; exact nI_add _ _
        rw [ea, nI_clamp (by omega)]
        refine ⟨vp_in_nI (by omega) (by omega), ?_⟩
        intro t1 f1
        rw [w1] at e1
        exact ⟨rfl, α, um β s j _, OkA_put hs4 hO, IX_put hs4 hX e1, IM_put hs4 (by omega) hO hM f1⟩
      · have nz := nz_f (fnd_no c)
        refine ⟨fun z => absurd z nz.1, fun _ => s_found hX (fun ρ hρ => mod _ (s_lacks hs4 hO hM (fun y => absurd y c) (fun _ ω hω => ⟨fun z => absurd z nz.2, fun _ => ⟨rfl, _, _, OkA_found hO, hρ, hω⟩⟩)))⟩
    · rw [if_neg g2]
      refine ⟨fun z => absurd rfl z, fun _ => ?_⟩
      unfold wX7_lay
      refine s_isSheetM ?_
      rw [if_pos g1]
      refine ⟨fun z => absurd z one_ne, fun _ => s_in (a := 0) (b := 2) rfl rfl ?_⟩
      rw [if_neg g2]
      exact ⟨fun z => absurd rfl z, fun _ => ⟨rfl, α, β, hO, hX, hM⟩⟩
  · rw [if_neg g1]
    refine ⟨fun _ => ?_, fun z => absurd rfl z⟩
    unfold wX7_lay
    refine s_isSheetM ?_
    rw [if_neg g1]
    exact ⟨fun _ => ⟨rfl, α, β, hO, hX, hM⟩, fun z => absurd rfl z⟩
theorem L34 : okL_34 RR := by
  intro σ τ a1 a2 a3 ⟨α, β, hO, hX, hM⟩
  unfold wX6_get
  refine s_isSheetX ?_
  by_cases g1 : (0 ≤ a1.toInt ∧ a1.toInt ≤ 3)
  · rw [if_pos g1]
    refine ⟨fun z => absurd z one_ne, fun _ => s_isForm ?_⟩
    by_cases g2 : (0 ≤ a2.toInt ∧ a2.toInt ≤ 2)
    · rw [if_pos g2]
      refine ⟨fun _ => ?_, fun z => absurd z one_ne⟩
      obtain ⟨s, hs, rfl⟩ := nat_of g1.1 (n := 3) g1.2 (by omega)
      have hs4 : s < 4 := by omega
      have h60 := (hO.2.2.2.2 s hs4).1
      refine s_findingOf hs4 hO hX ?_
      have mod : ∀ (Q : Int32 → Mem → Prop), wX7_lacks (nI s) a2 a3 τ (fun r23 σ23 => (((r23 = 0) → (vp_in (((60 : Int32) * nI s) + a3) 240 ∧ (Q (σ23 3 ((((60 : Int32) * nI s) + a3)).toNatClampNeg) σ23))) ∧ ((¬ r23 = 0) → (Q (-2147483648 : Int32) σ23)))) → wX7_get (nI s) a2 a3 τ Q := fun Q h => by
        unfold wX7_get
        refine s_isSheetM ?_
        rw [if_pos g1]
        refine ⟨fun z => absurd z one_ne, fun _ => s_in (a := 0) (b := 2) rfl rfl ?_⟩
        rw [if_pos g2]
        exact ⟨fun z => absurd z one_ne, fun _ => h⟩
      by_cases c : fnd α β s a2 a3 = 0
      · rw [c]
        refine ⟨fun _ => ?_, fun z => absurd rfl z⟩
        obtain ⟨w1, w2, w3⟩ := fnd_ok c
        obtain ⟨j, hj, rfl⟩ := nat_of (x := a3) w2 (n := α 8 s - 1) (by omega) (by omega)
        rw [toI (by omega)] at w3
        rw [nI_clamp (by omega), nI_clamp (by omega), (hX.1.2.2.2.2.2.1 s hs4).2.2 j (by omega)]
        refine ⟨vp_in_nI (by omega) (by omega), vp_in_nI (by omega) (by omega), ?_⟩
        refine mod _ (s_lacks hs4 hO hM (fun _ => ⟨fun _ => ?_, fun z => absurd rfl z⟩) (fun y => absurd c y))
        have ea : (60 : Int32) * nI s + nI j = nI (60 * s + j) := by
          rw [show (60 : Int32) * nI s = nI (60 * s) from pk_mul 60 s]; exact nI_add _ _
        rw [ea, nI_clamp (by omega), (hM.2.2.2.2.2.1 s hs4).2.2 j (by omega)]
        exact ⟨vp_in_nI (by omega) (by omega), rfl, α, β, hO, hX, hM⟩
      · have nz := nz_f (fnd_no c)
        refine ⟨fun z => absurd z nz.1, fun _ => ?_⟩
        have := s_found (x := nI (fnd α β s a2 a3)) (Q := fun _ ρ => IX ρ α (um β 5 0 (nI (fnd α β s a2 a3)))) hX (fun ρ hρ => hρ)
        unfold wX6_found at this
        intro s1 e1
        have hρ := this s1 e1
        exact mod _ (s_lacks hs4 hO hM (fun y => absurd y c) (fun _ ω hω => ⟨fun z => absurd z nz.2, fun _ => ⟨rfl, _, _, OkA_found hO, hρ, hω⟩⟩))
    · rw [if_neg g2]
      refine ⟨fun z => absurd rfl z, fun _ => ?_⟩
      unfold wX7_get
      refine s_isSheetM ?_
      rw [if_pos g1]
      refine ⟨fun z => absurd z one_ne, fun _ => s_in (a := 0) (b := 2) rfl rfl ?_⟩
      rw [if_neg g2]
      exact ⟨fun _ => ⟨rfl, α, β, hO, hX, hM⟩, fun z => absurd rfl z⟩
  · rw [if_neg g1]
    refine ⟨fun _ => ?_, fun z => absurd rfl z⟩
    unfold wX7_get
    refine s_isSheetM ?_
    rw [if_neg g1]
    exact ⟨fun _ => ⟨rfl, α, β, hO, hX, hM⟩, fun z => absurd rfl z⟩
