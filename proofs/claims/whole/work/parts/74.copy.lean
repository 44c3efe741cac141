theorem i64add (x y : Int32) : (x.toInt64 + y.toInt64).toInt = x.toInt + y.toInt := by
  have h1 := Int32.le_toInt x
  have h2 := Int32.toInt_lt x
  have h3 := Int32.le_toInt y
  have h4 := Int32.toInt_lt y
  rw [Int64.toInt_add, Int32.toInt_toInt64, Int32.toInt_toInt64]
  exact Int.bmod_eq_of_le (by omega) (by omega)
def cpB (β : Mem) (s t i j n : Nat) : Mem := fun c k => if (c = t ∧ j ≤ k ∧ k < j + n) then β s (i + (k - j)) else β c k
theorem s_copyM {α : DD} {β : Mem} {s t i j n : Nat} {τ : Mem} {Q : Int32 → Mem → Prop} (hs : s < 4) (ht : t < 4) (hO : OkA α β) (hM : IM τ α β) (h1 : i + n ≤ α 8 s) (h2 : j + n ≤ α 8 t) (hQ : ∀ ρ, IM ρ α (cpB β s t i j n) → Q 1 ρ) : ∃ N, wX7_copy_120 Q N (nI s) (nI i) (nI t) (nI j) (nI n) (0 : Int32) τ := by
  have hs60 := (hO.2.2.2.2 s hs).1
  have ht60 := (hO.2.2.2.2 t ht).1
  have e1 : (60 : Int32) * nI s + nI i = nI (60 * s + i) := by rw [show (60 : Int32) * nI s = nI (60 * s) from pk_mul 60 s]; exact nI_add _ _
  have e2 : (60 : Int32) * nI t + nI j = nI (60 * t + j) := by rw [show (60 : Int32) * nI t = nI (60 * t) from pk_mul 60 t]; exact nI_add _ _
  have key := up_loop (fun N a => ∀ ω, (∀ c, c ≠ 4 → ω c = τ c) → (∀ k, k < a → ω 4 k = β s (i + k)) → wX7_copy_120 Q N (nI s) (nI i) (nI t) (nI j) (nI n) (nI a) ω) n ?_ ?_ 0 (Nat.zero_le _)
  · obtain ⟨N, hN⟩ := key
    exact ⟨N, hN τ (fun _ _ => rfl) (fun k hk => absurd hk (Nat.not_lt_zero _))⟩
  · intro N ω w1 w2
    rw [wX7_copy_120, i_le (by omega) (by omega)]
    refine ⟨fun _ => ?_, fun z => absurd (Nat.le_refl _) z⟩
    have key2 := up_loop (fun N a => ∀ μ, (∀ c, c ≠ 3 → μ c = ω c) → (∀ k, μ 3 k = if (60 * t + j ≤ k ∧ k < 60 * t + j + a) then ω 4 (k - (60 * t + j)) else ω 3 k) → wX7_copy_157 Q N (nI t) (nI j) (nI n) (nI a) μ) n ?_ ?_ 0 (Nat.zero_le _)
    · obtain ⟨N, hN⟩ := key2
      exact ⟨N, hN ω (fun _ _ => rfl) (fun k => by rw [if_neg (by omega)])⟩
    · intro N μ v1 v2
      rw [wX7_copy_157, i_le (by omega) (by omega)]
      refine ⟨fun _ => hQ μ ?_, fun z => absurd (Nat.le_refl _) z⟩
      refine IM_sh (fun r _ => rfl) hM (fun c a1 a2 a3 a4 => by rw [v1 c a3, w1 c a4]) (fun q hq => ?_) (by unfold cpB; rw [if_neg (by omega)])
      obtain ⟨q1, q2, q3⟩ := hM.2.2.2.2.2.1 q hq
      have q60 := (hO.2.2.2.2 q hq).1
      refine ⟨?_, ?_, fun k hk => ?_⟩
      · rw [v1 1 (by omega), w1 1 (by omega)]; unfold cpB; rw [if_neg (by omega)]; exact q1
      · rw [v1 2 (by omega), w1 2 (by omega)]; exact q2
      · rw [v2]
        unfold cpB
        by_cases c : (q = t ∧ j ≤ k ∧ k < j + n)
        · rw [if_pos c, if_pos (by omega), w2 _ (by omega)]
          congr 1
          omega
        · rw [if_neg c, if_neg (by omega), w1 3 (by omega)]
          exact q3 k hk
    · intro N a ha ih μ v1 v2
      rw [wX7_copy_157, i_le (by omega) (by omega), e2, show nI (60 * t + j) + nI a = nI (60 * t + j + a) from nI_add _ _, nI_clamp (by omega), nI_clamp (by omega), i1]
      refine ⟨fun z => absurd z (by omega), fun _ => ⟨vp_in_nI (by omega) (by omega), vp_in_nI (by omega) (by omega), ?_⟩⟩
      intro μ2 h2
      refine ih μ2 (fun c hc => by rw [h2, um_ne _ _ _ hc, v1 c hc]) (fun k => ?_)
      rw [h2, um_any]
      by_cases c : k = 60 * t + j + a
      · rw [if_pos ⟨rfl, c⟩, if_pos (by omega), v1 4 (by omega)]
        congr 1
        omega
      · rw [if_neg (fun y => c y.2), v2]
        by_cases c2 : (60 * t + j ≤ k ∧ k < 60 * t + j + a)
        · rw [if_pos c2, if_pos (by omega)]
        · rw [if_neg c2, if_neg (by omega)]
  · intro N a ha ih ω w1 w2
    rw [wX7_copy_120, i_le (by omega) (by omega), e1, show nI (60 * s + i) + nI a = nI (60 * s + i + a) from nI_add _ _, nI_clamp (by omega), nI_clamp (by omega), i1]
    refine ⟨fun z => absurd z (by omega), fun _ => ⟨vp_in_nI (by omega) (by omega), vp_in_nI (by omega) (by omega), ?_⟩⟩
    intro ω2 h2
    refine ih ω2 (fun c hc => by rw [h2, um_ne _ _ _ hc, w1 c hc]) (fun k hk => ?_)
    by_cases c : k = a
    · subst c
      rw [h2, um_at, w1 3 (by omega), show 60 * s + i + k = 60 * s + (i + k) by omega]
      exact (hM.2.2.2.2.2.1 s hs).2.2 (i + k) (by omega)
    · rw [h2, um_nei _ _ c]
      exact w2 k (by omega)
theorem IX_copy {α : DD} {β : Mem} {s t i j n : Nat} {σ : Mem} (hs : s < 4) (ht : t < 4) (hO : OkA α β) (hX : IX σ α β) (h1 : i + n ≤ α 8 s) (h2 : j + n ≤ α 8 t) : IX (cpM σ (54 + 2 * s + 1) (54 + 2 * t + 1) i j n) α (cpB β s t i j n) := by
  refine IX_sh (fun r _ => rfl) hX (fun c h => by rw [cpM_ne _ (by omega)]) (fun q hq => ?_) (by unfold cpB; rw [if_neg (by omega)])
  obtain ⟨q1, q2, q3⟩ := hX.1.2.2.2.2.2.1 q hq
  refine ⟨?_, ?_, fun k hk => ?_⟩
  · rw [cpM_ne _ (by omega)]; unfold cpB; rw [if_neg (by omega)]; exact q1
  · rw [cpM_ne _ (by omega)]; exact q2
  · unfold cpB
    by_cases c : q = t
    · subst c
      rw [cpM_at]
      by_cases c2 : (j ≤ k ∧ k < j + n)
      · rw [if_pos c2, if_pos ⟨rfl, c2⟩]
        exact (hX.1.2.2.2.2.2.1 s hs).2.2 _ (by omega)
      · rw [if_neg c2, if_neg (fun y => c2 y.2)]
        exact q3 k hk
    · rw [cpM_ne _ (by omega), if_neg (fun y => c y.1)]
      exact q3 k hk
theorem OkA_copy {α : DD} {β : Mem} {s t i j n : Nat} (ht : t < 4) (hO : OkA α β) : OkA α (cpB β s t i j n) := by
  refine OkA_sh (fun r _ => rfl) hO (fun q hq => ?_)
  have : cpB β s t i j n 4 q = β 4 q := by unfold cpB; rw [if_neg (by omega)]
  rw [this]
  exact hO.2.2.2.2 q hq
