def bz (v : Int32) : Prop := narrow .boolean (.int v) = .int v
theorem swT (x : Int32) (lo n : Nat) (h : decide (lo + n < 2 ^ 31) = true) : (∃ j, j < n ∧ x = nI (lo + j)) ∨ x.toInt < (lo : Int) ∨ (lo : Int) + n - 1 < x.toInt := by
  have h := of_decide_eq_true h
  by_cases h1 : x.toInt < (lo : Int)
  · exact Or.inr (Or.inl h1)
  · by_cases h2 : (lo : Int) + n - 1 < x.toInt
    · exact Or.inr (Or.inr h2)
    · refine Or.inl ⟨x.toInt.toNat - lo, by omega, ?_⟩
      apply Int32.toInt_inj.mp
      rw [nI_toInt (by omega)]
      omega
theorem ncp_1 : Cond.native arraycopyName ∈ TB := TB_of 475 (by decide +kernel) rfl
theorem ncp_2 : Cond.static arraycopyName ∈ TB := TB_of 474 (by decide +kernel) rfl
theorem ncp_3 : Cond.initialized "java/lang/System" ∈ TB := TB_of 94 (by decide +kernel) rfl
theorem lcp_X0_93 : Cond.methodLink RX0 93 arraycopyName ∈ TB := TB_of 473 (by decide +kernel) rfl
theorem lcp_X3_34 : Cond.methodLink RX3 34 arraycopyName ∈ TB := TB_of 561 (by decide +kernel) rfl
theorem lcp_X6_238 : Cond.methodLink RX6 238 arraycopyName ∈ TB := TB_of 619 (by decide +kernel) rfl
theorem mini : Cond.initialized "java/lang/Math" ∈ TB := TB_of 86 (by decide +kernel) rfl
theorem mmax_1 : Cond.static Lib.Math.max.name ∈ TB := TB_of 630 (by decide +kernel) rfl
theorem mmax_2 : Cond.code Lib.Math.max.name Lib.Math.max.code 2 (some .int) ∈ TB := TB_of 631 (by decide +kernel) rfl
theorem lm_X6_397 : Cond.methodLink RX6 397 Lib.Math.max.name ∈ TB := TB_of 629 (by decide +kernel) rfl
theorem mmin_1 : Cond.static Lib.Math.min.name ∈ TB := TB_of 112 (by decide +kernel) rfl
theorem mmin_2 : Cond.code Lib.Math.min.name Lib.Math.min.code 2 (some .int) ∈ TB := TB_of 113 (by decide +kernel) rfl
theorem lm_X5_19 : Cond.methodLink RX5 19 Lib.Math.min.name ∈ TB := TB_of 111 (by decide +kernel) rfl
theorem lm_X6_284 : Cond.methodLink RX6 284 Lib.Math.min.name ∈ TB := TB_of 690 (by decide +kernel) rfl
