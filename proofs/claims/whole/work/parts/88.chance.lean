/-! chance -/
theorem if0L {k : Nat} (h : k < 2 ^ 31) {A B : Prop} (h1 : k ≠ 0 → A) (h2 : k = 0 → B) : (¬ nI k = (0 : Int32) → A) ∧ (nI k = (0 : Int32) → B) := by
  rw [neq0 h]
  exact ⟨h1, h2⟩
theorem bt_nI {z e : Nat} (hz : z < 2 ^ 32) : bt (nI z) e = z.testBit e := by
  show (nI z).toBitVec.toNat.testBit e = _
  rw [pk_tn hz]
theorem bt_comp {n g e : Nat} (hn : n ≤ 8) (hg : g < 2 ^ n) (he : e < n) : bt (nI (2 ^ n - 1 - g)) e = !bt (nI g) e := by
  have h8 : 2 ^ n ≤ 2 ^ 8 := Nat.pow_le_pow_right (by omega) hn
  rw [bt_nI (by omega), bt_nI (by omega), Nat.sub_sub, Nat.add_comm 1 g, Nat.testBit_two_pow_sub_succ hg, decide_eq_true he, Bool.true_and]
def wN (c z : Nat) : Nat → Nat
  | 0 => 1
  | n + 1 => wN c z n * (if bt (nI z) n = true then c else 16 - c)
def wG (c g : Nat) : Nat → Nat
  | 0 => 1
  | n + 1 => wG c g n * (if bt (nI g) n = true then 16 - c else c)
theorem wN_le {c z : Nat} (hc : c ≤ 16) : ∀ n, wN c z n ≤ 16 ^ n
  | 0 => Nat.le_refl _
  | n + 1 => by
    have ih := wN_le (z := z) hc n
    rw [wN, Nat.pow_succ]
    apply Nat.mul_le_mul ih
    split <;> omega
theorem wG_e {c z g : Nat} : ∀ {n : Nat}, (∀ e, e < n → bt (nI z) e = !bt (nI g) e) → wG c g n = wN c z n
  | 0, _ => rfl
  | n + 1, h => by
    rw [wG, wN, wG_e (fun e he => h e (by omega)), h n (by omega)]
    cases bt (nI g) n <;> simp
def chT (α : DD) (c b z : Nat) : Nat := if bdA α (fun e => bt (nI z) e) b = true then wN c z (α 2 3) else 0
def chA (α : DD) (c b : Nat) : Nat := fb_sm (chT α c b) (2 ^ α 2 3)
def chD (α : DD) : Nat := 16 ^ α 2 3
def chB (α : DD) (c b k : Nat) : Int64 := if k = 0 then lN (chA α c b) / lN (Nat.gcd (chA α c b) (chD α)) else lN (chD α) / lN (Nat.gcd (chA α c b) (chD α))
def chS (α : DD) (x1 x2 x3 : Int32) : Int64 := if (gd x1 17 && gd x2 24 && gd x3 2) = true then chB α (tn x1) (tn x2) (tn x3) else -9223372036854775806
theorem chD_le {α : DD} {β : Mem} (hO : OkA α β) : 1 ≤ chD α ∧ chD α ≤ 4294967296 := by
  have h8 := OkA.ev hO
  unfold chD
  refine ⟨Nat.pow_pos (by omega), ?_⟩
  have : 16 ^ α 2 3 ≤ 16 ^ 8 := Nat.pow_le_pow_right (by omega) h8
  omega
theorem p2_le {α : DD} {β : Mem} (hO : OkA α β) : 1 ≤ 2 ^ α 2 3 ∧ 2 ^ α 2 3 ≤ 256 := by
  have h8 := OkA.ev hO
  refine ⟨Nat.pow_pos (by omega), ?_⟩
  have : 2 ^ α 2 3 ≤ 2 ^ 8 := Nat.pow_le_pow_right (by omega) h8
  omega
theorem chT_le {α : DD} {β : Mem} (hO : OkA α β) {c b z : Nat} (hc : c ≤ 16) : chT α c b z ≤ 4294967296 := by
  have h1 := wN_le (z := z) hc (α 2 3)
  have h2 := (chD_le hO).2
  unfold chD at h2
  unfold chT
  split <;> omega
theorem chS_le {α : DD} {β : Mem} (hO : OkA α β) {c b n : Nat} (hc : c ≤ 16) (hn : n ≤ 256) : fb_sm (chT α c b) n ≤ 1099511627776 := by
  have h1 := fb_sm_bound (f := chT α c b) (c := 4294967296) (n := n) (fun k _ => chT_le hO hc)
  have h2 : n * 4294967296 ≤ 256 * 4294967296 := Nat.mul_le_mul_right _ hn
  omega
theorem gstep (x y : Nat) : Nat.gcd x y = Nat.gcd y (x % y) := by rw [Nat.gcd_comm x y, Nat.gcd_rec y x, Nat.gcd_comm]
theorem l_ge200 {n : Nat} (h : n < 2 ^ 31) : ((200 : Int32) ≤ nI n) = (200 ≤ n) := i_le (a := 200) (by omega) h
theorem leq0 {n : Nat} (h : n < 2 ^ 63) : (lN n = (0 : Int64)) = (n = 0) := propext (pk_lEQ (b := 0) h (by omega))
theorem X_gd {σ : Mem} {Q : Int64 → Mem → Prop} : ∀ (k x y t : Nat), y < 2 ^ k → x < 2 ^ 63 → y < 2 ^ 63 → t + 2 * k + 1 ≤ 200 → Q (lN (Nat.gcd x y)) σ → ∃ N, wX6_greatestDivisor_9 Q N (lN x) (lN y) (nI t) σ
  | 0, x, y, t, hk, hx, hy, ht, hq => by
    have : y = 0 := by omega
    subst this
    rw [Nat.gcd_zero_right] at hq
    refine ⟨0 + 1, ?_⟩
    rw [wX6_greatestDivisor_9, l_ge200 (by omega)]
    exact ⟨fun z => absurd z (by omega), fun _ => ⟨fun _ => hq, fun z => absurd rfl z⟩⟩
  | k + 1, x, y, t, hk, hx, hy, ht, hq => by
    by_cases c : y = 0
    · subst c
      rw [Nat.gcd_zero_right] at hq
      refine ⟨0 + 1, ?_⟩
      rw [wX6_greatestDivisor_9, l_ge200 (by omega)]
      exact ⟨fun z => absurd z (by omega), fun _ => ⟨fun _ => hq, fun z => absurd rfl z⟩⟩
    · have hr : x % y < y := Nat.mod_lt _ (by omega)
      rw [gstep] at hq
      have two : ∃ N, wX6_greatestDivisor_9 Q N (lN y) (lN (x % y)) (nI (t + 1)) σ := by
        by_cases c2 : x % y = 0
        · rw [c2, Nat.gcd_zero_right] at hq
          refine ⟨0 + 1, ?_⟩
          rw [wX6_greatestDivisor_9, l_ge200 (by omega), c2]
          exact ⟨fun z => absurd z (by omega), fun _ => ⟨fun _ => hq, fun z => absurd rfl z⟩⟩
        · have h1 := Nat.div_add_mod y (x % y)
          have h2 : 1 ≤ y / (x % y) := Nat.div_pos (by omega) (by omega)
          have h3 : (x % y) * 1 ≤ (x % y) * (y / (x % y)) := Nat.mul_le_mul_left _ h2
          have h4 : y % (x % y) < x % y := Nat.mod_lt _ (by omega)
          have h5 : 2 ^ (k + 1) = 2 * 2 ^ k := by rw [Nat.pow_succ, Nat.mul_comm]
          rw [gstep] at hq
          obtain ⟨N, hN⟩ := X_gd k (x % y) (y % (x % y)) (t + 1 + 1) (by omega) (by omega) (by omega) (by omega) hq
          refine ⟨N + 1, ?_⟩
          rw [wX6_greatestDivisor_9, l_ge200 (by omega), leq0 (by omega), pk_lRem (by omega) (by omega) (by omega), i1]
          exact ⟨fun z => absurd z (by omega), fun _ => ⟨fun z => absurd z c2, fun _ => ⟨c2, fun w hw => by subst hw; exact hN⟩⟩⟩
      obtain ⟨N, hN⟩ := two
      refine ⟨N + 1, ?_⟩
      rw [wX6_greatestDivisor_9, l_ge200 (by omega), leq0 (by omega), pk_lRem (by omega) (by omega) (by omega), i1]
      exact ⟨fun z => absurd z (by omega), fun _ => ⟨fun z => absurd z c, fun _ => ⟨c, fun w hw => by subst hw; exact hN⟩⟩⟩
theorem M_part0 {X0 X2 : Int64} {K : Int32} {σ : Mem} {Q : Int64 → Mem → Prop} : ∀ (n x y : Nat), y < n → x < 2 ^ 63 → y < 2 ^ 63 → wX7_part_31 Q X0 X2 K (lN (Nat.gcd x y)) σ → ∃ N, wX7_part_6 Q N X0 X2 K (lN x) (lN y) σ
  | 0, x, y, h, _, _, _ => absurd h (by omega)
  | n + 1, x, y, h, hx, hy, hq => by
    by_cases c : y = 0
    · subst c
      rw [Nat.gcd_zero_right] at hq
      refine ⟨0 + 1, ?_⟩
      rw [wX7_part_6]
      exact ⟨fun _ => hq, fun z => absurd rfl z⟩
    · have hr : x % y < y := Nat.mod_lt _ (by omega)
      rw [gstep] at hq
      obtain ⟨N, hN⟩ := M_part0 n y (x % y) (by omega) (by omega) (by omega) hq
      refine ⟨N + 1, ?_⟩
      rw [wX7_part_6, leq0 (by omega), pk_lRem (by omega) (by omega) (by omega)]
      exact ⟨fun z => absurd z c, fun _ => ⟨c, fun w hw => by subst hw; exact hN⟩⟩
theorem evm_e : ∀ n, n < 9 → evm n = nI (2 ^ n - 1) := by decide +kernel
theorem shl_e : ∀ n, n < 9 → (1 : Int32) <<< (nI n &&& 31) = nI (2 ^ n) := by decide +kernel
theorem shlL_e : ∀ n, n < 9 → (1 : Int64) <<< ((nI (4 * n)).toInt64 &&& 63) = lN (16 ^ n) := by decide +kernel
theorem c16 {c : Nat} (hc : c ≤ 16) : ((16 : Int32) - nI c).toInt64 = lN (16 - c) := by
  rw [show (16 : Int32) - nI c = nI (16 - c) from nI_sub hc, nI_l (by omega)]
theorem X_weight {c z : Nat} {α : DD} {β σ : Mem} {Q : Int64 → Mem → Prop} (hO : OkA α β) (hX : IX σ α β) (hc : c ≤ 16) (hq : Q (lN (wN c z (α 2 3))) σ) : wX6_weightOf (nI z) (nI c) σ Q := by
  have h8 := OkA.ev hO
  unfold wX6_weightOf
  have key := up_loop (fun N j => wX6_weightOf_5 Q N (nI z) (nI c) (lN (wN c z j)) (nI j) σ) (α 2 3) ?_ ?_ 0 (Nat.zero_le _)
  · exact key
  · intro N
    rw [wX6_weightOf_5, hX.1.2.1.2.1, i_le (by omega) (by omega)]
    exact ⟨fun _ => hq, fun z => absurd (Nat.le_refl _) z⟩
  · intro N j hj ih
    rw [wX6_weightOf_5, hX.1.2.1.2.1, i_le (by omega) (by omega), i1, c16 hc, nI_l (by omega), lN_mul, lN_mul]
    refine ⟨fun z => absurd z (by omega), fun _ => s_has (by omega) (g_ny (fun w => fun y hy => ?_) (fun w => fun y hy => ?_))⟩
    · rw [wN, if_pos w] at ih
      subst hy
      exact ih
    · rw [wN, if_neg (by rw [w]; decide)] at ih
      subst hy
      exact ih
theorem gcd_pos {α : DD} {β : Mem} (hO : OkA α β) (c b : Nat) : 1 ≤ Nat.gcd (chA α c b) (chD α) ∧ Nat.gcd (chA α c b) (chD α) < 2 ^ 63 := by
  have h := chD_le hO
  refine ⟨Nat.gcd_pos_of_pos_right _ (by omega), ?_⟩
  have := Nat.gcd_le_right (chA α c b) (n := chD α) (by omega)
  omega
set_option maxHeartbeats 1000000 in
theorem X_chance {x1 x2 x3 : Int32} {α : DD} {β σ : Mem} {Q : Int64 → Mem → Prop} (hO : OkA α β) (hX : IX σ α β) (hq : ∀ ρ, IX ρ α β → Q (chS α x1 x2 x3) ρ) : wX6_chance x1 x2 x3 σ Q := by
  have h8 := OkA.ev hO
  obtain ⟨p1, p2⟩ := p2_le hO
  obtain ⟨d1, d2⟩ := chD_le hO
  unfold wX6_chance
  unfold chS at hq
  rw [ltz, show ((16 : Int32) < x1) = ((16 : Int) < x1.toInt) from klt x1 (k := 16) (by omega)]
  have bad : ¬ (0 ≤ x1.toInt ∧ x1.toInt < 17) → Q (-9223372036854775806) σ := fun h => by
    rw [if_neg] at hq
    · exact hq σ hX
    · intro z
      rw [Bool.and_eq_true, Bool.and_eq_true, gd_iff] at z
      exact h z.1.1
  refine ⟨fun z => bad (by omega), fun z => ⟨fun y => bad (by omega), fun y => G_beatX (g_ny (fun g2 => G_twoX (g_yn (fun g3 => ?_) (fun g3 => ?_))) (fun g2 => ?_))⟩⟩
  · have g1 : gd x1 17 = true := by rw [gd_iff]; omega
    rw [g1, g2, g3] at hq
    obtain ⟨c, hc, rfl, e1⟩ := gd_of (by omega) g1
    obtain ⟨b, hb, rfl, e2⟩ := gd_of (by omega) g2
    obtain ⟨k, hk, rfl, e3⟩ := gd_of (by omega) g3
    rw [e1, e2, e3] at hq
    have hq : ∀ ρ, IX ρ α β → Q (chB α c b k) ρ := hq
    have key := up_loop (fun N j => wX6_chance_37 Q N (nI c) (nI b) (nI k) (0 : Int64) (lN (16 ^ j)) (nI j) σ) (α 2 3) ?_ ?_ 0 (Nat.zero_le _)
    · exact key
    · intro N
      rw [wX6_chance_37, hX.1.2.1.2.1, i_le (by omega) (by omega)]
      refine ⟨fun _ => ?_, fun z => absurd (Nat.le_refl _) z⟩
      have key2 := up_loop (fun N z => ∀ σ, IX σ α β → wX6_chance_66 Q N (nI c) (nI b) (nI k) (lN (fb_sm (chT α c b) z)) (lN (chD α)) (nI z) σ) (2 ^ α 2 3) ?_ ?_ 0 (Nat.zero_le _)
      · obtain ⟨N, hN⟩ := key2
        exact ⟨N, hN σ hX⟩
      · intro N ρ r1
        rw [wX6_chance_66, r1.1.2.2.1.2.2.1, evm_e _ (by omega), i_lt (by omega) (by omega)]
        refine ⟨fun _ => ?_, fun z => absurd (by omega) z⟩
        have ha : chA α c b ≤ 1099511627776 := chS_le hO (by omega) p2
        obtain ⟨q1, q2⟩ := gcd_pos hO c b
        unfold wX6_chance_120 wX6_greatestDivisor
        refine X_gd 33 (chA α c b) (chD α) 0 (by omega) (by omega) (by omega) (by omega) ?_
        rw [leq0 q2]
        refine ⟨fun z => if0L (by omega) (fun w => ⟨z, ?_⟩) (fun w => ⟨z, ?_⟩), fun z => absurd z (by omega)⟩
        · have := hq ρ r1
          unfold chB at this
          rw [if_neg w] at this
          exact this
        · have := hq ρ r1
          unfold chB at this
          rw [if_pos w] at this
          exact this
      · intro N z hz ih ρ r1
        have wl := wN_le (z := z) (c := c) (by omega) (α 2 3)
        have hd : 16 ^ α 2 3 ≤ 4294967296 := d2
        rw [wX6_chance_66, r1.1.2.2.1.2.2.1, evm_e _ (by omega), i_lt (by omega) (by omega), i1]
        rw [fb_sm_succ] at ih
        refine ⟨fun w => absurd w (by omega), fun _ => X_weight hO r1 (by omega) ?_⟩
        rw [leq0 (by omega)]
        refine ⟨fun w => ?_, fun w => X_bbw hO r1 (fun i h1 h2 => ?_) (fun s1 r X1 hr => s_has (by omega) ?_)⟩
        · have e : chT α c b z = 0 := by
            unfold chT
            rw [w]
            split <;> rfl
          rw [e] at ih
          exact ih ρ r1
        · rw [bt_nI (by omega)]
          apply Nat.testBit_lt_two_pow
          have : 2 ^ 8 ≤ 2 ^ i := Nat.pow_le_pow_right (by omega) h1
          omega
        · rw [hr b hb]
          refine g_ny (fun w2 => fun y hy => ?_) (fun w2 => ?_)
          · have e : chT α c b z = wN c z (α 2 3) := by unfold chT; rw [if_pos w2]
            rw [e] at ih
            rw [lN_add] at hy
            subst hy
            exact ih s1 X1
          · have e : chT α c b z = 0 := by unfold chT; rw [if_neg (by rw [w2]; decide)]
            rw [e] at ih
            exact ih s1 X1
    · intro N j hj ih
      rw [wX6_chance_37, hX.1.2.1.2.1, i_le (by omega) (by omega), i1]
      refine ⟨fun z => absurd z (by omega), fun _ => fun y hy => ?_⟩
      have ey : y = lN (16 ^ (j + 1)) := by rw [hy, Nat.pow_succ]; exact lN_mul _ 16
      subst ey
      exact ih
  · rw [g3, Bool.and_false] at hq; exact hq σ hX
  · rw [g2, Bool.and_false, Bool.false_and] at hq; exact hq σ hX
theorem sm_rev (T : Nat → Nat) (n : Nat) : ∀ j, j ≤ n → fb_sm (fun g => T (n - 1 - g)) j + fb_sm T (n - j) = fb_sm T n
  | 0, _ => by rw [Nat.sub_zero]; show 0 + _ = _; omega
  | j + 1, h => by
    have ih := sm_rev T n j (by omega)
    rw [fb_sm_succ]
    rw [show n - j = (n - (j + 1)) + 1 by omega, fb_sm_succ] at ih
    rw [show n - 1 - j = n - (j + 1) by omega]
    omega
set_option maxHeartbeats 1000000 in
theorem M_chanceOf {c b k : Nat} {α : DD} {β σ : Mem} {Q : Int64 → Mem → Prop} (hO : OkA α β) (hM : RM σ α β) (hc : c ≤ 16) (hb : b < 24) (hk : k < 2) (hq : ∀ ρ, RM ρ α β → Q (chB α c b k) ρ) : wX7_chanceOf (nI c) (nI b) (nI k) σ Q := by
  have h8 := OkA.ev hO
  obtain ⟨p1, p2⟩ := p2_le hO
  obtain ⟨d1, d2⟩ := chD_le hO
  unfold wX7_chanceOf
  have key := up_loop (fun N g => ∀ ρ, HM ρ α β (iA α) (coA (α 0)) → wX7_chanceOf_6 Q N (nI c) (nI b) (nI k) (lN (fb_sm (fun g => chT α c b (2 ^ α 2 3 - 1 - g)) g)) (nI g) ρ) (2 ^ α 2 3) ?_ ?_ 0 (Nat.zero_le _)
  · obtain ⟨N, hN⟩ := key
    exact ⟨N, hN σ (RM_HM hM)⟩
  · intro N ρ r1
    rw [wX7_chanceOf_6, r1.ev.2.1, shl_e _ (by omega), i_le (by omega) (by omega)]
    refine ⟨fun _ => ?_, fun z => absurd (Nat.le_refl _) z⟩
    have er : fb_sm (fun g => chT α c b (2 ^ α 2 3 - 1 - g)) (2 ^ α 2 3) = chA α c b := by
      have := sm_rev (chT α c b) (2 ^ α 2 3) (2 ^ α 2 3) (Nat.le_refl _)
      rw [Nat.sub_self] at this
      exact this
    rw [er]
    unfold wX7_chanceOf_99
    intro s1 h1
    have R1 : RM s1 α β := HM_RM (by rw [h1]; exact HM_go r1) (by rw [h1, um_at])
    have e12 : s1 0 12 = nI (α 2 3) := R1.1.2.2.1.2.1
    rw [e12, show (4 : Int32) * nI (α 2 3) = nI (4 * α 2 3) from pk_mul 4 _, shlL_e _ (by omega)]
    have ha : chA α c b ≤ 1099511627776 := chS_le hO (by omega) p2
    obtain ⟨q1, q2⟩ := gcd_pos hO c b
    unfold wX7_part
    refine M_part0 (chD α + 1) (chA α c b) (chD α) (by omega) (by omega) (by omega) ?_
    unfold wX7_part_31
    rw [leq0 q2]
    refine if0L (by omega) (fun w => ⟨by omega, ?_⟩) (fun w => ⟨by omega, ?_⟩)
    · have := hq s1 R1
      unfold chB at this
      rw [if_neg w] at this
      exact this
    · have := hq s1 R1
      unfold chB at this
      rw [if_pos w] at this
      exact this
  · intro N g hg ih ρ r1
    rw [wX7_chanceOf_6, r1.ev.2.1, shl_e _ (by omega), i_le (by omega) (by omega)]
    refine ⟨fun z => absurd z (by omega), fun _ => fun s1 h1 => ?_⟩
    have H1 : HM s1 α β (iA α) (coA (α 0)) := by rw [h1]; exact HM_go r1
    refine M_livesH (act := fun e => !bt (nI g) e) (OkI_iA hO) H1 (fun e he => by rw [h1, um_at, Bool.not_not]) (fun s2 H2 _ D2 _ => ?_)
    have e21 : s2 21 b = nI (danceD (iA α) (bkS α (fun e => !bt (nI g) e)) (b + 1) 4 0) := (D2.2 b hb).1
    have hl : danceD (iA α) (bkS α (fun e => !bt (nI g) e)) (b + 1) 4 0 ≤ 120 := on_le (OkI_iA hO) (by omega)
    have hbd : bdA α (fun e => bt (nI (2 ^ α 2 3 - 1 - g)) e) b = (danceD (iA α) (bkS α (fun e => !bt (nI g) e)) (b + 1) 4 0 == 0) := by
      unfold bdA
      rw [bkS_cong (f := fun e => bt (nI (2 ^ α 2 3 - 1 - g)) e) (g := fun e => !bt (nI g) e) (fun e he => bt_comp h8 hg he)]
    rw [nI_clamp (by omega), e21, neq0 (by omega)]
    have go : ∀ w0 : Nat, w0 * wG c g (α 2 3) = chT α c b (2 ^ α 2 3 - 1 - g) → ∃ N46, wX7_chanceOf_46 (fun x1 x2 x3 x4 x6 ρ => wX7_chanceOf_6 Q N x1 x2 x3 x4 x6 ρ) Q N46 (nI c) (nI b) (nI k) (lN (fb_sm (fun g => chT α c b (2 ^ α 2 3 - 1 - g)) g)) (nI g) (lN w0) (0 : Int32) s2 := fun w0 hw0 => by
      have key2 := up_loop (fun N2 j => wX7_chanceOf_46 (fun x1 x2 x3 x4 x6 ρ => wX7_chanceOf_6 Q N x1 x2 x3 x4 x6 ρ) Q N2 (nI c) (nI b) (nI k) (lN (fb_sm (fun g => chT α c b (2 ^ α 2 3 - 1 - g)) g)) (nI g) (lN (w0 * wG c g j)) (nI j) s2) (α 2 3) ?_ ?_ 0 (Nat.zero_le _)
      · obtain ⟨N2, hN2⟩ := key2
        rw [show w0 * wG c g 0 = w0 from Nat.mul_one w0] at hN2
        exact ⟨N2, hN2⟩
      · intro N2
        rw [wX7_chanceOf_46, H2.ev.2.1, i_le (by omega) (by omega), hw0, lN_add, i1]
        refine ⟨fun _ => fun y hy => ?_, fun z => absurd (Nat.le_refl _) z⟩
        subst hy
        exact ih s2 H2
      · intro N2 j hj ih2
        rw [wX7_chanceOf_46, H2.ev.2.1, i_le (by omega) (by omega), c16 hc, nI_l (by omega), lN_mul, lN_mul, i1, i1]
        rw [wG, ← Nat.mul_assoc] at ih2
        refine ⟨fun z => absurd z (by omega), fun _ => s_isIn (by omega) (g_ny (fun w => fun y hy => ?_) (fun w => fun y hy => ?_))⟩
        · rw [if_pos w] at ih2
          subst hy
          exact ih2
        · rw [if_neg (by rw [w]; decide)] at ih2
          subst hy
          exact ih2
    have we : wG c g (α 2 3) = wN c (2 ^ α 2 3 - 1 - g) (α 2 3) := wG_e (fun e he => bt_comp h8 hg he)
    refine ⟨vp_in_nI (by omega) (by omega), fun z => go 0 ?_, fun z => go 1 ?_⟩
    · rw [Nat.zero_mul]
      unfold chT
      rw [hbd, if_neg (by simpa using z)]
    · rw [Nat.one_mul, we]
      unfold chT
      rw [hbd, if_pos (by simpa using z)]
theorem M_chance {x1 x2 x3 : Int32} {α : DD} {β σ : Mem} {Q : Int64 → Mem → Prop} (hO : OkA α β) (hM : IM σ α β) (hq : ∀ ρ, RM ρ α β → Q (chS α x1 x2 x3) ρ) : wX7_chance x1 x2 x3 σ Q := by
  unfold wX7_chance
  unfold chS at hq
  have no : ∀ (ρ : Mem), Q (-9223372036854775806) ρ → wX7_no (-2 : Int32) ρ (fun r42 σ42 => Q r42 σ42) := fun ρ h => by
    unfold wX7_no
    rw [show (-9223372036854775808 : Int64) - ((-2 : Int32)).toInt64 = -9223372036854775806 by decide]
    exact h
  refine s_find hO hM (fun ρ hρ hD => G_in (n := 17) (m := 16) rfl rfl (g_ny (fun g1 => G_beatM (g_ny (fun g2 => G_twoM (g_ny (fun g3 => ?_) (fun g3 => no ρ ?_))) (fun g2 => no ρ ?_))) (fun g1 => no ρ ?_)))
  · rw [g1, g2, g3] at hq
    obtain ⟨c, hc, rfl, e1⟩ := gd_of (by omega) g1
    obtain ⟨b, hb, rfl, e2⟩ := gd_of (by omega) g2
    obtain ⟨k, hk, rfl, e3⟩ := gd_of (by omega) g3
    rw [e1, e2, e3] at hq
    exact M_chanceOf hO hρ (by omega) hb hk (fun ω h => hq ω h)
  · rw [g1, g2, g3] at hq; exact hq ρ hρ
  · rw [g1, g2] at hq; exact hq ρ hρ
  · rw [g1] at hq; exact hq ρ hρ
theorem L29 : okL_29 RR := fun σ τ a1 a2 a3 ⟨α, β, hO, hX, hM⟩ => X_chance hO hX (fun ρ hρ => M_chance hO hM (fun ω hω => ⟨rfl, α, β, hO, hρ, hω.1⟩))
