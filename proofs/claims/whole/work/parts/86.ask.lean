/-! ask -/
theorem bt_orB {p : Nat → Bool} : ∀ {n i : Nat}, n ≤ 32 → i < 32 → bt (orB p n) i = (decide (i < n) && p i)
  | 0, i, _, _ => by
    rw [show orB p 0 = 0 from rfl, b_0, decide_eq_false (by omega), Bool.false_and]
  | n + 1, i, hn, hi => by
    have ih := bt_orB (p := p) (n := n) (i := i) (by omega) hi
    by_cases h : p n = true
    · rw [orB_y h, b_or, ih, bt_one (by omega) hi]
      by_cases c : i = n
      · subst c
        simp [h]
      · by_cases c2 : i < n
        · simp [c, c2, show i < n + 1 by omega]
        · simp [c, c2, show ¬ i < n + 1 by omega]
    · rw [orB_n h, ih]
      by_cases c : i = n
      · subst c
        simp [h]
      · by_cases c2 : i < n
        · simp [c2, show i < n + 1 by omega]
        · simp [c2, show ¬ i < n + 1 by omega]
theorem bt_le {α : DD} {v : Nat} (h : v < 31) : bt (leB α) v = leP α v := by
  unfold leB
  rw [bt_orB (by omega) (by omega), decide_eq_true h, Bool.true_and]
theorem cnt_le {p : Nat → Bool} : ∀ n, cnt p n ≤ n
  | 0 => Nat.le_refl _
  | n + 1 => by
    have := cnt_le (p := p) n
    rw [cnt]
    split <;> omega
theorem cnt_ex {p : Nat → Bool} : ∀ {n}, 0 < cnt p n → ∃ v, v < n ∧ p v = true
  | 0, h => absurd h (Nat.lt_irrefl 0)
  | n + 1, h => by
    by_cases c : p n = true
    · exact ⟨n, by omega, c⟩
    · rw [cnt_n c] at h
      obtain ⟨v, h1, h2⟩ := cnt_ex h
      exact ⟨v, by omega, h2⟩
theorem cnt_two {p : Nat → Bool} (h0 : p 0 = false) (h1 : p 1 = false) : ∀ n, cnt p (2 + n) ≤ n
  | 0 => by
    rw [show cnt p (2 + 0) = 0 by rw [show 2 + 0 = 1 + 1 from rfl, cnt_n (by rw [h1]; decide), show 1 = 0 + 1 from rfl, cnt_n (by rw [h0]; decide)]; rfl]
    exact Nat.le_refl _
  | n + 1 => by
    have := cnt_two h0 h1 n
    rw [show 2 + (n + 1) = (2 + n) + 1 by omega, cnt]
    split <;> omega
/-- of those of LENGTHS below n: by how many there are o on behind b -/
def grp (α : DD) (b o n : Nat) : Nat := cnt (fun v => leP α v && (leF α v b == o)) n
theorem grp_le (α : DD) (b o : Nat) : grp α b o 31 ≤ 29 := cnt_two (by rw [leP_0 (by omega)]; rfl) (by rw [leP_0 (by omega)]; rfl) 29
def gOf (α : DD) (b v : Nat) : Nat := if leP α v = true then grp α b (leF α v b) 31 else 0
def alN (α : DD) (b : Nat) : Nat → Nat
  | 0 => 0
  | v + 1 => if gOf α b v ≤ alN α b v then alN α b v else gOf α b v
def gM (α : DD) (b : Nat) : Nat → Nat
  | 0 => 0
  | v + 1 => if leP α v = true then (if gM α b v < grp α b (leF α v b) (v + 1) then grp α b (leF α v b) (v + 1) else gM α b v) else gM α b v
theorem alN_up (α : DD) (b : Nat) : ∀ {n v : Nat}, v < n → gOf α b v ≤ alN α b n
  | 0, v, h => absurd h (by omega)
  | n + 1, v, h => by
    rw [alN]
    by_cases c : v = n
    · subst c
      split <;> omega
    · have := alN_up α b (n := n) (v := v) (by omega)
      split <;> omega
theorem alN_at (α : DD) (b : Nat) : ∀ n, alN α b n = 0 ∨ ∃ v, v < n ∧ alN α b n = gOf α b v
  | 0 => Or.inl rfl
  | n + 1 => by
    rw [alN]
    by_cases c : gOf α b n ≤ alN α b n
    · rw [if_pos c]
      rcases alN_at α b n with h | ⟨v, h1, h2⟩
      · exact Or.inl h
      · exact Or.inr ⟨v, by omega, h2⟩
    · rw [if_neg c]
      exact Or.inr ⟨n, by omega, rfl⟩
theorem gOf_le (α : DD) (b v : Nat) : gOf α b v ≤ 29 := by
  have := grp_le α b (leF α v b)
  unfold gOf
  split <;> omega
theorem alN_le (α : DD) (b n : Nat) : alN α b n ≤ 29 := by
  rcases alN_at α b n with h | ⟨v, _, h2⟩
  · omega
  · have := gOf_le α b v
    omega
theorem grp_s {α : DD} {b o v : Nat} (h1 : leP α v = true) (h2 : leF α v b = o) : grp α b o (v + 1) = grp α b o v + 1 := by
  unfold grp
  rw [cnt_s]
  simp [h1, h2]
theorem grp_n {α : DD} {b o v : Nat} (h : ¬ (leP α v = true ∧ leF α v b = o)) : grp α b o (v + 1) = grp α b o v := by
  unfold grp
  rw [cnt_n]
  intro z
  simp at z
  exact h z
theorem gM_up (α : DD) (b : Nat) : ∀ n o, grp α b o n ≤ gM α b n
  | 0, o => Nat.zero_le _
  | n + 1, o => by
    have ih := gM_up α b n o
    rw [gM]
    by_cases c : (leP α n = true ∧ leF α n b = o)
    · rw [if_pos c.1, c.2]
      split <;> omega
    · rw [grp_n c]
      split
      · split <;> omega
      · exact ih
theorem gM_at (α : DD) (b : Nat) : ∀ n, gM α b n = 0 ∨ ∃ v, v < n ∧ leP α v = true ∧ gM α b n ≤ grp α b (leF α v b) n
  | 0 => Or.inl rfl
  | n + 1 => by
    have mono : ∀ o, grp α b o n ≤ grp α b o (n + 1) := fun o => by
      by_cases c : (leP α n = true ∧ leF α n b = o)
      · rw [grp_s c.1 c.2]; omega
      · rw [grp_n c]; exact Nat.le_refl _
    have keep : gM α b n = 0 ∨ ∃ v, v < n + 1 ∧ leP α v = true ∧ gM α b n ≤ grp α b (leF α v b) (n + 1) := by
      rcases gM_at α b n with h | ⟨v, h1, h2, h3⟩
      · exact Or.inl h
      · exact Or.inr ⟨v, by omega, h2, Nat.le_trans h3 (mono _)⟩
    rw [gM]
    split
    · rename_i c
      split
      · exact Or.inr ⟨n, by omega, c, Nat.le_refl _⟩
      · exact keep
    · exact keep
theorem gM_al (α : DD) (b : Nat) : gM α b 31 = alN α b 31 := by
  apply Nat.le_antisymm
  · rcases gM_at α b 31 with h | ⟨v, h1, h2, h3⟩
    · omega
    · have := alN_up α b (n := 31) (v := v) h1
      unfold gOf at this
      rw [if_pos h2] at this
      omega
  · rcases alN_at α b 31 with h | ⟨v, h1, h2⟩
    · omega
    · rw [h2]
      unfold gOf
      split
      · exact gM_up α b 31 _
      · omega
def asF (α : DD) (b : Nat) : Int32 := nI (alN α b 31)
def asB (α : DD) : Int32 := nJ (asF α) 31 24
set_option maxHeartbeats 1000000 in
theorem X_group {b : Nat} {α : DD} {β σ : Mem} {Q : Int32 → Mem → Prop} (hO : OkA α β) (hX : IX σ α β) (hL : LR σ α 31) (hb : b < 24) (hq : ∀ ρ, IX ρ α β → LR ρ α 31 → Q (asF α b) ρ) : wX6_greatestGroup (leB α) (nI b) σ Q := by
  unfold wX6_greatestGroup
  refine s_fill (by omega) ?_
  have key := up_loop (fun N j => 2 ≤ j → ∀ σ, IX σ α β → LR σ α 31 → (∀ o, o < 121 → σ 64 o = nI (grp α b o j)) → wX6_greatestGroup_13 Q N (leB α) (nI b) (nI (gM α b j)) (nI j) σ) 31 ?_ ?_ 2 (by omega)
  · obtain ⟨N, hN⟩ := key
    have p0 : ¬ leP α 0 = true := by rw [leP_0 (by omega)]; decide
    have p1 : ¬ leP α 1 = true := by rw [leP_0 (by omega)]; decide
    have e0 : gM α b 2 = 0 := by rw [gM, if_neg p1, gM, if_neg p0]; rfl
    have := hN (Nat.le_refl _) (fillM σ 64 121 0) (IX_same hX (fun c hc => fillM_ne _ (by omega))) (by unfold LR; rw [fillM_ne _ (by omega)]; exact hL) (fun o ho => by
      rw [fillM_at _ ho, grp_n (fun z => p1 z.1), grp_n (fun z => p0 z.1)]; rfl)
    rw [e0] at this
    exact ⟨N, this⟩
  · intro N _ ρ r1 r2 r3
    rw [wX6_greatestGroup_13, l_lt30 (by omega)]
    refine ⟨fun _ => ?_, fun z => absurd (by omega) z⟩
    rw [gM_al]
    exact hq ρ r1 r2
  · intro N j hj ih h2 ρ r1 r2 r3
    have hl := leF_le hO (v := j) (b := b) (by omega) hb
    rw [wX6_greatestGroup_13, l_lt30 (by omega), i1]
    refine ⟨fun z => absurd z (by omega), fun _ => s_has (by omega) ?_⟩
    rw [bt_le hj]
    refine g_yn (fun c => ?_) (fun c => ?_)
    · unfold wX6_rowOfLength
      rw [row_e h2]
      have e1 : nI (24 * (j - 2)) + nI b = nI (24 * (j - 2) + b) := nI_add _ _
      refine ⟨by rw [e1]; exact vp_in_nI (by omega) (by omega), fun y hy => ?_⟩
      rw [e1, nI_clamp (by omega), r2 j h2 hj b hb] at hy
      subst hy
      rw [nI_clamp (by omega), r3 _ (by omega), i1, ← grp_s c rfl]
      refine ⟨vp_in_nI (by omega) (by omega), vp_in_nI (by omega) (by omega), fun s1 h1 => ⟨vp_in_nI (by omega) (by omega), fun y hy => ?_⟩⟩
      rw [h1, um_at] at hy
      have g1 := cnt_le (p := fun v => leP α v && (leF α v b == leF α j b)) (j + 1)
      have g2 : grp α b (leF α j b) (j + 1) ≤ 31 := by unfold grp; omega
      have g3 : gM α b j ≤ 31 := by
        rcases gM_at α b j with h | ⟨v, _, _, h3⟩
        · omega
        · have := cnt_le (p := fun w => leP α w && (leF α w b == leF α v b)) j
          unfold grp at h3
          omega
      have ey : y = nI (gM α b (j + 1)) := by
        rw [hy, gM, if_pos c]
        by_cases w : gM α b j < grp α b (leF α j b) (j + 1)
        · rw [if_pos w, if_pos (by rw [i_lt (by omega) (by omega)]; exact w)]
        · rw [if_neg w, if_neg (by rw [i_lt (by omega) (by omega)]; exact w)]
      subst ey
      refine ih (by omega) s1 (IX_same r1 (fun c hc => by rw [h1, um_ne _ _ _ (by omega)])) (by unfold LR; rw [h1, um_ne _ _ _ (by omega)]; exact r2) (fun o ho => ?_)
      rw [h1, um_any]
      by_cases e : o = leF α j b
      · rw [if_pos ⟨rfl, e⟩, e]
      · rw [if_neg (fun z => e z.2), grp_n (fun z => e z.2.symm)]; exact r3 o ho
    · have c2 : ¬ leP α j = true := by rw [c]; decide
      have e : gM α b (j + 1) = gM α b j := by rw [gM, if_neg c2]
      rw [e] at ih
      exact ih (by omega) ρ r1 r2 (fun o ho => by rw [grp_n (fun z => c2 z.1)]; exact r3 o ho)
theorem X_ask {α : DD} {β σ : Mem} {Q : Int32 → Mem → Prop} (hO : OkA α β) (hX : IX σ α β) (hq : ∀ ρ, IX ρ α β → Q (asB α) ρ) : wX6_ask σ Q := by
  unfold wX6_ask
  refine X_lengths hO hX (fun τ t1 t2 => ?_)
  have key := up_loop (fun N j => ∀ σ, IX σ α β → LR σ α 31 → wX6_ask_13 Q N (leB α) (nJ (asF α) 31 j) (nV (asF α) 31 j) (nI j) σ) 24 ?_ ?_ 0 (Nat.zero_le _)
  · obtain ⟨N, hN⟩ := key
    exact ⟨N, hN τ t1 t2⟩
  · intro N ρ r1 r2
    rw [wX6_ask_13, l_ge24 (by omega)]
    exact ⟨fun _ => hq ρ r1, fun z => absurd (Nat.le_refl _) z⟩
  · intro N j hj ih ρ r1 r2
    rw [wX6_ask_13, l_ge24 (by omega), i1]
    refine ⟨fun z => absurd z (by omega), fun _ => X_group hO r1 r2 hj (fun s1 x1 l1 => ⟨fun z => ?_, fun z => ?_⟩)⟩
    · have e := nV_l (f := asF α) (m0 := 31) (n := j) z
      rw [e.1, e.2] at ih
      exact ih s1 x1 l1
    · have e := nV_g (f := asF α) (m0 := 31) (n := j) z
      rw [e.1, e.2] at ih
      exact ih s1 x1 l1
theorem gOf_e (α : DD) (b v : Nat) : cnt (fun w => leP α v && leP α w && (leF α v b == leF α w b)) 31 = gOf α b v := by
  unfold gOf grp
  by_cases c : leP α v = true
  · rw [if_pos c]
    congr 1
    funext w
    rw [c, Bool.true_and]
    congr 1
    rw [Bool.eq_iff_iff]
    simp
    exact ⟨fun h => h.symm, fun h => h.symm⟩
  · rw [if_neg c]
    rw [Bool.not_eq_true] at c
    rw [c]
    have : ∀ n, cnt (fun w => false && leP α w && (leF α v b == leF α w b)) n = 0 := fun n => by
      induction n with
      | zero => rfl
      | succ n ih => rw [cnt_n (by simp)]; exact ih
    exact this 31
set_option maxHeartbeats 1000000 in
theorem M_alike {b : Nat} {α : DD} {β σ : Mem} {Q : Int32 → Mem → Prop} (hO : OkA α β) (hL : LM σ α 31) (hb : b < 24) (hq : Q (asF α b) σ) : wX7_alike (leB α) (nI b) σ Q := by
  unfold wX7_alike
  have key := up_loop (fun N j => 2 ≤ j → wX7_alike_5 Q N (leB α) (nI b) (nI (alN α b j)) (nI j) σ) 31 ?_ ?_ 2 (by omega)
  · obtain ⟨N, hN⟩ := key
    have p0 : gOf α b 0 = 0 := by unfold gOf; rw [if_neg (by rw [leP_0 (by omega)]; decide)]
    have p1 : gOf α b 1 = 0 := by unfold gOf; rw [if_neg (by rw [leP_0 (by omega)]; decide)]
    have e0 : alN α b 2 = 0 := by rw [alN, p1, if_pos (Nat.zero_le _), alN, p0, if_pos (Nat.zero_le _)]; rfl
    have := hN (Nat.le_refl _)
    rw [e0] at this
    exact ⟨N, this⟩
  · intro N _
    rw [wX7_alike_5, l_ge31 (by omega)]
    exact ⟨fun _ => hq, fun z => absurd (Nat.le_refl _) z⟩
  · intro N j hj ih h2
    have a1 := alN_le α b j
    have a2 := gOf_le α b j
    have lj := leF_le hO (v := j) (b := b) (by omega) hb
    have ih := ih (by omega)
    rw [wX7_alike_5, l_ge31 (by omega)]
    refine ⟨fun z => absurd z (by omega), fun _ => ?_⟩
    obtain ⟨p, hp⟩ : ∃ p : Nat → Bool, p = fun w => leP α j && leP α w && (leF α j b == leF α w b) := ⟨_, rfl⟩
    have key2 := up_loop (fun N2 w => 2 ≤ w → wX7_alike_18 (fun x1 x2 x3 x4 ρ => wX7_alike_5 Q N x1 x2 x3 x4 ρ) Q N2 (leB α) (nI b) (nI (alN α b j)) (nI j) (nI (cnt p w)) (nI w) σ) 31 ?_ ?_ 2 (by omega)
    · obtain ⟨N2, hN2⟩ := key2
      have q0 : p 0 = false := by simp [hp, leP_0 (α := α) (v := 0) (by omega)]
      have q1 : p 1 = false := by simp [hp, leP_0 (α := α) (v := 1) (by omega)]
      have e0 : cnt p 2 = 0 := Nat.le_zero.mp (cnt_two q0 q1 0)
      have := hN2 (Nat.le_refl _)
      rw [e0] at this
      exact ⟨N2, this⟩
    · intro N2 _
      rw [wX7_alike_18, l_ge31 (by omega), i1]
      refine ⟨fun _ => ?_, fun z => absurd (Nat.le_refl _) z⟩
      unfold wX7_greater
      rw [hp, gOf_e]
      rw [alN] at ih
      by_cases c : gOf α b j ≤ alN α b j
      · rw [if_pos c] at ih
        rw [if_pos (by rw [i_le (by omega) (by omega)]; exact c)]
        exact ih
      · rw [if_neg c] at ih
        rw [if_neg (by rw [i_le (by omega) (by omega)]; exact c)]
        exact ih
    · intro N2 w hw ih2 h3
      have ih2 := ih2 (by omega)
      have lw := leF_le hO (v := w) (b := b) (by omega) hb
      have no : ¬ p w = true → ∀ y : Int32, y = nI (cnt p w) + 0 → wX7_alike_18 (fun x1 x2 x3 x4 ρ => wX7_alike_5 Q N x1 x2 x3 x4 ρ) Q N2 (leB α) (nI b) (nI (alN α b j)) (nI j) y (nI (w + 1)) σ := fun h y hy => by
        rw [cnt_n h] at ih2
        have ey : y = nI (cnt p w) := by rw [hy]; exact nI_add _ 0
        subst ey
        exact ih2
      rw [wX7_alike_18, l_ge31 (by omega), i1, i1, i1]
      refine ⟨fun z => absurd z (by omega), fun _ => s_isIn (by omega) ?_⟩
      rw [bt_le hj]
      refine g_ny (fun c => s_isIn (by omega) ?_) (fun c => no (by rw [hp, c]; simp))
      rw [bt_le hw]
      refine g_ny (fun c2 => ?_) (fun c2 => no (by rw [hp]; simp [c2]))
      rw [n24, n24, nI_add, nI_add, nI_clamp (show 24 * j + b < 2 ^ 31 by omega), nI_clamp (show 24 * w + b < 2 ^ 31 by omega), hL j h2 hj b hb, hL w h3 hw b hb, i_eq (by omega) (by omega)]
      refine ⟨vp_in_nI (by omega) (by omega), vp_in_nI (by omega) (by omega), fun z => no (by rw [hp]; simp [z]), fun z => fun y hy => ?_⟩
      rw [cnt_s (by rw [hp]; simp [z, c, c2])] at ih2
      subst hy
      exact ih2
/-- the model's way of looking for the least -/
def aK (α : DD) : Nat → Nat
  | 0 => 0
  | n + 1 => if asF α (aK α n) ≤ asF α n then aK α n else n
theorem aK_ok (α : DD) : ∀ n, aK α (n + 1) ≤ n ∧ nJ (asF α) 31 (n + 1) = nI (aK α (n + 1)) ∧ nV (asF α) 31 (n + 1) = asF α (aK α (n + 1))
  | 0 => by
    have h := alN_le α 0 31
    have h31 : ¬ nV (asF α) 31 0 ≤ asF α 0 := by
      show ¬ nI 31 ≤ nI (alN α 0 31)
      rw [i_le (by omega) (by omega)]; omega
    have e : aK α (0 + 1) = 0 := by
      rw [aK]
      split <;> rfl
    rw [e, (nV_g h31).1, (nV_g h31).2]
    exact ⟨Nat.le_refl _, rfl, rfl⟩
  | n + 1 => by
    obtain ⟨h1, h2, h3⟩ := aK_ok α n
    by_cases c : nV (asF α) 31 (n + 1) ≤ asF α (n + 1)
    · rw [(nV_l c).1, (nV_l c).2]
      rw [h3] at c
      have e : aK α (n + 1 + 1) = aK α (n + 1) := by rw [aK, if_pos c]
      rw [e]
      exact ⟨by omega, h2, h3⟩
    · rw [(nV_g c).1, (nV_g c).2]
      rw [h3] at c
      have e : aK α (n + 1 + 1) = n + 1 := by rw [aK, if_neg c]
      rw [e]
      exact ⟨Nat.le_refl _, rfl, rfl⟩
theorem M_askNow {α : DD} {β σ : Mem} {Q : Int32 → Mem → Prop} (hO : OkA α β) (hM : RM σ α β) (hq : ∀ ρ, RM ρ α β → Q (asB α) ρ) : wX7_askNow σ Q := by
  unfold wX7_askNow
  refine M_lengthsNow hO hM (fun ρ r1 r2 => ?_)
  have key := up_loop (fun N j => 1 ≤ j → wX7_askNow_9 Q N (leB α) (nI (aK α j)) (nI j) ρ) 24 ?_ ?_ 1 (by omega)
  · obtain ⟨N, hN⟩ := key
    have e : aK α 1 = 0 := by
      rw [aK]
      split <;> rfl
    have := hN (Nat.le_refl _)
    rw [e] at this
    exact ⟨N, this⟩
  · intro N _
    rw [wX7_askNow_9, l_ge24 (by omega), ← (aK_ok α 23).2.1]
    exact ⟨fun _ => hq ρ r1, fun z => absurd (Nat.le_refl _) z⟩
  · intro N j hj ih h1
    have ih := ih (by omega)
    have k1 : aK α j ≤ j - 1 := by
      have := (aK_ok α (j - 1)).1
      rw [show j - 1 + 1 = j by omega] at this
      exact this
    rw [wX7_askNow_9, l_ge24 (by omega), i1]
    refine ⟨fun z => absurd z (by omega), fun _ => M_alike hO r2 hj (M_alike hO r2 (by omega) (fun y hy => ?_))⟩
    have ey : y = nI (aK α (j + 1)) := by
      rw [hy, aK]
      by_cases c : asF α (aK α j) ≤ asF α j
      · rw [if_pos c, if_pos c]
      · rw [if_neg c, if_neg c]
    subst ey
    exact ih
theorem M_ask {α : DD} {β σ : Mem} {Q : Int32 → Mem → Prop} (hO : OkA α β) (hM : IM σ α β) (hq : ∀ ρ, RM ρ α β → Q (asB α) ρ) : wX7_ask σ Q := by
  unfold wX7_ask
  exact s_find hO hM (fun ρ hρ hD => M_askNow hO hρ (fun ω h => hq ω h))
theorem L28 : okL_28 RR := fun σ τ ⟨α, β, hO, hX, hM⟩ => X_ask hO hX (fun ρ hρ => M_ask hO hM (fun ω hω => ⟨rfl, α, β, hO, hρ, hω.1⟩))
