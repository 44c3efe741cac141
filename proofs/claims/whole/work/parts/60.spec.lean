/-! WHAT IS TOLD, as numbers. α: rows 0, 1 the texts' bytes; 2 (bytes of text 0, of text 1, length, events, seen); 3, 4, 5 events' kind, beat, number; 6, 7 seen: beat, how many; 8 sheets' sizes. β: rows 0 to 3 sheets' items; 4 forms; 5 0 the latest finding -/
def fbad (p : Nat → Bool) : Nat → Nat
  | 0 => 0
  | n + 1 => if fbad p n < n then fbad p n else if p n = true then n + 1 else n
theorem fbad_le (p : Nat → Bool) : ∀ n, fbad p n ≤ n
  | 0 => Nat.le_refl _
  | n + 1 => by
    have := fbad_le p n
    unfold fbad
    split
    · omega
    · split <;> omega
theorem fbad_all {p : Nat → Bool} : ∀ {n : Nat}, (∀ i, i < n → p i = true) → fbad p n = n
  | 0, _ => rfl
  | n + 1, h => by
    have := fbad_all (p := p) (n := n) (fun i hi => h i (by omega))
    unfold fbad
    rw [if_neg (by omega), if_pos (h n (by omega))]
theorem fbad_at {p : Nat → Bool} {j : Nat} (h : ∀ i, i < j → p i = true) (hj : p j = false) : ∀ {n : Nat}, j < n → fbad p n = j
  | 0, hn => absurd hn (Nat.not_lt_zero _)
  | n + 1, hn => by
    unfold fbad
    by_cases e : j = n
    · subst e
      rw [fbad_all h, if_neg (by omega), if_neg (by simp [hj])]
    · have := fbad_at h hj (n := n) (by omega)
      rw [this, if_pos (by omega)]
theorem fbad_ok {p : Nat → Bool} : ∀ {n i : Nat}, i < fbad p n → p i = true
  | 0, i, h => absurd h (Nat.not_lt_zero _)
  | n + 1, i, h => by
    unfold fbad at h
    by_cases c1 : fbad p n < n
    · rw [if_pos c1] at h
      exact fbad_ok h
    · rw [if_neg c1] at h
      have e : fbad p n = n := Nat.le_antisymm (fbad_le p n) (by omega)
      by_cases c2 : p n = true
      · rw [if_pos c2] at h
        by_cases e2 : i = n
        · subst e2; exact c2
        · exact fbad_ok (n := n) (by omega)
      · rw [if_neg c2] at h
        exact fbad_ok (n := n) (by omega)
def okB (B : Nat → Nat) (i : Nat) : Bool := if i % 4 = 0 then (decide (97 ≤ B i) && decide (B i ≤ 108) && !(anyN (fun j => B (4 * j) - 97 == B i - 97) (i / 4))) else if i % 4 = 1 then (B i == 114 || B i == 108) else if i % 4 = 2 then (decide (48 ≤ B i) && decide (B i ≤ 57)) else B i == 59
def bad0 (α : DD) : Nat := fbad (okB (α 0)) (α 2 0)
def flt0 (α : DD) : Int32 := if bad0 α < α 2 0 then nI (bad0 α) else if (0 < α 2 0 ∧ ¬ α 2 0 % 4 = 3) then nI (α 2 0) else -1
def nDa (α : DD) : Nat := if bad0 α < α 2 0 then 0 else if (0 < α 2 0 ∧ ¬ α 2 0 % 4 = 3) then 0 else (α 2 0 + 1) / 4
def plA (B : Nat → Nat) (d : Nat) : Nat := B (4 * d) - 97
def wyA (B : Nat → Nat) (d : Nat) : Nat := if B (4 * d + 1) = 114 then 0 else 1
def coA (B : Nat → Nat) (d : Nat) : Nat := B (4 * d + 2) - 48
def stC (b : Nat) : Nat := if b = 111 then 0 else if b = 117 then 1 else if b = 115 then 2 else if b = 116 then 3 else 9
def bad1 (α : DD) : Nat := fbad (fun i => !(stC (α 1 i) == 9)) (α 2 1)
def flt1 (α : DD) : Int32 := if bad1 α < α 2 1 then nI (bad1 α) else -1
def stA (α : DD) (b : Nat) : Nat := if bad1 α < α 2 1 then 2 else if b < α 2 1 then stC (α 1 b) else 2
def toA (α : DD) : Nat := if bad1 α < α 2 1 then 0 else α 2 1
/-- the dance that is told -/
def iA (α : DD) : DD := fun r i => if r = 0 then plA (α 0) i else if r = 1 then wyA (α 0) i else if r = 2 then stA α i else if i = 0 then nDa α else α 2 2
def OkA (α : DD) (β : Mem) : Prop := (α 2 0 ≤ 31 ∧ α 2 1 ≤ 24 ∧ (∀ i, i < α 2 0 → α 0 i ≤ 255) ∧ ∀ i, i < α 2 1 → α 1 i ≤ 255) ∧ (2 ≤ α 2 2 ∧ α 2 2 ≤ 30) ∧ (α 2 3 ≤ 8 ∧ ∀ e, e < α 2 3 → α 3 e ≤ 2 ∧ α 4 e < 24 ∧ α 5 e < 8) ∧ (α 2 4 ≤ 8 ∧ ∀ j, j < α 2 4 → α 6 j < 24 ∧ α 7 j ≤ 120) ∧ ∀ s, s < 4 → α 8 s ≤ 60 ∧ (β 4 s = -1 ∨ ∃ f, f ≤ 2 ∧ β 4 s = nI f)
theorem stC_le (b : Nat) : stC b ≤ 3 ∨ stC b = 9 := by
  unfold stC
  split
  · omega
  · split
    · omega
    · split
      · omega
      · split <;> omega
theorem bad0_eq {α : DD} (h : ¬ bad0 α < α 2 0) : bad0 α = α 2 0 := Nat.le_antisymm (fbad_le _ _) (by omega)
theorem ok0 {α : DD} (h : ¬ bad0 α < α 2 0) {i : Nat} (hi : i < α 2 0) : okB (α 0) i = true := fbad_ok (n := α 2 0) (by
  have := bad0_eq h
  unfold bad0 at this
  omega)
theorem nDa_le {α : DD} (h : α 2 0 ≤ 31) : nDa α ≤ 8 := by
  unfold nDa
  split
  · omega
  · split <;> omega
theorem nDa_ok {α : DD} {d : Nat} (hd : d < nDa α) : ¬ bad0 α < α 2 0 ∧ 4 * d + 2 < α 2 0 := by
  unfold nDa at hd
  split at hd
  · omega
  · split at hd <;> omega
theorem plA_lt {α : DD} {d : Nat} (hd : d < nDa α) : plA (α 0) d < 12 := by
  obtain ⟨h1, h2⟩ := nDa_ok hd
  have := ok0 h1 (i := 4 * d) (by omega)
  unfold okB at this
  rw [if_pos (by omega)] at this
  simp at this
  unfold plA
  omega
theorem wyA_le (B : Nat → Nat) (d : Nat) : wyA B d ≤ 1 := by
  unfold wyA
  split <;> omega
theorem coA_lt {α : DD} {d : Nat} (hd : d < nDa α) : coA (α 0) d < 10 := by
  obtain ⟨h1, h2⟩ := nDa_ok hd
  have := ok0 h1 (i := 4 * d + 2) (by omega)
  unfold okB at this
  rw [if_neg (by omega), if_neg (by omega), if_pos (by omega)] at this
  simp at this
  unfold coA
  omega
theorem stA_le (α : DD) (b : Nat) : stA α b ≤ 3 := by
  unfold stA
  split
  · omega
  · rename_i h
    split
    · rename_i h2
      have e : bad1 α = α 2 1 := Nat.le_antisymm (fbad_le _ _) (by omega)
      have := fbad_ok (p := fun i => !(stC (α 1 i) == 9)) (n := α 2 1) (i := b) (by unfold bad1 at e; omega)
      simp at this
      have := stC_le (α 1 b)
      omega
    · omega
theorem OkI_iA {α : DD} {β : Mem} (h : OkA α β) : OkI (iA α) := by
  refine ⟨?_, ?_, fun i hi => ?_, fun b hb => ?_⟩
  · simpa [iA] using nDa_le h.1.1
  · simpa [iA] using h.2.1.2
  · have hi2 : i < nDa α := by simpa [iA] using hi
    exact ⟨by simpa [iA] using plA_lt hi2, by simpa [iA] using wyA_le (α 0) i⟩
  · simpa [iA] using stA_le α b
theorem iA30 (α : DD) : iA α 3 0 = nDa α := by simp [iA]
theorem iA31 (α : DD) : iA α 3 1 = α 2 2 := by simp [iA]
theorem iA0 (α : DD) (i : Nat) : iA α 0 i = plA (α 0) i := by simp [iA]
theorem iA1 (α : DD) (i : Nat) : iA α 1 i = wyA (α 0) i := by simp [iA]
theorem iA2 (α : DD) (b : Nat) : iA α 2 b = stA α b := by simp [iA]
/-! numbers -/
theorem ltz (x : Int32) : (x < 0) = (x.toInt < 0) := propext Int32.lt_iff_toInt_lt
theorem ltk (x : Int32) {k : Nat} (hk : k < 2 ^ 31) : (x < nI k) = (x.toInt < k) := by
  rw [← nI_toInt hk]
  exact propext Int32.lt_iff_toInt_lt
theorem lek (x : Int32) {k : Nat} (hk : k < 2 ^ 31) : (x ≤ nI k) = (x.toInt ≤ k) := by
  rw [← nI_toInt hk]
  exact propext Int32.le_iff_toInt_le
theorem klt (x : Int32) {k : Nat} (hk : k < 2 ^ 31) : (nI k < x) = ((k : Int) < x.toInt) := by
  rw [← nI_toInt hk]
  exact propext Int32.lt_iff_toInt_lt
theorem kle (x : Int32) {k : Nat} (hk : k < 2 ^ 31) : (nI k ≤ x) = ((k : Int) ≤ x.toInt) := by
  rw [← nI_toInt hk]
  exact propext Int32.le_iff_toInt_le
theorem eqk (x : Int32) {k : Nat} (hk : k < 2 ^ 31) : (x = nI k) = (x.toInt = k) := by
  rw [← nI_toInt hk]
  exact propext ⟨fun h => by rw [h], fun h => Int32.toInt_inj.mp h⟩
theorem ix3 (x : Int32) (n : Nat) (hn : n < 2 ^ 31) : x.toInt < 0 ∨ (n : Int) ≤ x.toInt ∨ ∃ j, j < n ∧ x = nI j := by
  by_cases h1 : x.toInt < 0
  · exact Or.inl h1
  · by_cases h2 : (n : Int) ≤ x.toInt
    · exact Or.inr (Or.inl h2)
    · refine Or.inr (Or.inr ⟨x.toInt.toNat, by omega, ?_⟩)
      rw [eqk x (by omega)]
      omega
theorem s_in {x : Int32} {lo hi : Int64} {a b : Int} {σ : Mem} {Q : Int32 → Mem → Prop} (h1 : lo.toInt = a) (h2 : hi.toInt = b) (hq : Q (if (a ≤ x.toInt ∧ x.toInt ≤ b) then 1 else 0) σ) : wX7_in x.toInt64 lo hi σ Q := by
  have e : x.toInt64.toInt = x.toInt := Int32.toInt_toInt64 x
  unfold wX7_in
  rw [Int64.lt_iff_toInt_lt, Int64.lt_iff_toInt_lt, e, h1, h2]
  refine ⟨fun z => ?_, fun z => ⟨fun y => ?_, fun y => ?_⟩⟩
  · rw [if_neg (by omega)] at hq; exact hq
  · rw [if_neg (by omega)] at hq; exact hq
  · rw [if_pos (by omega)] at hq; exact hq
theorem s_isTwo {x : Int32} {σ : Mem} {Q : Int32 → Mem → Prop} (hq : Q (if (0 ≤ x.toInt ∧ x.toInt ≤ 1) then 1 else 0) σ) : wX7_isTwo x σ Q := by
  unfold wX7_isTwo
  exact s_in (a := 0) (b := 1) rfl rfl ⟨bzi _, hq⟩
theorem rem4 {n : Nat} (h : n < 2 ^ 31) : nI n - nI n / (4 : Int32) * (4 : Int32) = nI (n % 4) := pk_rem (d := 4) h (by omega) (by omega)
theorem div4 {n : Nat} (h : n < 2 ^ 31) : nI n / (4 : Int32) = nI (n / 4) := pk_div (d := 4) h (by omega) (by omega)
theorem anyN_cong {p q : Nat → Bool} : ∀ {n : Nat}, (∀ i, i < n → p i = q i) → anyN p n = anyN q n
  | 0, _ => rfl
  | n + 1, h => by
    show (anyN p n || p n) = (anyN q n || q n)
    rw [anyN_cong (fun i hi => h i (by omega)), h n (by omega)]
