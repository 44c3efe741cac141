/-! THE DANCE as numbers: rows 0 place, 1 way, 2 left, 3 loose, 4 (on, woven, unwound, met), 5 over, 6 under, 7 when, 8 went, 9 before -/
abbrev DD : Type := Nat → Nat → Nat
def un (D : DD) (r i v : Nat) : DD := fun r' i' => if r' = r ∧ i' = i then v else D r' i'
def stepP (w p : Nat) : Nat := if w = 0 then (if p = 11 then 0 else p + 1) else (if p = 0 then 11 else p - 1)
def unwindD (D : DD) (o u : Nat) : DD := un (un (un (un D 4 0 (D 4 0 - 1)) 4 2 (D 4 2 + 1)) 2 o (D 2 o + 1)) 2 u (D 2 u + 1)
def weaveD (D : DD) (b o u : Nat) : DD := un (un (un (un (un (un (un (un D 5 (D 4 0) o) 6 (D 4 0) u) 7 (D 4 0) b) 8 (D 4 0) (D 1 o)) 4 0 (D 4 0 + 1)) 4 1 (D 4 1 + 1)) 2 o (D 2 o - 1)) 2 u (D 2 u - 1)
def crossD (D : DD) (b o u : Nat) : DD := if (0 < D 4 0 ∧ D 5 (D 4 0 - 1) = o ∧ D 6 (D 4 0 - 1) = u ∧ ¬ D 8 (D 4 0 - 1) = D 1 o) then unwindD D o u else if (0 < D 2 o ∧ 0 < D 2 u) then weaveD D b o u else D
def firstD (s w : Nat) (wa wc : Bool) : Bool := ((s == 0) == (w == 0)) != (wa != wc)
def pairD (s : Nat) (wr : Nat → Bool) (b a c : Nat) (D : DD) : DD := if (¬ D 1 a = D 1 c ∧ ¬ D 9 a = D 9 c ∧ ((D 0 a = D 9 c ∧ D 0 c = D 9 a) ∨ D 0 a = D 0 c)) then (if (D 3 a = 0 ∧ D 3 c = 0) then (if firstD s (D 1 a) (wr a) (wr c) then crossD (un D 4 3 (D 4 3 + 1)) b a c else crossD (un D 4 3 (D 4 3 + 1)) b c a) else un D 4 3 (D 4 3 + 1)) else D
def innerD (s : Nat) (wr : Nat → Bool) (b a : Nat) (D : DD) (k : Nat) : DD := itn (fun k D => pairD s wr b a (a + 1 + k) D) D k
def meetD (s : Nat) (wr : Nat → Bool) (b nd : Nat) (D : DD) (a : Nat) : DD := itn (fun a D => innerD s wr b a D (nd - (a + 1))) D a
def staysD (st : Nat → Bool) (D : DD) (i : Nat) : Prop := st i = true ∨ (D 3 i = 0 ∧ D 2 i = 0)
def movedP (st : Nat → Bool) (D : DD) (i : Nat) : Nat := if (st i = true ∨ (D 3 i = 0 ∧ D 2 i = 0)) then D 0 i else stepP (D 1 i) (D 0 i)
def moveD (st : Nat → Bool) (D : DD) : DD := fun r i => if r = 9 then D 0 i else if r = 0 then movedP st D i else D r i
def loosenD (lt : Nat → Bool) (D : DD) : DD := fun r i => if r = 3 then (if lt i = true then 1 else D 3 i) else if (r = 4 ∧ i = 3) then 0 else D r i
def turnD (D : DD) : DD := fun r i => if r = 1 then 1 - D 1 i else D r i
/-- ι: rows 0 place, 1 way, 2 steps, 3 (how many, length); bk kind beat who -/
def beatD (ι : DD) (bk : Nat → Nat → Nat → Bool) (b : Nat) (D : DD) : DD := if ι 2 b = 3 then turnD (loosenD (bk 2 b) D) else if ι 2 b < 2 then meetD (ι 2 b) (bk 1 b) b (ι 3 0) (moveD (bk 0 b) (loosenD (bk 2 b) D)) (ι 3 0) else loosenD (bk 2 b) D
def startD (ι : DD) : DD := fun r i => if r = 0 then ι 0 i else if r = 1 then ι 1 i else if r = 2 then ι 3 1 else 0
def danceD (ι : DD) (bk : Nat → Nat → Nat → Bool) (b : Nat) : DD := itn (beatD ι bk) (startD ι) b
/-- what keeps the numbers small -/
def WF (D : DD) (nd len : Nat) : Prop := (∀ i, i < nd → D 0 i < 12 ∧ D 1 i ≤ 1 ∧ D 3 i ≤ 1 ∧ D 9 i < 12) ∧ (∀ i, i < D 4 0 → D 5 i < nd ∧ D 6 i < nd ∧ D 7 i < 24 ∧ D 8 i ≤ 1) ∧ 2 * D 4 0 + fb_sm (D 2) nd = nd * len
theorem fb_sm_two (f : Nat → Nat) {n o u : Nat} (ho : o < n) (hu : u < n) (hne : o ≠ u) : f o + f u ≤ fb_sm f n := by
  have h1 := fb_sm_upd f 0 ho
  have h2 := fb_sm_upd (fun k => if k = o then 0 else f k) 0 hu
  have e : (if u = o then 0 else f u) = f u := if_neg (fun z => hne z.symm)
  simp only [e] at h2
  omega
theorem fb_sm_one (f : Nat → Nat) {n o : Nat} (ho : o < n) : f o ≤ fb_sm f n := by
  have h1 := fb_sm_upd f 0 ho
  omega
theorem WF.on {D : DD} {nd len : Nat} (h : WF D nd len) (h1 : nd ≤ 8) (h2 : len ≤ 30) : D 4 0 ≤ 120 := by
  have h3 := h.2.2
  have h4 : nd * len ≤ 8 * 30 := Nat.mul_le_mul h1 h2
  omega
theorem WF.left {D : DD} {nd len i : Nat} (h : WF D nd len) (h1 : nd ≤ 8) (h2 : len ≤ 30) (hi : i < nd) : D 2 i ≤ 240 := by
  have h3 := h.2.2
  have h4 : nd * len ≤ 8 * 30 := Nat.mul_le_mul h1 h2
  have h5 := fb_sm_one (D 2) hi
  omega
theorem WF.room {D : DD} {nd len o u : Nat} (h : WF D nd len) (h1 : nd ≤ 8) (h2 : len ≤ 30) (ho : o < nd) (hu : u < nd) (hne : o ≠ u) (l1 : 0 < D 2 o) (l2 : 0 < D 2 u) : D 4 0 < 120 := by
  have h3 := h.2.2
  have h4 : nd * len ≤ 8 * 30 := Nat.mul_le_mul h1 h2
  have h5 := fb_sm_two (D 2) ho hu hne
  omega
theorem un_row (D : DD) (r i v : Nat) : un D r i v r = fun k => if k = i then v else D r k := by
  funext k
  simp [un]
theorem sm_two {f g : Nat → Nat} {n o u a c : Nat} (ho : o < n) (hu : u < n) (hne : o ≠ u) (hg : ∀ k, g k = if k = u then c else if k = o then a else f k) : fb_sm g n + f o + f u = fb_sm f n + a + c := by
  have h1 := fb_sm_upd f a ho
  have h2 := fb_sm_upd (fun k => if k = o then a else f k) c hu
  have e : (if u = o then a else f u) = f u := if_neg (fun z => hne z.symm)
  simp only [e] at h2
  have e2 : fb_sm g n = fb_sm (fun k => if k = u then c else if k = o then a else f k) n := fb_sm_cong (fun k _ => hg k)
  omega
theorem WF_cross {D : DD} {nd len b o u : Nat} (h : WF D nd len) (hb : b < 24) (ho : o < nd) (hu : u < nd) (hne : o ≠ u) : WF (crossD D b o u) nd len := by
  obtain ⟨w1, w2, w3⟩ := h
  have hne2 : ¬ u = o := fun z => hne z.symm
  unfold crossD
  by_cases c1 : (0 < D 4 0 ∧ D 5 (D 4 0 - 1) = o ∧ D 6 (D 4 0 - 1) = u ∧ ¬ D 8 (D 4 0 - 1) = D 1 o)
  · rw [if_pos c1]
    refine ⟨fun i hi => ?_, fun i hi => ?_, ?_⟩
    · simpa [unwindD, un] using w1 i hi
    · have hi2 : i < D 4 0 - 1 := by simpa [unwindD, un] using hi
      simpa [unwindD, un] using w2 i (by omega)
    · have e := sm_two (g := unwindD D o u 2) (f := D 2) (a := D 2 o + 1) (c := D 2 u + 1) ho hu hne (fun k => by simp [unwindD, un])
      have e4 : unwindD D o u 4 0 = D 4 0 - 1 := by simp [unwindD, un]
      rw [e4]
      omega
  · rw [if_neg c1]
    by_cases c2 : (0 < D 2 o ∧ 0 < D 2 u)
    · rw [if_pos c2]
      refine ⟨fun i hi => ?_, fun i hi => ?_, ?_⟩
      · simpa [weaveD, un] using w1 i hi
      · have hi2 : i < D 4 0 + 1 := by simpa [weaveD, un] using hi
        by_cases e : i = D 4 0
        · subst e
          have := w1 o ho
          simp [weaveD, un]
          omega
        · have := w2 i (by omega)
          simpa [weaveD, un, e] using this
      · have e := sm_two (g := weaveD D b o u 2) (f := D 2) (a := D 2 o - 1) (c := D 2 u - 1) ho hu hne (fun k => by simp [weaveD, un])
        have e4 : weaveD D b o u 4 0 = D 4 0 + 1 := by simp [weaveD, un]
        rw [e4]
        omega
    · rw [if_neg c2]
      exact ⟨w1, w2, w3⟩
theorem WF_met {D : DD} {nd len v : Nat} (h : WF D nd len) : WF (un D 4 3 v) nd len := by
  obtain ⟨w1, w2, w3⟩ := h
  refine ⟨fun i hi => by simpa [un] using w1 i hi, fun i hi => ?_, ?_⟩
  · have hi2 : i < D 4 0 := by simpa [un] using hi
    simpa [un] using w2 i hi2
  · have e : un D 4 3 v 2 = D 2 := by funext k; simp [un]
    rw [e]
    simpa [un] using w3
theorem WF_pair {D : DD} {nd len b a c s : Nat} {wr : Nat → Bool} (h : WF D nd len) (hb : b < 24) (ha : a < nd) (hc : c < nd) (hne : a ≠ c) : WF (pairD s wr b a c D) nd len := by
  unfold pairD
  split
  · split
    · split
      · exact WF_cross (WF_met h) hb ha hc hne
      · exact WF_cross (WF_met h) hb hc ha (fun z => hne z.symm)
    · exact WF_met h
  · exact h
theorem WF_inner {D : DD} {nd len b a s : Nat} {wr : Nat → Bool} (h : WF D nd len) (hb : b < 24) (ha : a < nd) : ∀ k, a + 1 + k ≤ nd → WF (innerD s wr b a D k) nd len
  | 0, _ => h
  | k + 1, hk => WF_pair (WF_inner h hb ha k (by omega)) hb ha (by omega) (by omega)
theorem WF_meet {D : DD} {nd len b s : Nat} {wr : Nat → Bool} (h : WF D nd len) (hb : b < 24) : ∀ a, a ≤ nd → WF (meetD s wr b nd D a) nd len
  | 0, _ => h
  | a + 1, ha => WF_inner (WF_meet h hb a (by omega)) hb (by omega) _ (by omega)
theorem stepP_lt {w p : Nat} (h : p < 12) : stepP w p < 12 := by
  unfold stepP
  split <;> split <;> omega
theorem WF_move {D : DD} {nd len : Nat} {st : Nat → Bool} (h : WF D nd len) : WF (moveD st D) nd len := by
  obtain ⟨w1, w2, w3⟩ := h
  refine ⟨fun i hi => ?_, fun i hi => ?_, ?_⟩
  · have := w1 i hi
    simp only [moveD, movedP]
    refine ⟨?_, ?_, ?_, ?_⟩
    · simp
      split
      · omega
      · exact stepP_lt this.1
    · simpa using this.2.1
    · simpa using this.2.2.1
    · simpa using this.1
  · have hi2 : i < D 4 0 := by simpa [moveD] using hi
    simpa [moveD] using w2 i hi2
  · have e : moveD st D 2 = D 2 := by funext k; simp [moveD]
    rw [e]
    simpa [moveD] using w3
theorem WF_loosen {D : DD} {nd len : Nat} {lt : Nat → Bool} (h : WF D nd len) : WF (loosenD lt D) nd len := by
  obtain ⟨w1, w2, w3⟩ := h
  refine ⟨fun i hi => ?_, fun i hi => ?_, ?_⟩
  · have := w1 i hi
    refine ⟨by simpa [loosenD] using this.1, by simpa [loosenD] using this.2.1, ?_, by simpa [loosenD] using this.2.2.2⟩
    simp only [loosenD, if_true]
    split <;> omega
  · have hi2 : i < D 4 0 := by simpa [loosenD] using hi
    simpa [loosenD] using w2 i hi2
  · have e : loosenD lt D 2 = D 2 := by funext k; simp [loosenD]
    rw [e]
    simpa [loosenD] using w3
theorem WF_turn {D : DD} {nd len : Nat} (h : WF D nd len) : WF (turnD D) nd len := by
  obtain ⟨w1, w2, w3⟩ := h
  refine ⟨fun i hi => ?_, fun i hi => ?_, ?_⟩
  · have := w1 i hi
    refine ⟨by simpa [turnD] using this.1, by simp [turnD], by simpa [turnD] using this.2.2.1, by simpa [turnD] using this.2.2.2⟩
  · have hi2 : i < D 4 0 := by simpa [turnD] using hi
    simpa [turnD] using w2 i hi2
  · have e : turnD D 2 = D 2 := by funext k; simp [turnD]
    rw [e]
    simpa [turnD] using w3
/-- numbers that a dance may be begun with -/
def OkI (ι : DD) : Prop := ι 3 0 ≤ 8 ∧ ι 3 1 ≤ 30 ∧ (∀ i, i < ι 3 0 → ι 0 i < 12 ∧ ι 1 i ≤ 1) ∧ ∀ b, b < 24 → ι 2 b ≤ 3
theorem WF_beat {ι D : DD} {bk : Nat → Nat → Nat → Bool} {b len : Nat} (h : WF D (ι 3 0) len) (hb : b < 24) : WF (beatD ι bk b D) (ι 3 0) len := by
  unfold beatD
  split
  · exact WF_turn (WF_loosen h)
  · split
    · exact WF_meet (WF_move (WF_loosen h)) hb _ (Nat.le_refl _)
    · exact WF_loosen h
theorem WF_start {ι : DD} (h : OkI ι) : WF (startD ι) (ι 3 0) (ι 3 1) := by
  refine ⟨fun i hi => ?_, fun i hi => by simp [startD] at hi, ?_⟩
  · have := h.2.2.1 i hi
    simp [startD]
    omega
  · have e : startD ι 2 = fun _ => ι 3 1 := by funext k; simp [startD]
    rw [e, fb_sm_const]
    simp [startD]
theorem WF_dance {ι : DD} {bk : Nat → Nat → Nat → Bool} (h : OkI ι) : ∀ b, b ≤ 24 → WF (danceD ι bk b) (ι 3 0) (ι 3 1)
  | 0, _ => WF_start h
  | b + 1, hb => WF_beat (WF_dance h b (by omega)) (by omega)
/-- a memory's rows hold the numbers D -/
def RG (pl wy lf ov us wn wt : Nat → Int32) (on wo uw : Int32) (D : DD) (nd : Nat) : Prop := (∀ i, i < nd → pl i = nI (D 0 i) ∧ wy i = nI (D 1 i) ∧ lf i = nI (D 2 i)) ∧ (∀ i, i < D 4 0 → ov i = nI (D 5 i) ∧ us i = nI (D 6 i) ∧ wn i = nI (D 7 i) ∧ wt i = nI (D 8 i)) ∧ on = nI (D 4 0) ∧ wo = nI (D 4 1) ∧ uw = nI (D 4 2)
theorem nI_m1 {n : Nat} (h : 0 < n) : nI n - 1 = nI (n - 1) := by
  obtain ⟨k, rfl⟩ : ∃ k, n = k + 1 := ⟨n - 1, by omega⟩
  exact nI_pred k
theorem RG_unwind {pl wy lf ov us wn wt : Nat → Int32} {on wo uw : Int32} {D : DD} {nd o u : Nat} (h : RG pl wy lf ov us wn wt on wo uw D nd) (ho : o < nd) (hu : u < nd) (hne : o ≠ u) (hon : 0 < D 4 0) : RG pl wy (upd (upd lf o (lf o + 1)) u (lf u + 1)) ov us wn wt (on - 1) wo (uw + 1) (unwindD D o u) nd := by
  obtain ⟨r1, r2, r3, r4, r5⟩ := h
  have hne2 : ¬ u = o := fun z => hne z.symm
  refine ⟨fun i hi => ?_, fun i hi => ?_, ?_, ?_, ?_⟩
  · obtain ⟨a1, a2, a3⟩ := r1 i hi
    refine ⟨by simpa [unwindD, un] using a1, by simpa [unwindD, un] using a2, ?_⟩
    by_cases e1 : i = u
    · subst e1
      simp [unwindD, un, upd, (r1 i hi).2.2, nI_1]
    · by_cases e2 : i = o
      · subst e2
        simp [unwindD, un, upd, e1, (r1 i hi).2.2, nI_1]
      · simp [unwindD, un, upd, e1, e2, a3]
  · have hi2 : i < D 4 0 - 1 := by simpa [unwindD, un] using hi
    simpa [unwindD, un] using r2 i (by omega)
  · rw [r3, nI_m1 hon]
    simp [unwindD, un]
  · simpa [unwindD, un] using r4
  · rw [r5, nI_1]
    simp [unwindD, un]
theorem RG_weave {pl wy lf ov us wn wt : Nat → Int32} {on wo uw : Int32} {D : DD} {nd o u b : Nat} (h : RG pl wy lf ov us wn wt on wo uw D nd) (ho : o < nd) (hu : u < nd) (hne : o ≠ u) (h1 : 0 < D 2 o) (h2 : 0 < D 2 u) : RG pl wy (upd (upd lf o (lf o - 1)) u (lf u - 1)) (upd ov (D 4 0) (nI o)) (upd us (D 4 0) (nI u)) (upd wn (D 4 0) (nI b)) (upd wt (D 4 0) (wy o)) (on + 1) (wo + 1) uw (weaveD D b o u) nd := by
  obtain ⟨r1, r2, r3, r4, r5⟩ := h
  have hne2 : ¬ u = o := fun z => hne z.symm
  refine ⟨fun i hi => ?_, fun i hi => ?_, ?_, ?_, ?_⟩
  · obtain ⟨a1, a2, a3⟩ := r1 i hi
    refine ⟨by simpa [weaveD, un] using a1, by simpa [weaveD, un] using a2, ?_⟩
    by_cases e1 : i = u
    · subst e1
      simp [weaveD, un, upd, (r1 i hi).2.2, nI_m1 h2]
    · by_cases e2 : i = o
      · subst e2
        simp [weaveD, un, upd, e1, (r1 i hi).2.2, nI_m1 h1]
      · simp [weaveD, un, upd, e1, e2, a3]
  · have hi2 : i < D 4 0 + 1 := by simpa [weaveD, un] using hi
    by_cases e : i = D 4 0
    · subst e
      simp [weaveD, un, upd, (r1 o ho).2.1]
    · have := r2 i (by omega)
      simpa [weaveD, un, upd, e] using this
  · rw [r3, nI_1]
    simp [weaveD, un]
  · rw [r4, nI_1]
    simp [weaveD, un]
  · simpa [weaveD, un] using r5
theorem RG_met {pl wy lf ov us wn wt : Nat → Int32} {on wo uw : Int32} {D : DD} {nd v : Nat} (h : RG pl wy lf ov us wn wt on wo uw D nd) : RG pl wy lf ov us wn wt on wo uw (un D 4 3 v) nd := by
  obtain ⟨r1, r2, r3, r4, r5⟩ := h
  refine ⟨fun i hi => by simpa [un] using r1 i hi, fun i hi => ?_, by simpa [un] using r3, by simpa [un] using r4, by simpa [un] using r5⟩
  have hi2 : i < D 4 0 := by simpa [un] using hi
  simpa [un] using r2 i hi2
