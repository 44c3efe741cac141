/-! the new objects -/
def al0 : DD := fun r i => if (r = 2 ∧ i = 2) then 20 else 0
def be0 : Mem := fun c _ => if c = 4 then -1 else 0
theorem ok0A : OkA al0 be0 := by
  refine ⟨⟨by decide, by decide, fun i hi => absurd hi (Nat.not_lt_zero _), fun i hi => absurd hi (Nat.not_lt_zero _)⟩, ⟨by decide, by decide⟩, ⟨by decide, fun e he => absurd he (Nat.not_lt_zero _)⟩, ⟨by decide, fun e he => absurd he (Nat.not_lt_zero _)⟩, fun s hs => ⟨?_, Or.inl rfl⟩⟩
  show (if (8 = 2 ∧ s = 2) then 20 else 0) ≤ 60
  rw [if_neg (by omega)]
  omega
theorem al_8 (s : Nat) : al0 8 s = 0 := by
  unfold al0
  rw [if_neg (by omega)]
theorem nd0 : nDa al0 = 0 := by decide
theorem ix0 : IX s0X al0 be0 := by
  refine ⟨⟨⟨⟨by decide, by decide, by decide, fun i hi => absurd hi (Nat.not_lt_zero _)⟩, by decide, by decide, by decide, fun i hi => absurd hi (Nat.not_lt_zero _)⟩, ⟨by decide, by decide, fun e he => absurd he (Nat.not_lt_zero _)⟩, ⟨by decide, by decide, by decide, fun i hi => ?_, fun b hb => ?_⟩, fun d hd => ?_, ⟨by decide, fun e he => absurd he (Nat.not_lt_zero _)⟩, fun s hs => ⟨?_, ?_, fun i hi => ?_⟩, by decide⟩, Or.inl rfl, Or.inl rfl, Or.inl rfl⟩
  · rw [iA30, nd0] at hi; omega
  · rw [iA2]
    show (if b < 24 then (2 : Int32) else 0) = _
    rw [if_pos hb]
    rfl
  · rw [nd0] at hd; omega
  · have : s = 0 ∨ s = 1 ∨ s = 2 ∨ s = 3 := by omega
    rcases this with rfl | rfl | rfl | rfl <;> rfl
  · rw [al_8]
    have : s = 0 ∨ s = 1 ∨ s = 2 ∨ s = 3 := by omega
    rcases this with rfl | rfl | rfl | rfl <;> rfl
  · rw [al_8] at hi; omega
theorem im0 : IM s0M al0 be0 := by
  refine ⟨⟨by decide, by decide, fun i hi => absurd hi (Nat.not_lt_zero _), fun i hi => absurd hi (Nat.not_lt_zero _)⟩, by decide, ⟨by decide, by decide, fun e he => absurd he (Nat.not_lt_zero _)⟩, by decide, ⟨by decide, fun e he => absurd he (Nat.not_lt_zero _)⟩, fun s hs => ⟨?_, ?_, fun i hi => ?_⟩, by decide⟩
  · have : s = 0 ∨ s = 1 ∨ s = 2 ∨ s = 3 := by omega
    rcases this with rfl | rfl | rfl | rfl <;> rfl
  · rw [al_8]
    have : s = 0 ∨ s = 1 ∨ s = 2 ∨ s = 3 := by omega
    rcases this with rfl | rfl | rfl | rfl <;> rfl
  · rw [al_8] at hi; omega
theorem rr0 : RR s0X s0M := ⟨al0, be0, ok0A, ix0, im0⟩
theorem lawOk : LawOk RR := ⟨L0, L1, L2, L3, L4, L5, L6, L7, L8, L9, L10, L11, L12, L13, L14, L15, L16, L17, L18, L19, L20, L21, L22, L23, L24, L25, L26, L27, L28, L29, L30, L31, L32, L33, L34, L35, L36, L37, L38⟩
