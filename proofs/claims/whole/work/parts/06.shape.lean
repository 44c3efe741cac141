def shXl : List wDs := [.inr (.inr (6, [some 1, some 6, some 10, some 15, some 20, some 35, some 50, some 53, some 62, some 63, some 64, none, none, none, none])), .inr (.inl (0, 2, fun i => 2 + 2 * i)), .inr (.inr (5, [none, some 3, none, none])), .inl 31, .inr (.inr (5, [none, some 5, none, none])), .inl 31, .inr (.inr (1, [some 7, some 8, some 9, none])), .inl 8, .inl 8, .inl 8, .inr (.inr (3, [some 11, some 12, some 13, some 14, none, none, none])), .inl 8, .inl 8, .inl 8, .inl 24, .inr (.inr (3, [some 16, some 17, some 18, some 19, none, none, none])), .inl 8, .inl 8, .inl 8, .inl 24, .inr (.inr (0, [some 21, some 22, some 23, some 24, some 25, some 26, some 27, some 28, some 29, some 30, some 31, some 32, some 33, some 34, none, none, none, none, none])), .inl 72, .inl 8, .inl 8, .inl 8, .inl 8, .inl 192, .inl 192, .inl 192, .inl 24, .inl 24, .inl 120, .inl 120, .inl 120, .inl 120, .inr (.inr (0, [some 36, some 37, some 38, some 39, some 40, some 41, some 42, some 43, some 44, some 45, some 46, some 47, some 48, some 49, none, none, none, none, none])), .inl 72, .inl 8, .inl 8, .inl 8, .inl 8, .inl 192, .inl 192, .inl 192, .inl 24, .inl 24, .inl 120, .inl 120, .inl 120, .inl 120, .inr (.inr (2, [some 51, some 52, none])), .inl 8, .inl 8, .inr (.inl (1, 4, fun i => 54 + 2 * i)), .inr (.inr (4, [some 55, none, none])), .inl 60, .inr (.inr (4, [some 57, none, none])), .inl 60, .inr (.inr (4, [some 59, none, none])), .inl 60, .inr (.inr (4, [some 61, none, none])), .inl 60, .inl 256, .inl 696, .inl 121]
def shMl : List wDs := [.inr (.inr (7, [some 1, some 2, some 3, some 4, none, some 5, some 6, none, some 7, none, some 8, none, none, some 9, none, some 10, some 11, some 12, some 13, none, none, some 14, some 15, some 16, some 17, none, none, none, some 18, some 19, some 20, some 21, some 22, none, some 23, some 24, none])), .inl 4, .inl 4, .inl 240, .inl 60, .inl 64, .inl 2, .inl 24, .inl 24, .inl 24, .inl 8, .inl 8, .inl 8, .inl 8, .inl 120, .inl 120, .inl 120, .inl 120, .inl 192, .inl 192, .inl 192, .inl 24, .inl 24, .inl 16, .inl 744]
def shX (k : Nat) : wDs := shXl.getD k (.inl 0)
def shM (k : Nat) : wDs := shMl.getD k (.inl 0)
def wX (E : wE) : Prop := (∀ k, sE E k = shX k) ∧ nE E = 65 ∧ wI E
theorem nX {E : wE} (hE : wX E) {k : Nat} (h : k < 65) : k < nE E := by rw [hE.2.1]; exact h
def wM (E : wE) : Prop := (∀ k, sE E k = shM k) ∧ nE E = 25 ∧ wI E
theorem nM {E : wE} (hE : wM E) {k : Nat} (h : k < 25) : k < nE E := by rw [hE.2.1]; exact h
def isD (d : Nat) : Prop := d = 20 ∨ d = 35
theorem nD {E : wE} (hE : wX E) {d c : Nat} (hd : isD d) (h : c ≤ d + 14) : c < nE E := by
  rw [hE.2.1]
  unfold isD at hd
  omega
theorem sD {E : wE} (hE : wX E) {d : Nat} (hd : isD d) : sE E d = .inr (.inr (0, [some (d + 1), some (d + 2), some (d + 3), some (d + 4), some (d + 5), some (d + 6), some (d + 7), some (d + 8), some (d + 9), some (d + 10), some (d + 11), some (d + 12), some (d + 13), some (d + 14), none, none, none, none, none])) := by
  rw [hE.1]
  rcases hd with rfl | rfl <;> rfl
theorem sD_1 {E : wE} (hE : wX E) {d : Nat} (hd : isD d) : sE E (d + 1) = .inl 72 := by
  rw [hE.1]
  rcases hd with rfl | rfl <;> rfl
theorem sD_2 {E : wE} (hE : wX E) {d : Nat} (hd : isD d) : sE E (d + 2) = .inl 8 := by
  rw [hE.1]
  rcases hd with rfl | rfl <;> rfl
theorem sD_3 {E : wE} (hE : wX E) {d : Nat} (hd : isD d) : sE E (d + 3) = .inl 8 := by
  rw [hE.1]
  rcases hd with rfl | rfl <;> rfl
theorem sD_4 {E : wE} (hE : wX E) {d : Nat} (hd : isD d) : sE E (d + 4) = .inl 8 := by
  rw [hE.1]
  rcases hd with rfl | rfl <;> rfl
theorem sD_5 {E : wE} (hE : wX E) {d : Nat} (hd : isD d) : sE E (d + 5) = .inl 8 := by
  rw [hE.1]
  rcases hd with rfl | rfl <;> rfl
theorem sD_6 {E : wE} (hE : wX E) {d : Nat} (hd : isD d) : sE E (d + 6) = .inl 192 := by
  rw [hE.1]
  rcases hd with rfl | rfl <;> rfl
theorem sD_7 {E : wE} (hE : wX E) {d : Nat} (hd : isD d) : sE E (d + 7) = .inl 192 := by
  rw [hE.1]
  rcases hd with rfl | rfl <;> rfl
theorem sD_8 {E : wE} (hE : wX E) {d : Nat} (hd : isD d) : sE E (d + 8) = .inl 192 := by
  rw [hE.1]
  rcases hd with rfl | rfl <;> rfl
theorem sD_9 {E : wE} (hE : wX E) {d : Nat} (hd : isD d) : sE E (d + 9) = .inl 24 := by
  rw [hE.1]
  rcases hd with rfl | rfl <;> rfl
theorem sD_10 {E : wE} (hE : wX E) {d : Nat} (hd : isD d) : sE E (d + 10) = .inl 24 := by
  rw [hE.1]
  rcases hd with rfl | rfl <;> rfl
theorem sD_11 {E : wE} (hE : wX E) {d : Nat} (hd : isD d) : sE E (d + 11) = .inl 120 := by
  rw [hE.1]
  rcases hd with rfl | rfl <;> rfl
theorem sD_12 {E : wE} (hE : wX E) {d : Nat} (hd : isD d) : sE E (d + 12) = .inl 120 := by
  rw [hE.1]
  rcases hd with rfl | rfl <;> rfl
theorem sD_13 {E : wE} (hE : wX E) {d : Nat} (hd : isD d) : sE E (d + 13) = .inl 120 := by
  rw [hE.1]
  rcases hd with rfl | rfl <;> rfl
theorem sD_14 {E : wE} (hE : wX E) {d : Nat} (hd : isD d) : sE E (d + 14) = .inl 120 := by
  rw [hE.1]
  rcases hd with rfl | rfl <;> rfl
theorem isD_20 : isD 20 := by unfold isD; decide
theorem isD_35 : isD 35 := by unfold isD; decide
def isS (d : Nat) : Prop := d = 10 ∨ d = 15
theorem nS {E : wE} (hE : wX E) {d c : Nat} (hd : isS d) (h : c ≤ d + 4) : c < nE E := by
  rw [hE.2.1]
  unfold isS at hd
  omega
theorem sS {E : wE} (hE : wX E) {d : Nat} (hd : isS d) : sE E d = .inr (.inr (3, [some (d + 1), some (d + 2), some (d + 3), some (d + 4), none, none, none])) := by
  rw [hE.1]
  rcases hd with rfl | rfl <;> rfl
theorem sS_1 {E : wE} (hE : wX E) {d : Nat} (hd : isS d) : sE E (d + 1) = .inl 8 := by
  rw [hE.1]
  rcases hd with rfl | rfl <;> rfl
theorem sS_2 {E : wE} (hE : wX E) {d : Nat} (hd : isS d) : sE E (d + 2) = .inl 8 := by
  rw [hE.1]
  rcases hd with rfl | rfl <;> rfl
theorem sS_3 {E : wE} (hE : wX E) {d : Nat} (hd : isS d) : sE E (d + 3) = .inl 8 := by
  rw [hE.1]
  rcases hd with rfl | rfl <;> rfl
theorem sS_4 {E : wE} (hE : wX E) {d : Nat} (hd : isS d) : sE E (d + 4) = .inl 24 := by
  rw [hE.1]
  rcases hd with rfl | rfl <;> rfl
theorem isS_10 : isS 10 := by unfold isS; decide
theorem isS_15 : isS 15 := by unfold isS; decide
def isT (d : Nat) : Prop := d = 2 ∨ d = 4
theorem nT {E : wE} (hE : wX E) {d c : Nat} (hd : isT d) (h : c ≤ d + 1) : c < nE E := by
  rw [hE.2.1]
  unfold isT at hd
  omega
theorem sT {E : wE} (hE : wX E) {d : Nat} (hd : isT d) : sE E d = .inr (.inr (5, [none, some (d + 1), none, none])) := by
  rw [hE.1]
  rcases hd with rfl | rfl <;> rfl
theorem sT_1 {E : wE} (hE : wX E) {d : Nat} (hd : isT d) : sE E (d + 1) = .inl 31 := by
  rw [hE.1]
  rcases hd with rfl | rfl <;> rfl
theorem isT_2 : isT 2 := by unfold isT; decide
theorem isT_4 : isT 4 := by unfold isT; decide
def isH (d : Nat) : Prop := d = 54 ∨ d = 56 ∨ d = 58 ∨ d = 60
theorem nH {E : wE} (hE : wX E) {d c : Nat} (hd : isH d) (h : c ≤ d + 1) : c < nE E := by
  rw [hE.2.1]
  unfold isH at hd
  omega
theorem sH {E : wE} (hE : wX E) {d : Nat} (hd : isH d) : sE E d = .inr (.inr (4, [some (d + 1), none, none])) := by
  rw [hE.1]
  rcases hd with rfl | rfl | rfl | rfl <;> rfl
theorem sH_1 {E : wE} (hE : wX E) {d : Nat} (hd : isH d) : sE E (d + 1) = .inl 60 := by
  rw [hE.1]
  rcases hd with rfl | rfl | rfl | rfl <;> rfl
theorem isH_54 : isH 54 := by unfold isH; decide
theorem isH_56 : isH 56 := by unfold isH; decide
theorem isH_58 : isH 58 := by unfold isH; decide
theorem isH_60 : isH 60 := by unfold isH; decide
theorem isH_of {i : Int32} (h : vp_in i 4) : isH (54 + 2 * i.toNatClampNeg) := by
  have h1 : i.toNatClampNeg < 4 := Nat.not_le.mp fun q => h (Or.inr q)
  unfold isH
  omega
theorem isT_of {i : Int32} (h : vp_in i 2) : isT (2 + 2 * i.toNatClampNeg) := by
  have h1 : i.toNatClampNeg < 2 := Nat.not_le.mp fun q => h (Or.inr q)
  unfold isT
  omega
theorem vin {i : Int32} {n : Nat} (h : decide (¬ (i < 0 ∨ n ≤ i.toNatClampNeg)) = true) : vp_in i n := of_decide_eq_true (p := ¬ (i < 0 ∨ n ≤ i.toNatClampNeg)) h
section WR6
variable {p : Program} {l : Launch} {e : Env} {R : Room} {s : State} {m : MethodId} {args : Array Value} {below : List Frame} {meth : Method} {c : Code} {H : Heap} {locs : List Loc} {cells slots : Nat} {Q : State → Prop}
variable {cc : ByteArray} {nL : Nat} {own : String} {E : wE} {A : Nat → Prop} {σ : Mem} {pc : Nat} {ls : Array Slot} {rest : List Value}
theorem x_ild (C : Cx p s m args c cc nL own E A) (hw : wd E A s σ H locs) {k n j : Nat} {i : Int32} (hk : sE E k = .inl n) (hN : k < nE E) (hin : vp_in i n) (hj : i.toNatClampNeg = j) (hdg : decode cc pc = .ok (.iaload, 1))
    (kk : W p l e R s m args below meth c H locs cells slots Q (F0 m (pc + 1) ls (.int (σ k j) :: rest))) : W p l e R s m args below meth c H locs cells slots Q (F0 m pc ls (.int i :: .ref (gE E k) :: rest)) := by
  subst hj
  exact x_iald C hw hk hN hin hdg kk
theorem x_ist (C : Cx p s m args c cc nL own E A) (hw : wd E A s σ H locs) {k n j : Nat} {i v : Int32} (hk : sE E k = .inl n) (hN : k < nE E) (hin : vp_in i n) (hj : i.toNatClampNeg = j) (hdg : decode cc pc = .ok (.iastore, 1))
    (kk : ∀ (τ : Mem) (H1 : Heap) (locs1 : List Loc), τ = um σ k j v → wd E A s τ H1 locs1 → W p l e R s m args below meth c H1 locs1 cells slots Q (F0 m (pc + 1) ls rest)) : W p l e R s m args below meth c H locs cells slots Q (F0 m pc ls (.int v :: .int i :: .ref (gE E k) :: rest)) := by
  subst hj
  exact x_iast C hw hk hN hin hdg (fun H1 locs1 h => kk _ H1 locs1 rfl h)
theorem x_pf (C : Cx p s m args c cc nL own E A) (hw : wd E A s σ H locs) {k idx ci j : Nat} {v : Int32} {ty : FieldType} {fs : List (Option Nat)} (hF : FLk own idx ci j ty false) (hk : sE E k = .inr (.inr (ci, fs))) (hN : k < nE E) (hf : fs[j]? = some none) (hn : narrow ty (.int v) = .int v) (hfit : fits ty (.int v) = true) (hdg : decode cc pc = .ok (.putfield idx, 3))
    (kk : ∀ (τ : Mem) (H1 : Heap) (locs1 : List Loc), τ = um σ k j v → wd E A s τ H1 locs1 → W p l e R s m args below meth c H1 locs1 cells slots Q (F0 m (pc + 3) ls rest)) : W p l e R s m args below meth c H locs cells slots Q (F0 m pc ls (.int v :: .ref (gE E k) :: rest)) :=
  x_put C hw hF hk hN hf hn hfit hdg (fun H1 locs1 h => kk _ H1 locs1 rfl h)
theorem x_pfN (C : Cx p s m args c cc nL own E A) (hw : wd E A s σ H locs) {k idx ci j : Nat} {v : Int32} {ty : FieldType} {fs : List (Option Nat)} (hF : FLn own idx ci j ty false) (hk : sE E k = .inr (.inr (ci, fs))) (hN : k < nE E) (hf : fs[j]? = some none) (hn : narrow ty (.int v) = .int v) (hfit : fits ty (.int v) = true) (hdg : decode cc pc = .ok (.putfield idx, 3))
    (kk : ∀ (τ : Mem) (H1 : Heap) (locs1 : List Loc), τ = um σ k j v → wd E A s τ H1 locs1 → W p l e R s m args below meth c H1 locs1 cells slots Q (F0 m (pc + 3) ls rest)) : W p l e R s m args below meth c H locs cells slots Q (F0 m pc ls (.int v :: .ref (gE E k) :: rest)) :=
  x_putN C hw hF hk hN hf hn hfit hdg (fun H1 locs1 h => kk _ H1 locs1 rfl h)
/-- the memory behind System.arraycopy -/
def cpM (σ : Mem) (k0 k1 sp dp n : Nat) : Mem := fun c => if c = k1 then va_cpy (σ k0) (σ k1) sp dp n else σ c
def cpOk (sp dp n : Int32) (n0 n1 : Nat) : Prop := (¬ sp < 0 ∧ ¬ dp < 0 ∧ ¬ n < 0) ∧ sp.toNatClampNeg + n.toNatClampNeg ≤ n0 ∧ dp.toNatClampNeg + n.toNatClampNeg ≤ n1
theorem x_cp (C : Cx p s m args c cc nL own E A) (hw : wd E A s σ H locs) (hls : ls.size = nL) {idx k0 k1 n0 n1 : Nat} {sp dp n : Int32} (hlk : Cond.methodLink own idx arraycopyName ∈ TB) (h0 : sE E k0 = .inl n0) (hN0 : k0 < nE E) (h1 : sE E k1 = .inl n1) (hN1 : k1 < nE E)
    (hnat : Cond.native arraycopyName ∈ TB) (hstat : Cond.static arraycopyName ∈ TB) (hini : Cond.initialized "java/lang/System" ∈ TB)
    (hb : cpOk sp dp n n0 n1) (hf : 1 ≤ R.frames) (hlo : (rest.map fun v => v.category).sum + (nativeFrameWords "java/lang/System" "arraycopy" 5 + 11) ≤ R.locals) (hdg : decode cc pc = .ok (.invokestatic idx, 3))
    (kk : ∀ (τ : Mem) (H1 : Heap) (locs1 : List Loc), τ = cpM σ k0 k1 sp.toNatClampNeg dp.toNatClampNeg n.toNatClampNeg → wd E A s τ H1 locs1 → W p l e R s m args below meth c H1 locs1 cells slots Q (F0 m (pc + 3) ls rest)) : W p l e R s m args below meth c H locs cells slots Q (F0 m pc ls (.int n :: .int dp :: .ref (gE E k1) :: .int sp :: .ref (gE E k0) :: rest)) :=
  x_copy C hw hls hlk h0 hN0 h1 hN1 hnat hstat hini hb hf hlo hdg (fun H1 locs1 h => kk _ H1 locs1 rfl h)
end WR6
