/-- a memory: what each int cell holds, by the cell's number and the place in it (an array's element, an object's field) -/
abbrev Mem : Type := Nat → Nat → Int32
/-- what a cell is: an int array of n; an array of references (kind, n, to which cells); an object (class, its fields: an int, or to which cell) -/
abbrev wDs : Type := Nat ⊕ ((Nat × Nat × (Nat → Nat)) ⊕ (Nat × List (Option Nat)))
abbrev wE : Type := va_G × (Nat → Nat) × Nat × (Nat → wDs) × (ClassId × ClassId × ClassId) × (Nat × Nat)
abbrev gE (E : wE) (k : Nat) : Nat := E.2.1 k
abbrev nE (E : wE) : Nat := E.2.2.1
abbrev sE (E : wE) (k : Nat) : wDs := E.2.2.2.1 k
abbrev tE (E : wE) : ClassId × ClassId × ClassId := E.2.2.2.2.1
abbrev aE (E : wE) : Nat × Nat := E.2.2.2.2.2
abbrev wT (E : wE) : List (ClassId × FieldType) := [((tE E).1, .int), ((tE E).2.1, .object "MayPole$Text"), ((tE E).2.2, .object "MayPole$Sheet")]
def um (σ : Mem) (k i : Nat) (v : Int32) : Mem := fun c => if c = k then upd (σ k) i v else σ c
theorem um_at (σ : Mem) (k i : Nat) (v : Int32) : um σ k i v k i = v := by simp [um, upd]
theorem um_row (σ : Mem) (k i : Nat) (v : Int32) : um σ k i v k = upd (σ k) i v := by simp [um]
theorem um_ne (σ : Mem) {k c : Nat} (i : Nat) (v : Int32) (h : c ≠ k) : um σ k i v c = σ c := by simp [um, h]
theorem um_nei (σ : Mem) {k i j : Nat} (v : Int32) (h : j ≠ i) : um σ k i v k j = σ k j := by simp [um, upd, h]
def wFs (g : Nat → Nat) (row : Nat → Int32) (fs : List (Option Nat)) : List Value := fs.mapIdx (fun j o => match o with | none => Value.int (row j) | some q => Value.ref (g q))
theorem wFs_i {g : Nat → Nat} {row : Nat → Int32} {fs : List (Option Nat)} {j : Nat} (h : fs[j]? = some none) : (wFs g row fs)[j]? = some (.int (row j)) := by
  simp [wFs, h]
theorem wFs_r {g : Nat → Nat} {row : Nat → Int32} {fs : List (Option Nat)} {j q : Nat} (h : fs[j]? = some (some q)) : (wFs g row fs)[j]? = some (.ref (g q)) := by
  simp [wFs, h]
theorem wFs_len {g : Nat → Nat} {row : Nat → Int32} {fs : List (Option Nat)} : (wFs g row fs).length = fs.length := by simp [wFs]
theorem wFs_set {g : Nat → Nat} {row : Nat → Int32} {fs : List (Option Nat)} {j : Nat} {v : Int32} (h : fs[j]? = some none) : (wFs g row fs).set j (.int v) = wFs g (upd row j v) fs := by
  apply List.ext_getElem?
  intro i
  rw [List.getElem?_set]
  have hlt : j < fs.length := (List.getElem?_eq_some_iff.mp h).1
  by_cases e : j = i
  · subst e
    rw [if_pos rfl, if_pos (by rw [wFs_len]; exact hlt), wFs_i h]
    simp [upd]
  · rw [if_neg e]
    have e2 : ¬ i = j := fun z => e z.symm
    simp only [wFs, List.getElem?_mapIdx]
    cases hq : fs[i]? with
    | none => rfl
    | some o => cases o with
      | none => simp [upd, e2]
      | some q => rfl
def wCe (g : Nat → Nat) (t : ClassId × ClassId × ClassId) (row : Nat → Int32) (d : wDs) : va_E := match d with
  | .inl n => .inl (t.1, n, .inl row)
  | .inr (.inl (k, n, f)) => .inl ((if k = 0 then t.2.1 else t.2.2), n, .inr (.inr (.inr (.inr (fun i => some (g (f i)))))))
  | .inr (.inr (ci, fs)) => .inr (ci, wFs g row fs)
def wL (E : wE) (σ : Mem) : va_W := (List.range (nE E)).map (fun k => (gE E k, wCe E.2.1 (tE E) (σ k) (sE E k)))
theorem wL_at {E : wE} {σ : Mem} {k : Nat} (h : k < nE E) : (wL E σ)[k]? = some (gE E k, wCe E.2.1 (tE E) (σ k) (sE E k)) := by
  simp [wL, h]
theorem wL_in {E : wE} {σ : Mem} {k : Nat} {q : Nat × va_E} (h : (wL E σ)[k]? = some q) : k < nE E ∧ q = (gE E k, wCe E.2.1 (tE E) (σ k) (sE E k)) := by
  have hk : k < nE E := by
    have := (List.getElem?_eq_some_iff.mp h).1
    simpa [wL] using this
  rw [wL_at hk] at h
  exact ⟨hk, (Option.some.inj h).symm⟩
theorem wL_set {E : wE} {σ τ : Mem} {k : Nat} (hk : k < nE E) (h : ∀ c, c ≠ k → τ c = σ c) : (wL E σ).set k (gE E k, wCe E.2.1 (tE E) (τ k) (sE E k)) = wL E τ := by
  apply List.ext_getElem?
  intro i
  rw [List.getElem?_set]
  by_cases e : k = i
  · subst e
    rw [if_pos rfl, if_pos (by simpa [wL] using hk), wL_at hk]
  · rw [if_neg e]
    have e2 : i ≠ k := fun z => e z.symm
    by_cases hi : i < nE E
    · rw [wL_at hi, wL_at hi, h i e2]
    · have l1 : (wL E σ)[i]? = none := by simp [wL]; omega
      have l2 : (wL E τ)[i]? = none := by simp [wL]; omega
      rw [l1, l2]
def wA (E : wE) : Nat → Prop := fun q => ∃ k, k < nE E ∧ q = gE E k
def wI (E : wE) : Prop := ∀ i j, i < nE E → j < nE E → gE E i = gE E j → i = j
theorem wD {E : wE} {σ : Mem} {A : Nat → Prop} (hI : wI E) (hA : ∀ q, wA E q → A q) : va_D A (wL E σ) := by
  refine ⟨fun i j p q hp hq e => ?_, fun k q hq => ?_⟩
  · obtain ⟨h1, rfl⟩ := wL_in hp
    obtain ⟨h2, rfl⟩ := wL_in hq
    exact hI i j h1 h2 e
  · obtain ⟨h1, rfl⟩ := wL_in hq
    exact hA _ ⟨k, h1, rfl⟩
def stP : Nat → Value := fun j => .int (match j with | 0 => 0 | 1 => 6 | 2 => 13 | _ => 23)
def stQ : Nat → Value := fun j => .int (match j with | 0 => 3 | 1 => 11 | _ => 23)
/-- the two tables that nobody writes -/
def ST (E : wE) (A : Nat → Prop) (U : State) (H : Heap) : Prop := (va_Z "MayPole" "BEATS_OF_PLACES" "[I" (.ref (aE E).1) A U H ∧ va_T .int (aE E).1 4 stP A U H) ∧ va_Z "MayPole" "BEATS_OF_PLANS" "[I" (.ref (aE E).2) A U H ∧ va_T .int (aE E).2 3 stQ A U H
theorem ST.moved {E : wE} {A : Nat → Prop} {u U : State} {H : Heap} (hvm : u.vm.Alike U.vm) (h : ST E A u H) : ST E A U H := ⟨⟨h.1.1.moved hvm, h.1.2.moved hvm⟩, h.2.1.moved hvm, h.2.2.moved hvm⟩
theorem ST.kept {E : wE} {A : Nat → Prop} {U : State} {H H1 : Heap} (h : ST E A U H) (hq : ∀ a : Nat, a < H.size → ¬ A a → H1[a]? = H[a]?) : ST E A U H1 := ⟨⟨h.1.1.kept hq, h.1.2.kept hq⟩, h.2.1.kept hq, h.2.2.kept hq⟩
theorem ST.narrow {E : wE} {A B : Nat → Prop} {U : State} {H : Heap} (h : ST E A U H) (hAB : ∀ q, B q → A q) : ST E B U H := ⟨⟨h.1.1.narrow hAB, h.1.2.narrow hAB⟩, h.2.1.narrow hAB, h.2.2.narrow hAB⟩
/-- the world of E with memory σ stands in the state U -/
def wB (E : wE) (σ : Mem) (U : State) : Prop := va_P E.1 vwCl (wL E σ) U.heap ∧ va_K E.1 vwCl (wT E) U ∧ NW U ∧ ST E (wA E) U U.heap
abbrev wPc (E : wE) (σ : Mem) (av : List Value) : Array Value → State → Prop := va_Pc av (wB E σ)
abbrev wQi (E : wE) (Qf : Int32 → Mem → Prop) : Array Value → State → Outcome → State → Prop := va_Qi Qf (wB E) (wA E)
abbrev wQl (E : wE) (Qf : Int64 → Mem → Prop) : Array Value → State → Outcome → State → Prop := va_Ql Qf (wB E) (wA E)
abbrev wQv (E : wE) (Qf : Mem → Prop) : Array Value → State → Outcome → State → Prop := va_Qv Qf (wB E) (wA E)
abbrev wQr (E : wE) (k : Nat) (Qf : Mem → Prop) : Array Value → State → Outcome → State → Prop := va_Qr Qf (fun σ a t => a = gE E k ∧ wB E σ t) (wA E)
def wd (E : wE) (A : Nat → Prop) (s : State) (σ : Mem) (H : Heap) (locs : List Loc) : Prop := va_P E.1 vwCl (wL E σ) H ∧ va_S A s.heap H locs
def Cx (p : Program) (s : State) (m : MethodId) (args : Array Value) (c : Code) (cc : ByteArray) (nL : Nat) (own : String) (E : wE) (A : Nat → Prop) : Prop := CallFix p m c cc nL s args TB own ∧ va_K E.1 vwCl (wT E) s ∧ NW s ∧ ST E A s s.heap ∧ wI E ∧ ∀ q, wA E q → A q
theorem wBlind {E : wE} {σ : Mem} {av : List Value} : FrameBlind (wPc E σ av) := fun a U g mk q => by
  obtain ⟨q0, qP, qK, qN, qS⟩ := q
  exact ⟨q0, qP, va_K.moved (u := U) (U := U.calling g mk a) (Vm.Alike.refl U.vm) qK, NW.same (u := U) (U := U.calling g mk a) rfl qN, ST.moved (u := U) (U := U.calling g mk a) (Vm.Alike.refl U.vm) qS⟩
section WR
variable {p : Program} {l : Launch} {e : Env} {R : Room} {s : State} {m : MethodId} {args : Array Value} {below : List Frame} {meth : Method} {c : Code} {H : Heap} {locs : List Loc} {cells slots : Nat} {Q : State → Prop}
variable {cc : ByteArray} {nL : Nat} {own : String} {E : wE} {A : Nat → Prop} {σ : Mem} {pc : Nat} {ls : Array Slot} {rest : List Value}
theorem wBof (C : Cx p s m args c cc nL own E A) (hw : wd E A s σ H locs) {U : State} (hU : U.heap = H) (hW : s.WarmedH U.vm) : wB E σ U := by
  obtain ⟨-, hK, hN, hS, -, hA⟩ := C
  subst hU
  exact ⟨hw.1, va_K.moved hW.alike hK, hN.warm hW, ((hS.kept (H1 := U.heap) (fun a h1 h2 => hw.2.2.1 a h1 h2)).narrow hA).moved hW.alike⟩
theorem x_iald (C : Cx p s m args c cc nL own E A) (hw : wd E A s σ H locs) {k n : Nat} {i : Int32} (hk : sE E k = .inl n) (hN : k < nE E) (hin : vp_in i n) (hdg : decode cc pc = .ok (.iaload, 1))
    (kk : W p l e R s m args below meth c H locs cells slots Q (F0 m (pc + 1) ls (.int (σ k i.toNatClampNeg) :: rest))) : W p l e R s m args below meth c H locs cells slots Q (F0 m pc ls (.int i :: .ref (gE E k) :: rest)) :=
  va_iald (f := σ k) C.1.1 C.1.2.1 C.2.1 hw.1 k 0 (by rw [wL_at hN, hk]; rfl) rfl hin hdg kk
theorem x_iast (C : Cx p s m args c cc nL own E A) (hw : wd E A s σ H locs) {k n : Nat} {i v : Int32} (hk : sE E k = .inl n) (hN : k < nE E) (hin : vp_in i n) (hdg : decode cc pc = .ok (.iastore, 1))
    (kk : ∀ (H1 : Heap) (locs1 : List Loc), wd E A s (um σ k i.toNatClampNeg v) H1 locs1 → W p l e R s m args below meth c H1 locs1 cells slots Q (F0 m (pc + 1) ls rest)) : W p l e R s m args below meth c H locs cells slots Q (F0 m pc ls (.int v :: .int i :: .ref (gE E k) :: rest)) := by
  refine va_iast (f := σ k) C.1.1 C.1.2.1 C.2.1 hw.1 (wD C.2.2.2.2.1 C.2.2.2.2.2) hw.2 k 0 (by rw [wL_at hN, hk]; rfl) rfl hin hdg fun H1 locs1 h1 h2 h3 => kk H1 locs1 ⟨?_, h3⟩
  have e := wL_set (E := E) (σ := σ) (τ := um σ k i.toNatClampNeg v) hN (fun c hc => um_ne σ _ v hc)
  rw [hk, um_row] at e
  rw [← e]
  exact h1
theorem x_aald (C : Cx p s m args c cc nL own E A) (hw : wd E A s σ H locs) {k t n : Nat} {f : Nat → Nat} {i : Int32} (hk : sE E k = .inr (.inl (t, n, f))) (hN : k < nE E) (hin : vp_in i n) (hdg : decode cc pc = .ok (.aaload, 1))
    (kk : W p l e R s m args below meth c H locs cells slots Q (F0 m (pc + 1) ls (.ref (gE E (f i.toNatClampNeg)) :: rest))) : W p l e R s m args below meth c H locs cells slots Q (F0 m pc ls (.int i :: .ref (gE E k) :: rest)) := by
  by_cases ht : t = 0
  · exact va_aldq (cA := (tE E).2.1) (C := "MayPole$Text") (f := fun i => some (gE E (f i))) C.1.1 C.1.2.1 C.2.1 hw.1 k 1 (by rw [wL_at hN, hk]; simp [wCe, ht]) rfl hin hdg kk
  · exact va_aldq (cA := (tE E).2.2) (C := "MayPole$Sheet") (f := fun i => some (gE E (f i))) C.1.1 C.1.2.1 C.2.1 hw.1 k 2 (by rw [wL_at hN, hk]; simp [wCe, ht]) rfl hin hdg kk
theorem x_alen (C : Cx p s m args c cc nL own E A) (hw : wd E A s σ H locs) {k n : Nat} (hk : sE E k = .inl n) (hN : k < nE E) (hdg : decode cc pc = .ok (.arraylength, 1))
    (kk : W p l e R s m args below meth c H locs cells slots Q (F0 m (pc + 1) ls (.int (nI n) :: rest))) : W p l e R s m args below meth c H locs cells slots Q (F0 m pc ls (.ref (gE E k) :: rest)) :=
  va_alen (x := (n, .inl (σ k))) C.1.1 C.1.2.1 C.2.1 hw.1 k 0 (by rw [wL_at hN, hk]; rfl) rfl rfl hdg kk
theorem x_geti (C : Cx p s m args c cc nL own E A) (hw : wd E A s σ H locs) {k idx ci j : Nat} {ty : FieldType} {fin : Bool} {fs : List (Option Nat)} (hF : FLk own idx ci j ty fin) (hk : sE E k = .inr (.inr (ci, fs))) (hN : k < nE E) (hf : fs[j]? = some none) (hdg : decode cc pc = .ok (.getfield idx, 3))
    (kk : W p l e R s m args below meth c H locs cells slots Q (F0 m (pc + 3) ls (.int (σ k j) :: rest))) : W p l e R s m args below meth c H locs cells slots Q (F0 m pc ls (.ref (gE E k) :: rest)) := by
  obtain ⟨Cn, T, N, ⟨h1, h2, -, -⟩, h3, h4, -, -, h5⟩ := hF
  exact va_get (fs := wFs E.2.1 (σ k) fs) C.1.1 C.1.2.1 C.1.2.2.2.2 h2 C.1.2.2.2.1 C.2.1 hw.1 k (by rw [wL_at hN, hk]; rfl) h1 j h3 (C.1.2.2.2.2 _ h4) (fun _ h9 => h9) (wFs_i hf) hdg kk
theorem x_getr (C : Cx p s m args c cc nL own E A) (hw : wd E A s σ H locs) {k idx ci j q : Nat} {ty : FieldType} {fin : Bool} {fs : List (Option Nat)} (hF : FLk own idx ci j ty fin) (hk : sE E k = .inr (.inr (ci, fs))) (hN : k < nE E) (hf : fs[j]? = some (some q)) (hdg : decode cc pc = .ok (.getfield idx, 3))
    (kk : W p l e R s m args below meth c H locs cells slots Q (F0 m (pc + 3) ls (.ref (gE E q) :: rest))) : W p l e R s m args below meth c H locs cells slots Q (F0 m pc ls (.ref (gE E k) :: rest)) := by
  obtain ⟨Cn, T, N, ⟨h1, h2, -, -⟩, h3, h4, -, -, h5⟩ := hF
  exact va_get (fs := wFs E.2.1 (σ k) fs) C.1.1 C.1.2.1 C.1.2.2.2.2 h2 C.1.2.2.2.1 C.2.1 hw.1 k (by rw [wL_at hN, hk]; rfl) h1 j h3 (C.1.2.2.2.2 _ h4) (fun _ h9 => h9) (wFs_r hf) hdg kk
theorem x_getiN (C : Cx p s m args c cc nL own E A) (hw : wd E A s σ H locs) {k idx ci j : Nat} {ty : FieldType} {fin : Bool} {fs : List (Option Nat)} (hF : FLn own idx ci j ty fin) (hk : sE E k = .inr (.inr (ci, fs))) (hN : k < nE E) (hf : fs[j]? = some none) (hdg : decode cc pc = .ok (.getfield idx, 3))
    (kk : W p l e R s m args below meth c H locs cells slots Q (F0 m (pc + 3) ls (.int (σ k j) :: rest))) : W p l e R s m args below meth c H locs cells slots Q (F0 m pc ls (.ref (gE E k) :: rest)) := by
  obtain ⟨Cn, T, N, host, ⟨h1, h2, -, -⟩, h3, h4, -, -, h5⟩ := hF
  exact va_getN (host := host) (fs := wFs E.2.1 (σ k) fs) C.1.1 C.1.2.1 C.1.2.2.2.2 h2 C.1.2.2.2.1 C.2.1 hw.1 k (by rw [wL_at hN, hk]; rfl) h1 j h3 (va_Nw.use rfl (C.2.2.1.1 _ h4)) (fun _ h9 => h9) (wFs_i hf) hdg kk
theorem x_getrN (C : Cx p s m args c cc nL own E A) (hw : wd E A s σ H locs) {k idx ci j q : Nat} {ty : FieldType} {fin : Bool} {fs : List (Option Nat)} (hF : FLn own idx ci j ty fin) (hk : sE E k = .inr (.inr (ci, fs))) (hN : k < nE E) (hf : fs[j]? = some (some q)) (hdg : decode cc pc = .ok (.getfield idx, 3))
    (kk : W p l e R s m args below meth c H locs cells slots Q (F0 m (pc + 3) ls (.ref (gE E q) :: rest))) : W p l e R s m args below meth c H locs cells slots Q (F0 m pc ls (.ref (gE E k) :: rest)) := by
  obtain ⟨Cn, T, N, host, ⟨h1, h2, -, -⟩, h3, h4, -, -, h5⟩ := hF
  exact va_getN (host := host) (fs := wFs E.2.1 (σ k) fs) C.1.1 C.1.2.1 C.1.2.2.2.2 h2 C.1.2.2.2.1 C.2.1 hw.1 k (by rw [wL_at hN, hk]; rfl) h1 j h3 (va_Nw.use rfl (C.2.2.1.1 _ h4)) (fun _ h9 => h9) (wFs_r hf) hdg kk
theorem x_put (C : Cx p s m args c cc nL own E A) (hw : wd E A s σ H locs) {k idx ci j : Nat} {v : Int32} {ty : FieldType} {fs : List (Option Nat)} (hF : FLk own idx ci j ty false) (hk : sE E k = .inr (.inr (ci, fs))) (hN : k < nE E) (hf : fs[j]? = some none) (hn : narrow ty (.int v) = .int v) (hfit : fits ty (.int v) = true) (hdg : decode cc pc = .ok (.putfield idx, 3))
    (kk : ∀ (H1 : Heap) (locs1 : List Loc), wd E A s (um σ k j v) H1 locs1 → W p l e R s m args below meth c H1 locs1 cells slots Q (F0 m (pc + 3) ls rest)) : W p l e R s m args below meth c H locs cells slots Q (F0 m pc ls (.int v :: .ref (gE E k) :: rest)) := by
  obtain ⟨Cn, T, N, ⟨h1, h2, ⟨ty0, h6⟩, h7⟩, h3, h4, h8, h9, h5⟩ := hF
  have hl : j < (wFs E.2.1 (σ k) fs).length := by rw [wFs_len]; exact (List.getElem?_eq_some_iff.mp hf).1
  refine va_put (fs := wFs E.2.1 (σ k) fs) C.1.1 C.1.2.1 C.1.2.2.2.2 h2 ty0 h6 h7 C.1.2.2.2.1 C.2.1 hw.1 (wD C.2.2.2.2.1 C.2.2.2.2.2) hw.2 k (by rw [wL_at hN, hk]; rfl) h1 j h3 (C.1.2.2.2.2 _ h4) (fun _ h9 => h9) h9 h8 hn hfit hl hdg fun H1 locs1 g1 g2 g3 => kk H1 locs1 ⟨?_, g3⟩
  have e := wL_set (E := E) (σ := σ) (τ := um σ k j v) hN (fun c hc => um_ne σ _ v hc)
  rw [hk, um_row] at e
  rw [← e]
  rw [wFs_set hf] at g1
  exact g1
theorem x_putN (C : Cx p s m args c cc nL own E A) (hw : wd E A s σ H locs) {k idx ci j : Nat} {v : Int32} {ty : FieldType} {fs : List (Option Nat)} (hF : FLn own idx ci j ty false) (hk : sE E k = .inr (.inr (ci, fs))) (hN : k < nE E) (hf : fs[j]? = some none) (hn : narrow ty (.int v) = .int v) (hfit : fits ty (.int v) = true) (hdg : decode cc pc = .ok (.putfield idx, 3))
    (kk : ∀ (H1 : Heap) (locs1 : List Loc), wd E A s (um σ k j v) H1 locs1 → W p l e R s m args below meth c H1 locs1 cells slots Q (F0 m (pc + 3) ls rest)) : W p l e R s m args below meth c H locs cells slots Q (F0 m pc ls (.int v :: .ref (gE E k) :: rest)) := by
  obtain ⟨Cn, T, N, host, ⟨h1, h2, ⟨ty0, h6⟩, h7⟩, h3, h4, h8, h9, h5⟩ := hF
  have hl : j < (wFs E.2.1 (σ k) fs).length := by rw [wFs_len]; exact (List.getElem?_eq_some_iff.mp hf).1
  refine va_putN (host := host) (fs := wFs E.2.1 (σ k) fs) C.1.1 C.1.2.1 C.1.2.2.2.2 h2 ty0 h6 h7 C.1.2.2.2.1 C.2.1 hw.1 (wD C.2.2.2.2.1 C.2.2.2.2.2) hw.2 k (by rw [wL_at hN, hk]; rfl) h1 j h3 (va_Nw.use rfl (C.2.2.1.1 _ h4)) (fun _ h9 => h9) h9 h8 hn hfit hl hdg fun H1 locs1 g1 g2 g3 => kk H1 locs1 ⟨?_, g3⟩
  have e := wL_set (E := E) (σ := σ) (τ := um σ k j v) hN (fun c hc => um_ne σ _ v hc)
  rw [hk, um_row] at e
  rw [← e]
  rw [wFs_set hf] at g1
  exact g1
end WR
