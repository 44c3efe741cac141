theorem arI : Cond.arrayClass .int ∈ TB := (TB_of 132 (by decide +kernel) rfl)
theorem oi_1 : Cond.instanceMethod Lib.objectInit ∈ TB := (TB_of 102 (by decide +kernel) rfl)
theorem oi_2 : Cond.code Lib.objectInit ⟨#[0xb1]⟩ 1 none ∈ TB := (TB_of 103 (by decide +kernel) rfl)
section CF
variable {p : Program} {l : Launch} {e : Env} {R : Room} {s : State} {m : MethodId} {args : Array Value} {below : List Frame} {meth : Method} {c : Code} {H : Heap} {locs : List Loc} {cells slots : Nat} {Q : State → Prop}
variable {cc : ByteArray} {nL : Nat} {own : String} {E : wE} {A : Nat → Prop} {ws : va_W} {pc : Nat} {ls : Array Slot} {rest : List Value}
/-- the world of one int array -/
def oE (E : wE) (q N : Nat) : wE := (E.1, fun _ => q, 1, fun _ => .inl N, tE E, aE E)
theorem oL (E : wE) (q N : Nat) (τ : Mem) : wL (oE E q N) τ = [(q, .inl ((tE E).1, N, .inl (τ 0)))] := rfl
theorem oI (E : wE) (q N : Nat) : wI (oE E q N) := by
  intro i j hi hj _
  have h1 : i < 1 := hi
  have h2 : j < 1 := hj
  omega
theorem c_fill (C : Kx p s m args c cc nL own E A) {q N idx : Nat} {f : Nat → Int32} {v : Int32} (hP : va_P E.1 vwCl (ws ++ [(q, .inl ((tE E).1, N, .inl f))]) H) (hD : va_D A (ws ++ [(q, .inl ((tE E).1, N, .inl f))])) (hS : va_S A s.heap H locs) (hN : N < 2 ^ 31) (hlk : Cond.methodLink own idx yJ7_fill_53178 ∈ TB) (hR : 0 + 1 ≤ R.frames ∧ 8 + (4 + 11) + 0 ≤ R.locals) (hls : ls.size = nL) (hdg : decode cc pc = .ok (.invokestatic idx, 3)) (hcs : cells ≤ R.cells ∧ slots ≤ R.slots)
    (kk : ∀ (H1 : Heap) (locs1 : List Loc), va_P E.1 vwCl (ws ++ [(q, .inl ((tE E).1, N, .inl (fun i => if i < N then v else f i)))]) H1 → va_D A (ws ++ [(q, .inl ((tE E).1, N, .inl (fun i => if i < N then v else f i)))]) → va_S A s.heap H1 locs1 → W p l e R s m args below meth c H1 locs1 cells slots Q (F0 m (pc + 3) ls [])) : W p l e R s m args below meth c H locs cells slots Q (F0 m pc ls [.int v, .ref q]) := by
  have hf := c_free hD hS C.2.2.2.2.2
  have hq : A q := hf q (Or.inl ⟨0, _, rfl⟩)
  have hA : ∀ z, wA (oE E q N) z → A z := by
    rintro z ⟨k, -, rfl⟩
    exact hq
  have C1 : Cx p s m args c cc nL own (oE E q N) A := ⟨C.1, C.2.1, C.2.2.1, C.2.2.2.1, oI E q N, hA⟩
  have hw : wd (oE E q N) A s (fun _ => f) H locs := by
    refine ⟨?_, hS⟩
    rw [oL]
    intro k x hk
    have hk0 : k = 0 := by
      have := (List.getElem?_eq_some_iff.mp hk).1
      simp at this
      exact this
    subst hk0
    simp at hk
    subst hk
    exact hP ws.length _ (by simp)
  have hM := kJ7_fill_53178 l (oE E q N) (oI E q N) 0 N rfl (Nat.lt_succ_self 0) v (fun _ => f) (fun τ => τ 0 = fun i => if i < N then v else f i) (s_fill hN (by simp [fillM]))
  refine va_callv (A0 := A) (H0 := s.heap) (x_runS (As := [.ref q, .int v]) (rest := []) C1 hw hM mtJ7_fill_53178 hlk hR ⟨rfl, rfl⟩ rfl hls rfl (by decide) hdg hcs) hS (fun z _ h => hA z h) hA (fun u t H1 locs1 ht _ hu hB hz hk hS1 => ?_)
  have hB1 := hB.1
  rw [oL, hu, ht] at hB1
  have hk2 : ∀ z : Nat, z < H.size → ¬ va_A [((q, .inl ((tE E).1, N, .inl f)) : Nat × va_E)] H.size z → H1[z]? = H[z]? := by
    intro z h1 h2
    refine hk z h1 (fun h3 => h2 ?_)
    obtain ⟨k, -, rfl⟩ := h3
    exact Or.inl ⟨0, _, rfl⟩
  obtain ⟨g1, g2⟩ := c_join (H1 := H1) hP hD hf hk2 hB1 ⟨fun i j a b ha hb _ => by
    have h1 := (List.getElem?_eq_some_iff.mp ha).1
    have h2 := (List.getElem?_eq_some_iff.mp hb).1
    simp at h1 h2
    omega, fun k x hx => by
    have hk0 : k = 0 := by
      have := (List.getElem?_eq_some_iff.mp hx).1
      simp at this
      exact this
    subst hk0
    simp at hx
    subst hx
    exact Or.inl ⟨0, _, rfl⟩⟩
  exact kk H1 locs1 g1 g2 hS1
end CF
def tX5_init : List (Nat × Instr × Nat) := [(0, .aload_n 0, 1), (1, .invokespecial 3, 3), (4, .aload_n 0, 1), (5, .bipush 31, 2), (7, .newarray .int, 2), (9, .putfield 9, 3), (12, .aload_n 0, 1), (13, .iconst (-1), 1), (14, .putfield 15, 3), (17, .aload_n 0, 1), (18, .iload_n 1, 1), (19, .bipush 31, 2), (21, .invokestatic 19, 3), (24, .putfield 25, 3), (27, .return_, 1)]
theorem dX5_init : dOk cX5_init tX5_init = true := by decide +kernel
abbrev rX5_init : Room := { frames := 1, cells := 1, slots := 31, locals := 30 }
def pX5_init (E : wE) (x1 : Int32) (h0 : Nat) (u : Nat → Nat) : va_W := [(h0, .inr (5, [.int (if (31 : Int32) < x1 then (31 : Int32) else x1), .ref (u 1), .int 0, .int (-1 : Int32)])), ((u 1), .inl ((tE E).1, 31, .inl (fun _ => 0)))]
set_option maxHeartbeats 4000000 in
set_option maxRecDepth 100000 in
theorem kX5_init (l : Launch) (E : wE) (h0 sz : Nat) (x1 : Int32) : Met l yX5_init (Cond.code yX5_init cX5_init 2 none :: TB) rX5_init (cPc E [(h0, .inr (5, [.int 0, .null, .int 0, .int 0]))] sz [.ref h0, .int x1]) (cQ E [(h0, .inr (5, [.int 0, .null, .int 0, .int 0]))] sz (fun u => pX5_init E x1 h0 u)) 1 31 (va_A [(h0, .inr (5, [.int 0, .null, .int 0, .int 0]))] sz) := by
  refine cMet (by decide) (Nat.le_of_ble_eq_true rfl) ?_
  intro p e s m args below meth c ls C hr hlk hin hl hP hD
  have hx := C.1.1
  have hb := C.1.2.1
  replace C : Kx p s m args c cX5_init 2 RX5 E (va_A [(h0, .inr (5, [.int 0, .null, .int 0, .int 0]))] s.heap.size) := C
  replace hl : lv_has ls 2 [(0, .ref h0), (1, .int x1)] := hl
  replace hin : meth.name = "<init>" := hin
  have hS : va_S (va_A [(h0, .inr (5, [.int 0, .null, .int 0, .int 0]))] s.heap.size) s.heap s.heap [] := va_S.rf
  generalize hAe : va_A [(h0, .inr (5, [.int 0, .null, .int 0, .int 0]))] s.heap.size = A at C hD hS
  refine lv_aload_n hx hb (dAt dX5_init 0 rfl) rfl (lv_at hl 0 rfl) ?_
  refine W.objInit hx hb C.1.2.2.2.1 (C.1.2.2.2.2 _ (TB_of 110 (by decide +kernel) rfl)) (C.1.2.2.2.2 _ oi_1) (C.1.2.2.2.2 _ oi_2) rfl (C.1.2.2.1 ▸ hl.1) rfl (dAt dX5_init 1 rfl) (Nat.le_of_ble_eq_true rfl) (Nat.le_of_ble_eq_true rfl) ?_
  refine W.eq (g2 := F0 m 4 ls []) rfl ?_
  refine lv_aload_n hx hb (dAt dX5_init 2 rfl) rfl (lv_at hl 0 rfl) ?_
  refine lv_bipush (v := 31) hx hb (dAt dX5_init 3 rfl) (by decide) ?_
  refine c_newa (N := 31) C hP hD hS arI (by decide) (by decide) (by decide) ⟨Nat.le_of_ble_eq_true rfl, Nat.le_of_ble_eq_true rfl⟩ (dAt dX5_init 4 rfl) (fun q1 H hP hD hS => ?_)
  replace hP : va_P E.1 vwCl [(h0, .inr (5, [.int 0, .null, .int 0, .int 0])), (q1, .inl ((tE E).1, 31, .inl (fun _ => 0)))] H := hP
  replace hD : va_D A [(h0, .inr (5, [.int 0, .null, .int 0, .int 0])), (q1, .inl ((tE E).1, 31, .inl (fun _ => 0)))] := hD
  refine c_putF C hP hD hS fl_X5_9 0 rfl rfl hin rfl rfl (ltb rfl) (dAt dX5_init 5 rfl) (fun H locs hP hD hS => ?_)
  replace hP : va_P E.1 vwCl [(h0, .inr (5, [.int 0, .ref q1, .int 0, .int 0])), (q1, .inl ((tE E).1, 31, .inl (fun _ => 0)))] H := hP
  replace hD : va_D A [(h0, .inr (5, [.int 0, .ref q1, .int 0, .int 0])), (q1, .inl ((tE E).1, 31, .inl (fun _ => 0)))] := hD
  refine lv_aload_n hx hb (dAt dX5_init 6 rfl) rfl (lv_at hl 0 rfl) ?_
  refine lv_iconst (v := -1) hx hb (dAt dX5_init 7 rfl) (by decide) ?_
  refine c_put C hP hD hS fl_X5_15 0 rfl rfl rfl (ltb rfl) (dAt dX5_init 8 rfl) (fun H locs hP hD hS => ?_)
  replace hP : va_P E.1 vwCl [(h0, .inr (5, [.int 0, .ref q1, .int 0, .int (-1 : Int32)])), (q1, .inl ((tE E).1, 31, .inl (fun _ => 0)))] H := hP
  replace hD : va_D A [(h0, .inr (5, [.int 0, .ref q1, .int 0, .int (-1 : Int32)])), (q1, .inl ((tE E).1, 31, .inl (fun _ => 0)))] := hD
  refine lv_aload_n hx hb (dAt dX5_init 9 rfl) rfl (lv_at hl 0 rfl) ?_
  refine lv_iload_n hx hb (dAt dX5_init 10 rfl) rfl (lv_at hl 1 rfl) ?_
  refine lv_bipush (v := 31) hx hb (dAt dX5_init 11 rfl) (by decide) ?_
  refine va_mmin hx hb (C.1.2.2.1.trans hl.1.symm) C.1.2.2.2.1 (C.1.2.2.2.2 _ lm_X5_19) (C.1.2.2.2.2 _ mmin_1) (C.1.2.2.2.2 _ mini) (C.1.2.2.2.2 _ mmin_2) (Nat.le_of_ble_eq_true rfl) (Nat.le_of_ble_eq_true rfl) (Nat.le_of_ble_eq_true rfl) (Nat.le_of_ble_eq_true rfl) (dAt dX5_init 12 rfl) ?_
  refine c_putF C hP hD hS fl_X5_25 0 rfl rfl hin rfl rfl (ltb rfl) (dAt dX5_init 13 rfl) (fun H locs hP hD hS => ?_)
  replace hP : va_P E.1 vwCl [(h0, .inr (5, [.int (if (31 : Int32) < x1 then (31 : Int32) else x1), .ref q1, .int 0, .int (-1 : Int32)])), (q1, .inl ((tE E).1, 31, .inl (fun _ => 0)))] H := hP
  replace hD : va_D A [(h0, .inr (5, [.int (if (31 : Int32) < x1 then (31 : Int32) else x1), .ref q1, .int 0, .int (-1 : Int32)])), (q1, .inl ((tE E).1, 31, .inl (fun _ => 0)))] := hD
  exact c_ret (F := fun u => pX5_init E x1 h0 u) (u := fun k => ([h0, q1] : List Nat).getD k 0) C hAe.symm hP hD hS hr hlk (dAt dX5_init 14 rfl)
def tX1_init : List (Nat × Instr × Nat) := [(0, .aload_n 0, 1), (1, .invokespecial 3, 3), (4, .aload_n 0, 1), (5, .bipush 8, 2), (7, .newarray .int, 2), (9, .putfield 9, 3), (12, .aload_n 0, 1), (13, .bipush 8, 2), (15, .newarray .int, 2), (17, .putfield 15, 3), (20, .aload_n 0, 1), (21, .bipush 8, 2), (23, .newarray .int, 2), (25, .putfield 18, 3), (28, .return_, 1)]
theorem dX1_init : dOk cX1_init tX1_init = true := by decide +kernel
abbrev rX1_init : Room := { frames := 1, cells := 3, slots := 24, locals := 30 }
def pX1_init (E : wE) (h0 : Nat) (u : Nat → Nat) : va_W := [(h0, .inr (1, [.ref (u 1), .ref (u 2), .ref (u 3), .int 0])), ((u 1), .inl ((tE E).1, 8, .inl (fun _ => 0))), ((u 2), .inl ((tE E).1, 8, .inl (fun _ => 0))), ((u 3), .inl ((tE E).1, 8, .inl (fun _ => 0)))]
set_option maxHeartbeats 4000000 in
set_option maxRecDepth 100000 in
theorem kX1_init (l : Launch) (E : wE) (h0 sz : Nat) : Met l yX1_init (Cond.code yX1_init cX1_init 1 none :: TB) rX1_init (cPc E [(h0, .inr (1, [.null, .null, .null, .int 0]))] sz [.ref h0]) (cQ E [(h0, .inr (1, [.null, .null, .null, .int 0]))] sz (fun u => pX1_init E h0 u)) 3 24 (va_A [(h0, .inr (1, [.null, .null, .null, .int 0]))] sz) := by
  refine cMet (by decide) (Nat.le_of_ble_eq_true rfl) ?_
  intro p e s m args below meth c ls C hr hlk hin hl hP hD
  have hx := C.1.1
  have hb := C.1.2.1
  replace C : Kx p s m args c cX1_init 1 RX1 E (va_A [(h0, .inr (1, [.null, .null, .null, .int 0]))] s.heap.size) := C
  replace hl : lv_has ls 1 [(0, .ref h0)] := hl
  replace hin : meth.name = "<init>" := hin
  have hS : va_S (va_A [(h0, .inr (1, [.null, .null, .null, .int 0]))] s.heap.size) s.heap s.heap [] := va_S.rf
  generalize hAe : va_A [(h0, .inr (1, [.null, .null, .null, .int 0]))] s.heap.size = A at C hD hS
  refine lv_aload_n hx hb (dAt dX1_init 0 rfl) rfl (lv_at hl 0 rfl) ?_
  refine W.objInit hx hb C.1.2.2.2.1 (C.1.2.2.2.2 _ (TB_of 138 (by decide +kernel) rfl)) (C.1.2.2.2.2 _ oi_1) (C.1.2.2.2.2 _ oi_2) rfl (C.1.2.2.1 ▸ hl.1) rfl (dAt dX1_init 1 rfl) (Nat.le_of_ble_eq_true rfl) (Nat.le_of_ble_eq_true rfl) ?_
  refine W.eq (g2 := F0 m 4 ls []) rfl ?_
  refine lv_aload_n hx hb (dAt dX1_init 2 rfl) rfl (lv_at hl 0 rfl) ?_
  refine lv_bipush (v := 8) hx hb (dAt dX1_init 3 rfl) (by decide) ?_
  refine c_newa (N := 8) C hP hD hS arI (by decide) (by decide) (by decide) ⟨Nat.le_of_ble_eq_true rfl, Nat.le_of_ble_eq_true rfl⟩ (dAt dX1_init 4 rfl) (fun q1 H hP hD hS => ?_)
  replace hP : va_P E.1 vwCl [(h0, .inr (1, [.null, .null, .null, .int 0])), (q1, .inl ((tE E).1, 8, .inl (fun _ => 0)))] H := hP
  replace hD : va_D A [(h0, .inr (1, [.null, .null, .null, .int 0])), (q1, .inl ((tE E).1, 8, .inl (fun _ => 0)))] := hD
  refine c_putF C hP hD hS fl_X1_9 0 rfl rfl hin rfl rfl (ltb rfl) (dAt dX1_init 5 rfl) (fun H locs hP hD hS => ?_)
  replace hP : va_P E.1 vwCl [(h0, .inr (1, [.ref q1, .null, .null, .int 0])), (q1, .inl ((tE E).1, 8, .inl (fun _ => 0)))] H := hP
  replace hD : va_D A [(h0, .inr (1, [.ref q1, .null, .null, .int 0])), (q1, .inl ((tE E).1, 8, .inl (fun _ => 0)))] := hD
  refine lv_aload_n hx hb (dAt dX1_init 6 rfl) rfl (lv_at hl 0 rfl) ?_
  refine lv_bipush (v := 8) hx hb (dAt dX1_init 7 rfl) (by decide) ?_
  refine c_newa (N := 8) C hP hD hS arI (by decide) (by decide) (by decide) ⟨Nat.le_of_ble_eq_true rfl, Nat.le_of_ble_eq_true rfl⟩ (dAt dX1_init 8 rfl) (fun q2 H hP hD hS => ?_)
  replace hP : va_P E.1 vwCl [(h0, .inr (1, [.ref q1, .null, .null, .int 0])), (q1, .inl ((tE E).1, 8, .inl (fun _ => 0))), (q2, .inl ((tE E).1, 8, .inl (fun _ => 0)))] H := hP
  replace hD : va_D A [(h0, .inr (1, [.ref q1, .null, .null, .int 0])), (q1, .inl ((tE E).1, 8, .inl (fun _ => 0))), (q2, .inl ((tE E).1, 8, .inl (fun _ => 0)))] := hD
  refine c_putF C hP hD hS fl_X1_15 0 rfl rfl hin rfl rfl (ltb rfl) (dAt dX1_init 9 rfl) (fun H locs hP hD hS => ?_)
  replace hP : va_P E.1 vwCl [(h0, .inr (1, [.ref q1, .ref q2, .null, .int 0])), (q1, .inl ((tE E).1, 8, .inl (fun _ => 0))), (q2, .inl ((tE E).1, 8, .inl (fun _ => 0)))] H := hP
  replace hD : va_D A [(h0, .inr (1, [.ref q1, .ref q2, .null, .int 0])), (q1, .inl ((tE E).1, 8, .inl (fun _ => 0))), (q2, .inl ((tE E).1, 8, .inl (fun _ => 0)))] := hD
  refine lv_aload_n hx hb (dAt dX1_init 10 rfl) rfl (lv_at hl 0 rfl) ?_
  refine lv_bipush (v := 8) hx hb (dAt dX1_init 11 rfl) (by decide) ?_
  refine c_newa (N := 8) C hP hD hS arI (by decide) (by decide) (by decide) ⟨Nat.le_of_ble_eq_true rfl, Nat.le_of_ble_eq_true rfl⟩ (dAt dX1_init 12 rfl) (fun q3 H hP hD hS => ?_)
  replace hP : va_P E.1 vwCl [(h0, .inr (1, [.ref q1, .ref q2, .null, .int 0])), (q1, .inl ((tE E).1, 8, .inl (fun _ => 0))), (q2, .inl ((tE E).1, 8, .inl (fun _ => 0))), (q3, .inl ((tE E).1, 8, .inl (fun _ => 0)))] H := hP
  replace hD : va_D A [(h0, .inr (1, [.ref q1, .ref q2, .null, .int 0])), (q1, .inl ((tE E).1, 8, .inl (fun _ => 0))), (q2, .inl ((tE E).1, 8, .inl (fun _ => 0))), (q3, .inl ((tE E).1, 8, .inl (fun _ => 0)))] := hD
  refine c_putF C hP hD hS fl_X1_18 0 rfl rfl hin rfl rfl (ltb rfl) (dAt dX1_init 13 rfl) (fun H locs hP hD hS => ?_)
  replace hP : va_P E.1 vwCl [(h0, .inr (1, [.ref q1, .ref q2, .ref q3, .int 0])), (q1, .inl ((tE E).1, 8, .inl (fun _ => 0))), (q2, .inl ((tE E).1, 8, .inl (fun _ => 0))), (q3, .inl ((tE E).1, 8, .inl (fun _ => 0)))] H := hP
  replace hD : va_D A [(h0, .inr (1, [.ref q1, .ref q2, .ref q3, .int 0])), (q1, .inl ((tE E).1, 8, .inl (fun _ => 0))), (q2, .inl ((tE E).1, 8, .inl (fun _ => 0))), (q3, .inl ((tE E).1, 8, .inl (fun _ => 0)))] := hD
  exact c_ret (F := fun u => pX1_init E h0 u) (u := fun k => ([h0, q1, q2, q3] : List Nat).getD k 0) C hAe.symm hP hD hS hr hlk (dAt dX1_init 14 rfl)
def tX2_init : List (Nat × Instr × Nat) := [(0, .aload_n 0, 1), (1, .invokespecial 3, 3), (4, .aload_n 0, 1), (5, .bipush 8, 2), (7, .newarray .int, 2), (9, .putfield 9, 3), (12, .aload_n 0, 1), (13, .bipush 8, 2), (15, .newarray .int, 2), (17, .putfield 15, 3), (20, .return_, 1)]
theorem dX2_init : dOk cX2_init tX2_init = true := by decide +kernel
abbrev rX2_init : Room := { frames := 1, cells := 2, slots := 16, locals := 30 }
def pX2_init (E : wE) (h0 : Nat) (u : Nat → Nat) : va_W := [(h0, .inr (2, [.ref (u 1), .ref (u 2), .int 0])), ((u 1), .inl ((tE E).1, 8, .inl (fun _ => 0))), ((u 2), .inl ((tE E).1, 8, .inl (fun _ => 0)))]
set_option maxHeartbeats 4000000 in
set_option maxRecDepth 100000 in
theorem kX2_init (l : Launch) (E : wE) (h0 sz : Nat) : Met l yX2_init (Cond.code yX2_init cX2_init 1 none :: TB) rX2_init (cPc E [(h0, .inr (2, [.null, .null, .int 0]))] sz [.ref h0]) (cQ E [(h0, .inr (2, [.null, .null, .int 0]))] sz (fun u => pX2_init E h0 u)) 2 16 (va_A [(h0, .inr (2, [.null, .null, .int 0]))] sz) := by
  refine cMet (by decide) (Nat.le_of_ble_eq_true rfl) ?_
  intro p e s m args below meth c ls C hr hlk hin hl hP hD
  have hx := C.1.1
  have hb := C.1.2.1
  replace C : Kx p s m args c cX2_init 1 RX2 E (va_A [(h0, .inr (2, [.null, .null, .int 0]))] s.heap.size) := C
  replace hl : lv_has ls 1 [(0, .ref h0)] := hl
  replace hin : meth.name = "<init>" := hin
  have hS : va_S (va_A [(h0, .inr (2, [.null, .null, .int 0]))] s.heap.size) s.heap s.heap [] := va_S.rf
  generalize hAe : va_A [(h0, .inr (2, [.null, .null, .int 0]))] s.heap.size = A at C hD hS
  refine lv_aload_n hx hb (dAt dX2_init 0 rfl) rfl (lv_at hl 0 rfl) ?_
  refine W.objInit hx hb C.1.2.2.2.1 (C.1.2.2.2.2 _ (TB_of 283 (by decide +kernel) rfl)) (C.1.2.2.2.2 _ oi_1) (C.1.2.2.2.2 _ oi_2) rfl (C.1.2.2.1 ▸ hl.1) rfl (dAt dX2_init 1 rfl) (Nat.le_of_ble_eq_true rfl) (Nat.le_of_ble_eq_true rfl) ?_
  refine W.eq (g2 := F0 m 4 ls []) rfl ?_
  refine lv_aload_n hx hb (dAt dX2_init 2 rfl) rfl (lv_at hl 0 rfl) ?_
  refine lv_bipush (v := 8) hx hb (dAt dX2_init 3 rfl) (by decide) ?_
  refine c_newa (N := 8) C hP hD hS arI (by decide) (by decide) (by decide) ⟨Nat.le_of_ble_eq_true rfl, Nat.le_of_ble_eq_true rfl⟩ (dAt dX2_init 4 rfl) (fun q1 H hP hD hS => ?_)
  replace hP : va_P E.1 vwCl [(h0, .inr (2, [.null, .null, .int 0])), (q1, .inl ((tE E).1, 8, .inl (fun _ => 0)))] H := hP
  replace hD : va_D A [(h0, .inr (2, [.null, .null, .int 0])), (q1, .inl ((tE E).1, 8, .inl (fun _ => 0)))] := hD
  refine c_putF C hP hD hS fl_X2_9 0 rfl rfl hin rfl rfl (ltb rfl) (dAt dX2_init 5 rfl) (fun H locs hP hD hS => ?_)
  replace hP : va_P E.1 vwCl [(h0, .inr (2, [.ref q1, .null, .int 0])), (q1, .inl ((tE E).1, 8, .inl (fun _ => 0)))] H := hP
  replace hD : va_D A [(h0, .inr (2, [.ref q1, .null, .int 0])), (q1, .inl ((tE E).1, 8, .inl (fun _ => 0)))] := hD
  refine lv_aload_n hx hb (dAt dX2_init 6 rfl) rfl (lv_at hl 0 rfl) ?_
  refine lv_bipush (v := 8) hx hb (dAt dX2_init 7 rfl) (by decide) ?_
  refine c_newa (N := 8) C hP hD hS arI (by decide) (by decide) (by decide) ⟨Nat.le_of_ble_eq_true rfl, Nat.le_of_ble_eq_true rfl⟩ (dAt dX2_init 8 rfl) (fun q2 H hP hD hS => ?_)
  replace hP : va_P E.1 vwCl [(h0, .inr (2, [.ref q1, .null, .int 0])), (q1, .inl ((tE E).1, 8, .inl (fun _ => 0))), (q2, .inl ((tE E).1, 8, .inl (fun _ => 0)))] H := hP
  replace hD : va_D A [(h0, .inr (2, [.ref q1, .null, .int 0])), (q1, .inl ((tE E).1, 8, .inl (fun _ => 0))), (q2, .inl ((tE E).1, 8, .inl (fun _ => 0)))] := hD
  refine c_putF C hP hD hS fl_X2_15 0 rfl rfl hin rfl rfl (ltb rfl) (dAt dX2_init 9 rfl) (fun H locs hP hD hS => ?_)
  replace hP : va_P E.1 vwCl [(h0, .inr (2, [.ref q1, .ref q2, .int 0])), (q1, .inl ((tE E).1, 8, .inl (fun _ => 0))), (q2, .inl ((tE E).1, 8, .inl (fun _ => 0)))] H := hP
  replace hD : va_D A [(h0, .inr (2, [.ref q1, .ref q2, .int 0])), (q1, .inl ((tE E).1, 8, .inl (fun _ => 0))), (q2, .inl ((tE E).1, 8, .inl (fun _ => 0)))] := hD
  exact c_ret (F := fun u => pX2_init E h0 u) (u := fun k => ([h0, q1, q2] : List Nat).getD k 0) C hAe.symm hP hD hS hr hlk (dAt dX2_init 10 rfl)
def tX4_init : List (Nat × Instr × Nat) := [(0, .aload_n 0, 1), (1, .invokespecial 3, 3), (4, .aload_n 0, 1), (5, .bipush 60, 2), (7, .newarray .int, 2), (9, .putfield 9, 3), (12, .aload_n 0, 1), (13, .iconst (-1), 1), (14, .putfield 15, 3), (17, .return_, 1)]
theorem dX4_init : dOk cX4_init tX4_init = true := by decide +kernel
abbrev rX4_init : Room := { frames := 1, cells := 1, slots := 60, locals := 30 }
def pX4_init (E : wE) (h0 : Nat) (u : Nat → Nat) : va_W := [(h0, .inr (4, [.ref (u 1), .int (-1 : Int32), .int 0])), ((u 1), .inl ((tE E).1, 60, .inl (fun _ => 0)))]
set_option maxHeartbeats 4000000 in
set_option maxRecDepth 100000 in
theorem kX4_init (l : Launch) (E : wE) (h0 sz : Nat) : Met l yX4_init (Cond.code yX4_init cX4_init 1 none :: TB) rX4_init (cPc E [(h0, .inr (4, [.null, .int 0, .int 0]))] sz [.ref h0]) (cQ E [(h0, .inr (4, [.null, .int 0, .int 0]))] sz (fun u => pX4_init E h0 u)) 1 60 (va_A [(h0, .inr (4, [.null, .int 0, .int 0]))] sz) := by
  refine cMet (by decide) (Nat.le_of_ble_eq_true rfl) ?_
  intro p e s m args below meth c ls C hr hlk hin hl hP hD
  have hx := C.1.1
  have hb := C.1.2.1
  replace C : Kx p s m args c cX4_init 1 RX4 E (va_A [(h0, .inr (4, [.null, .int 0, .int 0]))] s.heap.size) := C
  replace hl : lv_has ls 1 [(0, .ref h0)] := hl
  replace hin : meth.name = "<init>" := hin
  have hS : va_S (va_A [(h0, .inr (4, [.null, .int 0, .int 0]))] s.heap.size) s.heap s.heap [] := va_S.rf
  generalize hAe : va_A [(h0, .inr (4, [.null, .int 0, .int 0]))] s.heap.size = A at C hD hS
  refine lv_aload_n hx hb (dAt dX4_init 0 rfl) rfl (lv_at hl 0 rfl) ?_
  refine W.objInit hx hb C.1.2.2.2.1 (C.1.2.2.2.2 _ (TB_of 301 (by decide +kernel) rfl)) (C.1.2.2.2.2 _ oi_1) (C.1.2.2.2.2 _ oi_2) rfl (C.1.2.2.1 ▸ hl.1) rfl (dAt dX4_init 1 rfl) (Nat.le_of_ble_eq_true rfl) (Nat.le_of_ble_eq_true rfl) ?_
  refine W.eq (g2 := F0 m 4 ls []) rfl ?_
  refine lv_aload_n hx hb (dAt dX4_init 2 rfl) rfl (lv_at hl 0 rfl) ?_
  refine lv_bipush (v := 60) hx hb (dAt dX4_init 3 rfl) (by decide) ?_
  refine c_newa (N := 60) C hP hD hS arI (by decide) (by decide) (by decide) ⟨Nat.le_of_ble_eq_true rfl, Nat.le_of_ble_eq_true rfl⟩ (dAt dX4_init 4 rfl) (fun q1 H hP hD hS => ?_)
  replace hP : va_P E.1 vwCl [(h0, .inr (4, [.null, .int 0, .int 0])), (q1, .inl ((tE E).1, 60, .inl (fun _ => 0)))] H := hP
  replace hD : va_D A [(h0, .inr (4, [.null, .int 0, .int 0])), (q1, .inl ((tE E).1, 60, .inl (fun _ => 0)))] := hD
  refine c_putF C hP hD hS fl_X4_9 0 rfl rfl hin rfl rfl (ltb rfl) (dAt dX4_init 5 rfl) (fun H locs hP hD hS => ?_)
  replace hP : va_P E.1 vwCl [(h0, .inr (4, [.ref q1, .int 0, .int 0])), (q1, .inl ((tE E).1, 60, .inl (fun _ => 0)))] H := hP
  replace hD : va_D A [(h0, .inr (4, [.ref q1, .int 0, .int 0])), (q1, .inl ((tE E).1, 60, .inl (fun _ => 0)))] := hD
  refine lv_aload_n hx hb (dAt dX4_init 6 rfl) rfl (lv_at hl 0 rfl) ?_
  refine lv_iconst (v := -1) hx hb (dAt dX4_init 7 rfl) (by decide) ?_
  refine c_put C hP hD hS fl_X4_15 0 rfl rfl rfl (ltb rfl) (dAt dX4_init 8 rfl) (fun H locs hP hD hS => ?_)
  replace hP : va_P E.1 vwCl [(h0, .inr (4, [.ref q1, .int (-1 : Int32), .int 0])), (q1, .inl ((tE E).1, 60, .inl (fun _ => 0)))] H := hP
  replace hD : va_D A [(h0, .inr (4, [.ref q1, .int (-1 : Int32), .int 0])), (q1, .inl ((tE E).1, 60, .inl (fun _ => 0)))] := hD
  exact c_ret (F := fun u => pX4_init E h0 u) (u := fun k => ([h0, q1] : List Nat).getD k 0) C hAe.symm hP hD hS hr hlk (dAt dX4_init 9 rfl)
def tX0_init : List (Nat × Instr × Nat) := [(0, .aload_n 0, 1), (1, .invokespecial 3, 3), (4, .aload_n 0, 1), (5, .bipush 72, 2), (7, .newarray .int, 2), (9, .putfield 9, 3), (12, .aload_n 0, 1), (13, .bipush 8, 2), (15, .newarray .int, 2), (17, .putfield 15, 3), (20, .aload_n 0, 1), (21, .bipush 8, 2), (23, .newarray .int, 2), (25, .putfield 18, 3), (28, .aload_n 0, 1), (29, .bipush 8, 2), (31, .newarray .int, 2), (33, .putfield 21, 3), (36, .aload_n 0, 1), (37, .bipush 8, 2), (39, .newarray .int, 2), (41, .putfield 24, 3), (44, .aload_n 0, 1), (45, .sipush 192, 3), (48, .newarray .int, 2), (50, .putfield 27, 3), (53, .aload_n 0, 1), (54, .sipush 192, 3), (57, .newarray .int, 2), (59, .putfield 30, 3), (62, .aload_n 0, 1), (63, .sipush 192, 3), (66, .newarray .int, 2), (68, .putfield 33, 3), (71, .aload_n 0, 1), (72, .bipush 24, 2), (74, .newarray .int, 2), (76, .putfield 36, 3), (79, .aload_n 0, 1), (80, .bipush 24, 2), (82, .newarray .int, 2), (84, .putfield 39, 3), (87, .aload_n 0, 1), (88, .bipush 120, 2), (90, .newarray .int, 2), (92, .putfield 42, 3), (95, .aload_n 0, 1), (96, .bipush 120, 2), (98, .newarray .int, 2), (100, .putfield 45, 3), (103, .aload_n 0, 1), (104, .bipush 120, 2), (106, .newarray .int, 2), (108, .putfield 48, 3), (111, .aload_n 0, 1), (112, .bipush 120, 2), (114, .newarray .int, 2), (116, .putfield 51, 3), (119, .return_, 1)]
theorem dX0_init : dOk cX0_init tX0_init = true := by decide +kernel
abbrev rX0_init : Room := { frames := 1, cells := 14, slots := 1208, locals := 30 }
def pX0_init (E : wE) (h0 : Nat) (u : Nat → Nat) : va_W := [(h0, .inr (0, [.ref (u 1), .ref (u 2), .ref (u 3), .ref (u 4), .ref (u 5), .ref (u 6), .ref (u 7), .ref (u 8), .ref (u 9), .ref (u 10), .ref (u 11), .ref (u 12), .ref (u 13), .ref (u 14), .int 0, .int 0, .int 0, .int 0, .int 0])), ((u 1), .inl ((tE E).1, 72, .inl (fun _ => 0))), ((u 2), .inl ((tE E).1, 8, .inl (fun _ => 0))), ((u 3), .inl ((tE E).1, 8, .inl (fun _ => 0))), ((u 4), .inl ((tE E).1, 8, .inl (fun _ => 0))), ((u 5), .inl ((tE E).1, 8, .inl (fun _ => 0))), ((u 6), .inl ((tE E).1, 192, .inl (fun _ => 0))), ((u 7), .inl ((tE E).1, 192, .inl (fun _ => 0))), ((u 8), .inl ((tE E).1, 192, .inl (fun _ => 0))), ((u 9), .inl ((tE E).1, 24, .inl (fun _ => 0))), ((u 10), .inl ((tE E).1, 24, .inl (fun _ => 0))), ((u 11), .inl ((tE E).1, 120, .inl (fun _ => 0))), ((u 12), .inl ((tE E).1, 120, .inl (fun _ => 0))), ((u 13), .inl ((tE E).1, 120, .inl (fun _ => 0))), ((u 14), .inl ((tE E).1, 120, .inl (fun _ => 0)))]
set_option maxHeartbeats 4000000 in
set_option maxRecDepth 100000 in
theorem kX0_init (l : Launch) (E : wE) (h0 sz : Nat) : Met l yX0_init (Cond.code yX0_init cX0_init 1 none :: TB) rX0_init (cPc E [(h0, .inr (0, [.null, .null, .null, .null, .null, .null, .null, .null, .null, .null, .null, .null, .null, .null, .int 0, .int 0, .int 0, .int 0, .int 0]))] sz [.ref h0]) (cQ E [(h0, .inr (0, [.null, .null, .null, .null, .null, .null, .null, .null, .null, .null, .null, .null, .null, .null, .int 0, .int 0, .int 0, .int 0, .int 0]))] sz (fun u => pX0_init E h0 u)) 14 1208 (va_A [(h0, .inr (0, [.null, .null, .null, .null, .null, .null, .null, .null, .null, .null, .null, .null, .null, .null, .int 0, .int 0, .int 0, .int 0, .int 0]))] sz) := by
  refine cMet (by decide) (Nat.le_of_ble_eq_true rfl) ?_
  intro p e s m args below meth c ls C hr hlk hin hl hP hD
  have hx := C.1.1
  have hb := C.1.2.1
  replace C : Kx p s m args c cX0_init 1 RX0 E (va_A [(h0, .inr (0, [.null, .null, .null, .null, .null, .null, .null, .null, .null, .null, .null, .null, .null, .null, .int 0, .int 0, .int 0, .int 0, .int 0]))] s.heap.size) := C
  replace hl : lv_has ls 1 [(0, .ref h0)] := hl
  replace hin : meth.name = "<init>" := hin
  have hS : va_S (va_A [(h0, .inr (0, [.null, .null, .null, .null, .null, .null, .null, .null, .null, .null, .null, .null, .null, .null, .int 0, .int 0, .int 0, .int 0, .int 0]))] s.heap.size) s.heap s.heap [] := va_S.rf
  generalize hAe : va_A [(h0, .inr (0, [.null, .null, .null, .null, .null, .null, .null, .null, .null, .null, .null, .null, .null, .null, .int 0, .int 0, .int 0, .int 0, .int 0]))] s.heap.size = A at C hD hS
  refine lv_aload_n hx hb (dAt dX0_init 0 rfl) rfl (lv_at hl 0 rfl) ?_
  refine W.objInit hx hb C.1.2.2.2.1 (C.1.2.2.2.2 _ (TB_of 206 (by decide +kernel) rfl)) (C.1.2.2.2.2 _ oi_1) (C.1.2.2.2.2 _ oi_2) rfl (C.1.2.2.1 ▸ hl.1) rfl (dAt dX0_init 1 rfl) (Nat.le_of_ble_eq_true rfl) (Nat.le_of_ble_eq_true rfl) ?_
  refine W.eq (g2 := F0 m 4 ls []) rfl ?_
  refine lv_aload_n hx hb (dAt dX0_init 2 rfl) rfl (lv_at hl 0 rfl) ?_
  refine lv_bipush (v := 72) hx hb (dAt dX0_init 3 rfl) (by decide) ?_
  refine c_newa (N := 72) C hP hD hS arI (by decide) (by decide) (by decide) ⟨Nat.le_of_ble_eq_true rfl, Nat.le_of_ble_eq_true rfl⟩ (dAt dX0_init 4 rfl) (fun q1 H hP hD hS => ?_)
  replace hP : va_P E.1 vwCl [(h0, .inr (0, [.null, .null, .null, .null, .null, .null, .null, .null, .null, .null, .null, .null, .null, .null, .int 0, .int 0, .int 0, .int 0, .int 0])), (q1, .inl ((tE E).1, 72, .inl (fun _ => 0)))] H := hP
  replace hD : va_D A [(h0, .inr (0, [.null, .null, .null, .null, .null, .null, .null, .null, .null, .null, .null, .null, .null, .null, .int 0, .int 0, .int 0, .int 0, .int 0])), (q1, .inl ((tE E).1, 72, .inl (fun _ => 0)))] := hD
  refine c_putF C hP hD hS fl_X0_9 0 rfl rfl hin rfl rfl (ltb rfl) (dAt dX0_init 5 rfl) (fun H locs hP hD hS => ?_)
  replace hP : va_P E.1 vwCl [(h0, .inr (0, [.ref q1, .null, .null, .null, .null, .null, .null, .null, .null, .null, .null, .null, .null, .null, .int 0, .int 0, .int 0, .int 0, .int 0])), (q1, .inl ((tE E).1, 72, .inl (fun _ => 0)))] H := hP
  replace hD : va_D A [(h0, .inr (0, [.ref q1, .null, .null, .null, .null, .null, .null, .null, .null, .null, .null, .null, .null, .null, .int 0, .int 0, .int 0, .int 0, .int 0])), (q1, .inl ((tE E).1, 72, .inl (fun _ => 0)))] := hD
  refine lv_aload_n hx hb (dAt dX0_init 6 rfl) rfl (lv_at hl 0 rfl) ?_
  refine lv_bipush (v := 8) hx hb (dAt dX0_init 7 rfl) (by decide) ?_
  refine c_newa (N := 8) C hP hD hS arI (by decide) (by decide) (by decide) ⟨Nat.le_of_ble_eq_true rfl, Nat.le_of_ble_eq_true rfl⟩ (dAt dX0_init 8 rfl) (fun q2 H hP hD hS => ?_)
  replace hP : va_P E.1 vwCl [(h0, .inr (0, [.ref q1, .null, .null, .null, .null, .null, .null, .null, .null, .null, .null, .null, .null, .null, .int 0, .int 0, .int 0, .int 0, .int 0])), (q1, .inl ((tE E).1, 72, .inl (fun _ => 0))), (q2, .inl ((tE E).1, 8, .inl (fun _ => 0)))] H := hP
  replace hD : va_D A [(h0, .inr (0, [.ref q1, .null, .null, .null, .null, .null, .null, .null, .null, .null, .null, .null, .null, .null, .int 0, .int 0, .int 0, .int 0, .int 0])), (q1, .inl ((tE E).1, 72, .inl (fun _ => 0))), (q2, .inl ((tE E).1, 8, .inl (fun _ => 0)))] := hD
  refine c_putF C hP hD hS fl_X0_15 0 rfl rfl hin rfl rfl (ltb rfl) (dAt dX0_init 9 rfl) (fun H locs hP hD hS => ?_)
  replace hP : va_P E.1 vwCl [(h0, .inr (0, [.ref q1, .ref q2, .null, .null, .null, .null, .null, .null, .null, .null, .null, .null, .null, .null, .int 0, .int 0, .int 0, .int 0, .int 0])), (q1, .inl ((tE E).1, 72, .inl (fun _ => 0))), (q2, .inl ((tE E).1, 8, .inl (fun _ => 0)))] H := hP
  replace hD : va_D A [(h0, .inr (0, [.ref q1, .ref q2, .null, .null, .null, .null, .null, .null, .null, .null, .null, .null, .null, .null, .int 0, .int 0, .int 0, .int 0, .int 0])), (q1, .inl ((tE E).1, 72, .inl (fun _ => 0))), (q2, .inl ((tE E).1, 8, .inl (fun _ => 0)))] := hD
  refine lv_aload_n hx hb (dAt dX0_init 10 rfl) rfl (lv_at hl 0 rfl) ?_
  refine lv_bipush (v := 8) hx hb (dAt dX0_init 11 rfl) (by decide) ?_
  refine c_newa (N := 8) C hP hD hS arI (by decide) (by decide) (by decide) ⟨Nat.le_of_ble_eq_true rfl, Nat.le_of_ble_eq_true rfl⟩ (dAt dX0_init 12 rfl) (fun q3 H hP hD hS => ?_)
  replace hP : va_P E.1 vwCl [(h0, .inr (0, [.ref q1, .ref q2, .null, .null, .null, .null, .null, .null, .null, .null, .null, .null, .null, .null, .int 0, .int 0, .int 0, .int 0, .int 0])), (q1, .inl ((tE E).1, 72, .inl (fun _ => 0))), (q2, .inl ((tE E).1, 8, .inl (fun _ => 0))), (q3, .inl ((tE E).1, 8, .inl (fun _ => 0)))] H := hP
  replace hD : va_D A [(h0, .inr (0, [.ref q1, .ref q2, .null, .null, .null, .null, .null, .null, .null, .null, .null, .null, .null, .null, .int 0, .int 0, .int 0, .int 0, .int 0])), (q1, .inl ((tE E).1, 72, .inl (fun _ => 0))), (q2, .inl ((tE E).1, 8, .inl (fun _ => 0))), (q3, .inl ((tE E).1, 8, .inl (fun _ => 0)))] := hD
  refine c_putF C hP hD hS fl_X0_18 0 rfl rfl hin rfl rfl (ltb rfl) (dAt dX0_init 13 rfl) (fun H locs hP hD hS => ?_)
  replace hP : va_P E.1 vwCl [(h0, .inr (0, [.ref q1, .ref q2, .ref q3, .null, .null, .null, .null, .null, .null, .null, .null, .null, .null, .null, .int 0, .int 0, .int 0, .int 0, .int 0])), (q1, .inl ((tE E).1, 72, .inl (fun _ => 0))), (q2, .inl ((tE E).1, 8, .inl (fun _ => 0))), (q3, .inl ((tE E).1, 8, .inl (fun _ => 0)))] H := hP
  replace hD : va_D A [(h0, .inr (0, [.ref q1, .ref q2, .ref q3, .null, .null, .null, .null, .null, .null, .null, .null, .null, .null, .null, .int 0, .int 0, .int 0, .int 0, .int 0])), (q1, .inl ((tE E).1, 72, .inl (fun _ => 0))), (q2, .inl ((tE E).1, 8, .inl (fun _ => 0))), (q3, .inl ((tE E).1, 8, .inl (fun _ => 0)))] := hD
  refine lv_aload_n hx hb (dAt dX0_init 14 rfl) rfl (lv_at hl 0 rfl) ?_
  refine lv_bipush (v := 8) hx hb (dAt dX0_init 15 rfl) (by decide) ?_
  refine c_newa (N := 8) C hP hD hS arI (by decide) (by decide) (by decide) ⟨Nat.le_of_ble_eq_true rfl, Nat.le_of_ble_eq_true rfl⟩ (dAt dX0_init 16 rfl) (fun q4 H hP hD hS => ?_)
  replace hP : va_P E.1 vwCl [(h0, .inr (0, [.ref q1, .ref q2, .ref q3, .null, .null, .null, .null, .null, .null, .null, .null, .null, .null, .null, .int 0, .int 0, .int 0, .int 0, .int 0])), (q1, .inl ((tE E).1, 72, .inl (fun _ => 0))), (q2, .inl ((tE E).1, 8, .inl (fun _ => 0))), (q3, .inl ((tE E).1, 8, .inl (fun _ => 0))), (q4, .inl ((tE E).1, 8, .inl (fun _ => 0)))] H := hP
  replace hD : va_D A [(h0, .inr (0, [.ref q1, .ref q2, .ref q3, .null, .null, .null, .null, .null, .null, .null, .null, .null, .null, .null, .int 0, .int 0, .int 0, .int 0, .int 0])), (q1, .inl ((tE E).1, 72, .inl (fun _ => 0))), (q2, .inl ((tE E).1, 8, .inl (fun _ => 0))), (q3, .inl ((tE E).1, 8, .inl (fun _ => 0))), (q4, .inl ((tE E).1, 8, .inl (fun _ => 0)))] := hD
  refine c_putF C hP hD hS fl_X0_21 0 rfl rfl hin rfl rfl (ltb rfl) (dAt dX0_init 17 rfl) (fun H locs hP hD hS => ?_)
  replace hP : va_P E.1 vwCl [(h0, .inr (0, [.ref q1, .ref q2, .ref q3, .ref q4, .null, .null, .null, .null, .null, .null, .null, .null, .null, .null, .int 0, .int 0, .int 0, .int 0, .int 0])), (q1, .inl ((tE E).1, 72, .inl (fun _ => 0))), (q2, .inl ((tE E).1, 8, .inl (fun _ => 0))), (q3, .inl ((tE E).1, 8, .inl (fun _ => 0))), (q4, .inl ((tE E).1, 8, .inl (fun _ => 0)))] H := hP
  replace hD : va_D A [(h0, .inr (0, [.ref q1, .ref q2, .ref q3, .ref q4, .null, .null, .null, .null, .null, .null, .null, .null, .null, .null, .int 0, .int 0, .int 0, .int 0, .int 0])), (q1, .inl ((tE E).1, 72, .inl (fun _ => 0))), (q2, .inl ((tE E).1, 8, .inl (fun _ => 0))), (q3, .inl ((tE E).1, 8, .inl (fun _ => 0))), (q4, .inl ((tE E).1, 8, .inl (fun _ => 0)))] := hD
  refine lv_aload_n hx hb (dAt dX0_init 18 rfl) rfl (lv_at hl 0 rfl) ?_
  refine lv_bipush (v := 8) hx hb (dAt dX0_init 19 rfl) (by decide) ?_
  refine c_newa (N := 8) C hP hD hS arI (by decide) (by decide) (by decide) ⟨Nat.le_of_ble_eq_true rfl, Nat.le_of_ble_eq_true rfl⟩ (dAt dX0_init 20 rfl) (fun q5 H hP hD hS => ?_)
  replace hP : va_P E.1 vwCl [(h0, .inr (0, [.ref q1, .ref q2, .ref q3, .ref q4, .null, .null, .null, .null, .null, .null, .null, .null, .null, .null, .int 0, .int 0, .int 0, .int 0, .int 0])), (q1, .inl ((tE E).1, 72, .inl (fun _ => 0))), (q2, .inl ((tE E).1, 8, .inl (fun _ => 0))), (q3, .inl ((tE E).1, 8, .inl (fun _ => 0))), (q4, .inl ((tE E).1, 8, .inl (fun _ => 0))), (q5, .inl ((tE E).1, 8, .inl (fun _ => 0)))] H := hP
  replace hD : va_D A [(h0, .inr (0, [.ref q1, .ref q2, .ref q3, .ref q4, .null, .null, .null, .null, .null, .null, .null, .null, .null, .null, .int 0, .int 0, .int 0, .int 0, .int 0])), (q1, .inl ((tE E).1, 72, .inl (fun _ => 0))), (q2, .inl ((tE E).1, 8, .inl (fun _ => 0))), (q3, .inl ((tE E).1, 8, .inl (fun _ => 0))), (q4, .inl ((tE E).1, 8, .inl (fun _ => 0))), (q5, .inl ((tE E).1, 8, .inl (fun _ => 0)))] := hD
  refine c_putF C hP hD hS fl_X0_24 0 rfl rfl hin rfl rfl (ltb rfl) (dAt dX0_init 21 rfl) (fun H locs hP hD hS => ?_)
  replace hP : va_P E.1 vwCl [(h0, .inr (0, [.ref q1, .ref q2, .ref q3, .ref q4, .ref q5, .null, .null, .null, .null, .null, .null, .null, .null, .null, .int 0, .int 0, .int 0, .int 0, .int 0])), (q1, .inl ((tE E).1, 72, .inl (fun _ => 0))), (q2, .inl ((tE E).1, 8, .inl (fun _ => 0))), (q3, .inl ((tE E).1, 8, .inl (fun _ => 0))), (q4, .inl ((tE E).1, 8, .inl (fun _ => 0))), (q5, .inl ((tE E).1, 8, .inl (fun _ => 0)))] H := hP
  replace hD : va_D A [(h0, .inr (0, [.ref q1, .ref q2, .ref q3, .ref q4, .ref q5, .null, .null, .null, .null, .null, .null, .null, .null, .null, .int 0, .int 0, .int 0, .int 0, .int 0])), (q1, .inl ((tE E).1, 72, .inl (fun _ => 0))), (q2, .inl ((tE E).1, 8, .inl (fun _ => 0))), (q3, .inl ((tE E).1, 8, .inl (fun _ => 0))), (q4, .inl ((tE E).1, 8, .inl (fun _ => 0))), (q5, .inl ((tE E).1, 8, .inl (fun _ => 0)))] := hD
  refine lv_aload_n hx hb (dAt dX0_init 22 rfl) rfl (lv_at hl 0 rfl) ?_
  refine lv_sipush (v := 192) hx hb (dAt dX0_init 23 rfl) (by decide) ?_
  refine c_newa (N := 192) C hP hD hS arI (by decide) (by decide) (by decide) ⟨Nat.le_of_ble_eq_true rfl, Nat.le_of_ble_eq_true rfl⟩ (dAt dX0_init 24 rfl) (fun q6 H hP hD hS => ?_)
  replace hP : va_P E.1 vwCl [(h0, .inr (0, [.ref q1, .ref q2, .ref q3, .ref q4, .ref q5, .null, .null, .null, .null, .null, .null, .null, .null, .null, .int 0, .int 0, .int 0, .int 0, .int 0])), (q1, .inl ((tE E).1, 72, .inl (fun _ => 0))), (q2, .inl ((tE E).1, 8, .inl (fun _ => 0))), (q3, .inl ((tE E).1, 8, .inl (fun _ => 0))), (q4, .inl ((tE E).1, 8, .inl (fun _ => 0))), (q5, .inl ((tE E).1, 8, .inl (fun _ => 0))), (q6, .inl ((tE E).1, 192, .inl (fun _ => 0)))] H := hP
  replace hD : va_D A [(h0, .inr (0, [.ref q1, .ref q2, .ref q3, .ref q4, .ref q5, .null, .null, .null, .null, .null, .null, .null, .null, .null, .int 0, .int 0, .int 0, .int 0, .int 0])), (q1, .inl ((tE E).1, 72, .inl (fun _ => 0))), (q2, .inl ((tE E).1, 8, .inl (fun _ => 0))), (q3, .inl ((tE E).1, 8, .inl (fun _ => 0))), (q4, .inl ((tE E).1, 8, .inl (fun _ => 0))), (q5, .inl ((tE E).1, 8, .inl (fun _ => 0))), (q6, .inl ((tE E).1, 192, .inl (fun _ => 0)))] := hD
  refine c_putF C hP hD hS fl_X0_27 0 rfl rfl hin rfl rfl (ltb rfl) (dAt dX0_init 25 rfl) (fun H locs hP hD hS => ?_)
  replace hP : va_P E.1 vwCl [(h0, .inr (0, [.ref q1, .ref q2, .ref q3, .ref q4, .ref q5, .ref q6, .null, .null, .null, .null, .null, .null, .null, .null, .int 0, .int 0, .int 0, .int 0, .int 0])), (q1, .inl ((tE E).1, 72, .inl (fun _ => 0))), (q2, .inl ((tE E).1, 8, .inl (fun _ => 0))), (q3, .inl ((tE E).1, 8, .inl (fun _ => 0))), (q4, .inl ((tE E).1, 8, .inl (fun _ => 0))), (q5, .inl ((tE E).1, 8, .inl (fun _ => 0))), (q6, .inl ((tE E).1, 192, .inl (fun _ => 0)))] H := hP
  replace hD : va_D A [(h0, .inr (0, [.ref q1, .ref q2, .ref q3, .ref q4, .ref q5, .ref q6, .null, .null, .null, .null, .null, .null, .null, .null, .int 0, .int 0, .int 0, .int 0, .int 0])), (q1, .inl ((tE E).1, 72, .inl (fun _ => 0))), (q2, .inl ((tE E).1, 8, .inl (fun _ => 0))), (q3, .inl ((tE E).1, 8, .inl (fun _ => 0))), (q4, .inl ((tE E).1, 8, .inl (fun _ => 0))), (q5, .inl ((tE E).1, 8, .inl (fun _ => 0))), (q6, .inl ((tE E).1, 192, .inl (fun _ => 0)))] := hD
  refine lv_aload_n hx hb (dAt dX0_init 26 rfl) rfl (lv_at hl 0 rfl) ?_
  refine lv_sipush (v := 192) hx hb (dAt dX0_init 27 rfl) (by decide) ?_
  refine c_newa (N := 192) C hP hD hS arI (by decide) (by decide) (by decide) ⟨Nat.le_of_ble_eq_true rfl, Nat.le_of_ble_eq_true rfl⟩ (dAt dX0_init 28 rfl) (fun q7 H hP hD hS => ?_)
  replace hP : va_P E.1 vwCl [(h0, .inr (0, [.ref q1, .ref q2, .ref q3, .ref q4, .ref q5, .ref q6, .null, .null, .null, .null, .null, .null, .null, .null, .int 0, .int 0, .int 0, .int 0, .int 0])), (q1, .inl ((tE E).1, 72, .inl (fun _ => 0))), (q2, .inl ((tE E).1, 8, .inl (fun _ => 0))), (q3, .inl ((tE E).1, 8, .inl (fun _ => 0))), (q4, .inl ((tE E).1, 8, .inl (fun _ => 0))), (q5, .inl ((tE E).1, 8, .inl (fun _ => 0))), (q6, .inl ((tE E).1, 192, .inl (fun _ => 0))), (q7, .inl ((tE E).1, 192, .inl (fun _ => 0)))] H := hP
  replace hD : va_D A [(h0, .inr (0, [.ref q1, .ref q2, .ref q3, .ref q4, .ref q5, .ref q6, .null, .null, .null, .null, .null, .null, .null, .null, .int 0, .int 0, .int 0, .int 0, .int 0])), (q1, .inl ((tE E).1, 72, .inl (fun _ => 0))), (q2, .inl ((tE E).1, 8, .inl (fun _ => 0))), (q3, .inl ((tE E).1, 8, .inl (fun _ => 0))), (q4, .inl ((tE E).1, 8, .inl (fun _ => 0))), (q5, .inl ((tE E).1, 8, .inl (fun _ => 0))), (q6, .inl ((tE E).1, 192, .inl (fun _ => 0))), (q7, .inl ((tE E).1, 192, .inl (fun _ => 0)))] := hD
  refine c_putF C hP hD hS fl_X0_30 0 rfl rfl hin rfl rfl (ltb rfl) (dAt dX0_init 29 rfl) (fun H locs hP hD hS => ?_)
  replace hP : va_P E.1 vwCl [(h0, .inr (0, [.ref q1, .ref q2, .ref q3, .ref q4, .ref q5, .ref q6, .ref q7, .null, .null, .null, .null, .null, .null, .null, .int 0, .int 0, .int 0, .int 0, .int 0])), (q1, .inl ((tE E).1, 72, .inl (fun _ => 0))), (q2, .inl ((tE E).1, 8, .inl (fun _ => 0))), (q3, .inl ((tE E).1, 8, .inl (fun _ => 0))), (q4, .inl ((tE E).1, 8, .inl (fun _ => 0))), (q5, .inl ((tE E).1, 8, .inl (fun _ => 0))), (q6, .inl ((tE E).1, 192, .inl (fun _ => 0))), (q7, .inl ((tE E).1, 192, .inl (fun _ => 0)))] H := hP
  replace hD : va_D A [(h0, .inr (0, [.ref q1, .ref q2, .ref q3, .ref q4, .ref q5, .ref q6, .ref q7, .null, .null, .null, .null, .null, .null, .null, .int 0, .int 0, .int 0, .int 0, .int 0])), (q1, .inl ((tE E).1, 72, .inl (fun _ => 0))), (q2, .inl ((tE E).1, 8, .inl (fun _ => 0))), (q3, .inl ((tE E).1, 8, .inl (fun _ => 0))), (q4, .inl ((tE E).1, 8, .inl (fun _ => 0))), (q5, .inl ((tE E).1, 8, .inl (fun _ => 0))), (q6, .inl ((tE E).1, 192, .inl (fun _ => 0))), (q7, .inl ((tE E).1, 192, .inl (fun _ => 0)))] := hD
  refine lv_aload_n hx hb (dAt dX0_init 30 rfl) rfl (lv_at hl 0 rfl) ?_
  refine lv_sipush (v := 192) hx hb (dAt dX0_init 31 rfl) (by decide) ?_
  refine c_newa (N := 192) C hP hD hS arI (by decide) (by decide) (by decide) ⟨Nat.le_of_ble_eq_true rfl, Nat.le_of_ble_eq_true rfl⟩ (dAt dX0_init 32 rfl) (fun q8 H hP hD hS => ?_)
  replace hP : va_P E.1 vwCl [(h0, .inr (0, [.ref q1, .ref q2, .ref q3, .ref q4, .ref q5, .ref q6, .ref q7, .null, .null, .null, .null, .null, .null, .null, .int 0, .int 0, .int 0, .int 0, .int 0])), (q1, .inl ((tE E).1, 72, .inl (fun _ => 0))), (q2, .inl ((tE E).1, 8, .inl (fun _ => 0))), (q3, .inl ((tE E).1, 8, .inl (fun _ => 0))), (q4, .inl ((tE E).1, 8, .inl (fun _ => 0))), (q5, .inl ((tE E).1, 8, .inl (fun _ => 0))), (q6, .inl ((tE E).1, 192, .inl (fun _ => 0))), (q7, .inl ((tE E).1, 192, .inl (fun _ => 0))), (q8, .inl ((tE E).1, 192, .inl (fun _ => 0)))] H := hP
  replace hD : va_D A [(h0, .inr (0, [.ref q1, .ref q2, .ref q3, .ref q4, .ref q5, .ref q6, .ref q7, .null, .null, .null, .null, .null, .null, .null, .int 0, .int 0, .int 0, .int 0, .int 0])), (q1, .inl ((tE E).1, 72, .inl (fun _ => 0))), (q2, .inl ((tE E).1, 8, .inl (fun _ => 0))), (q3, .inl ((tE E).1, 8, .inl (fun _ => 0))), (q4, .inl ((tE E).1, 8, .inl (fun _ => 0))), (q5, .inl ((tE E).1, 8, .inl (fun _ => 0))), (q6, .inl ((tE E).1, 192, .inl (fun _ => 0))), (q7, .inl ((tE E).1, 192, .inl (fun _ => 0))), (q8, .inl ((tE E).1, 192, .inl (fun _ => 0)))] := hD
  refine c_putF C hP hD hS fl_X0_33 0 rfl rfl hin rfl rfl (ltb rfl) (dAt dX0_init 33 rfl) (fun H locs hP hD hS => ?_)
  replace hP : va_P E.1 vwCl [(h0, .inr (0, [.ref q1, .ref q2, .ref q3, .ref q4, .ref q5, .ref q6, .ref q7, .ref q8, .null, .null, .null, .null, .null, .null, .int 0, .int 0, .int 0, .int 0, .int 0])), (q1, .inl ((tE E).1, 72, .inl (fun _ => 0))), (q2, .inl ((tE E).1, 8, .inl (fun _ => 0))), (q3, .inl ((tE E).1, 8, .inl (fun _ => 0))), (q4, .inl ((tE E).1, 8, .inl (fun _ => 0))), (q5, .inl ((tE E).1, 8, .inl (fun _ => 0))), (q6, .inl ((tE E).1, 192, .inl (fun _ => 0))), (q7, .inl ((tE E).1, 192, .inl (fun _ => 0))), (q8, .inl ((tE E).1, 192, .inl (fun _ => 0)))] H := hP
  replace hD : va_D A [(h0, .inr (0, [.ref q1, .ref q2, .ref q3, .ref q4, .ref q5, .ref q6, .ref q7, .ref q8, .null, .null, .null, .null, .null, .null, .int 0, .int 0, .int 0, .int 0, .int 0])), (q1, .inl ((tE E).1, 72, .inl (fun _ => 0))), (q2, .inl ((tE E).1, 8, .inl (fun _ => 0))), (q3, .inl ((tE E).1, 8, .inl (fun _ => 0))), (q4, .inl ((tE E).1, 8, .inl (fun _ => 0))), (q5, .inl ((tE E).1, 8, .inl (fun _ => 0))), (q6, .inl ((tE E).1, 192, .inl (fun _ => 0))), (q7, .inl ((tE E).1, 192, .inl (fun _ => 0))), (q8, .inl ((tE E).1, 192, .inl (fun _ => 0)))] := hD
  refine lv_aload_n hx hb (dAt dX0_init 34 rfl) rfl (lv_at hl 0 rfl) ?_
  refine lv_bipush (v := 24) hx hb (dAt dX0_init 35 rfl) (by decide) ?_
  refine c_newa (N := 24) C hP hD hS arI (by decide) (by decide) (by decide) ⟨Nat.le_of_ble_eq_true rfl, Nat.le_of_ble_eq_true rfl⟩ (dAt dX0_init 36 rfl) (fun q9 H hP hD hS => ?_)
  replace hP : va_P E.1 vwCl [(h0, .inr (0, [.ref q1, .ref q2, .ref q3, .ref q4, .ref q5, .ref q6, .ref q7, .ref q8, .null, .null, .null, .null, .null, .null, .int 0, .int 0, .int 0, .int 0, .int 0])), (q1, .inl ((tE E).1, 72, .inl (fun _ => 0))), (q2, .inl ((tE E).1, 8, .inl (fun _ => 0))), (q3, .inl ((tE E).1, 8, .inl (fun _ => 0))), (q4, .inl ((tE E).1, 8, .inl (fun _ => 0))), (q5, .inl ((tE E).1, 8, .inl (fun _ => 0))), (q6, .inl ((tE E).1, 192, .inl (fun _ => 0))), (q7, .inl ((tE E).1, 192, .inl (fun _ => 0))), (q8, .inl ((tE E).1, 192, .inl (fun _ => 0))), (q9, .inl ((tE E).1, 24, .inl (fun _ => 0)))] H := hP
  replace hD : va_D A [(h0, .inr (0, [.ref q1, .ref q2, .ref q3, .ref q4, .ref q5, .ref q6, .ref q7, .ref q8, .null, .null, .null, .null, .null, .null, .int 0, .int 0, .int 0, .int 0, .int 0])), (q1, .inl ((tE E).1, 72, .inl (fun _ => 0))), (q2, .inl ((tE E).1, 8, .inl (fun _ => 0))), (q3, .inl ((tE E).1, 8, .inl (fun _ => 0))), (q4, .inl ((tE E).1, 8, .inl (fun _ => 0))), (q5, .inl ((tE E).1, 8, .inl (fun _ => 0))), (q6, .inl ((tE E).1, 192, .inl (fun _ => 0))), (q7, .inl ((tE E).1, 192, .inl (fun _ => 0))), (q8, .inl ((tE E).1, 192, .inl (fun _ => 0))), (q9, .inl ((tE E).1, 24, .inl (fun _ => 0)))] := hD
  refine c_putF C hP hD hS fl_X0_36 0 rfl rfl hin rfl rfl (ltb rfl) (dAt dX0_init 37 rfl) (fun H locs hP hD hS => ?_)
  replace hP : va_P E.1 vwCl [(h0, .inr (0, [.ref q1, .ref q2, .ref q3, .ref q4, .ref q5, .ref q6, .ref q7, .ref q8, .ref q9, .null, .null, .null, .null, .null, .int 0, .int 0, .int 0, .int 0, .int 0])), (q1, .inl ((tE E).1, 72, .inl (fun _ => 0))), (q2, .inl ((tE E).1, 8, .inl (fun _ => 0))), (q3, .inl ((tE E).1, 8, .inl (fun _ => 0))), (q4, .inl ((tE E).1, 8, .inl (fun _ => 0))), (q5, .inl ((tE E).1, 8, .inl (fun _ => 0))), (q6, .inl ((tE E).1, 192, .inl (fun _ => 0))), (q7, .inl ((tE E).1, 192, .inl (fun _ => 0))), (q8, .inl ((tE E).1, 192, .inl (fun _ => 0))), (q9, .inl ((tE E).1, 24, .inl (fun _ => 0)))] H := hP
  replace hD : va_D A [(h0, .inr (0, [.ref q1, .ref q2, .ref q3, .ref q4, .ref q5, .ref q6, .ref q7, .ref q8, .ref q9, .null, .null, .null, .null, .null, .int 0, .int 0, .int 0, .int 0, .int 0])), (q1, .inl ((tE E).1, 72, .inl (fun _ => 0))), (q2, .inl ((tE E).1, 8, .inl (fun _ => 0))), (q3, .inl ((tE E).1, 8, .inl (fun _ => 0))), (q4, .inl ((tE E).1, 8, .inl (fun _ => 0))), (q5, .inl ((tE E).1, 8, .inl (fun _ => 0))), (q6, .inl ((tE E).1, 192, .inl (fun _ => 0))), (q7, .inl ((tE E).1, 192, .inl (fun _ => 0))), (q8, .inl ((tE E).1, 192, .inl (fun _ => 0))), (q9, .inl ((tE E).1, 24, .inl (fun _ => 0)))] := hD
  refine lv_aload_n hx hb (dAt dX0_init 38 rfl) rfl (lv_at hl 0 rfl) ?_
  refine lv_bipush (v := 24) hx hb (dAt dX0_init 39 rfl) (by decide) ?_
  refine c_newa (N := 24) C hP hD hS arI (by decide) (by decide) (by decide) ⟨Nat.le_of_ble_eq_true rfl, Nat.le_of_ble_eq_true rfl⟩ (dAt dX0_init 40 rfl) (fun q10 H hP hD hS => ?_)
  replace hP : va_P E.1 vwCl [(h0, .inr (0, [.ref q1, .ref q2, .ref q3, .ref q4, .ref q5, .ref q6, .ref q7, .ref q8, .ref q9, .null, .null, .null, .null, .null, .int 0, .int 0, .int 0, .int 0, .int 0])), (q1, .inl ((tE E).1, 72, .inl (fun _ => 0))), (q2, .inl ((tE E).1, 8, .inl (fun _ => 0))), (q3, .inl ((tE E).1, 8, .inl (fun _ => 0))), (q4, .inl ((tE E).1, 8, .inl (fun _ => 0))), (q5, .inl ((tE E).1, 8, .inl (fun _ => 0))), (q6, .inl ((tE E).1, 192, .inl (fun _ => 0))), (q7, .inl ((tE E).1, 192, .inl (fun _ => 0))), (q8, .inl ((tE E).1, 192, .inl (fun _ => 0))), (q9, .inl ((tE E).1, 24, .inl (fun _ => 0))), (q10, .inl ((tE E).1, 24, .inl (fun _ => 0)))] H := hP
  replace hD : va_D A [(h0, .inr (0, [.ref q1, .ref q2, .ref q3, .ref q4, .ref q5, .ref q6, .ref q7, .ref q8, .ref q9, .null, .null, .null, .null, .null, .int 0, .int 0, .int 0, .int 0, .int 0])), (q1, .inl ((tE E).1, 72, .inl (fun _ => 0))), (q2, .inl ((tE E).1, 8, .inl (fun _ => 0))), (q3, .inl ((tE E).1, 8, .inl (fun _ => 0))), (q4, .inl ((tE E).1, 8, .inl (fun _ => 0))), (q5, .inl ((tE E).1, 8, .inl (fun _ => 0))), (q6, .inl ((tE E).1, 192, .inl (fun _ => 0))), (q7, .inl ((tE E).1, 192, .inl (fun _ => 0))), (q8, .inl ((tE E).1, 192, .inl (fun _ => 0))), (q9, .inl ((tE E).1, 24, .inl (fun _ => 0))), (q10, .inl ((tE E).1, 24, .inl (fun _ => 0)))] := hD
  refine c_putF C hP hD hS fl_X0_39 0 rfl rfl hin rfl rfl (ltb rfl) (dAt dX0_init 41 rfl) (fun H locs hP hD hS => ?_)
  replace hP : va_P E.1 vwCl [(h0, .inr (0, [.ref q1, .ref q2, .ref q3, .ref q4, .ref q5, .ref q6, .ref q7, .ref q8, .ref q9, .ref q10, .null, .null, .null, .null, .int 0, .int 0, .int 0, .int 0, .int 0])), (q1, .inl ((tE E).1, 72, .inl (fun _ => 0))), (q2, .inl ((tE E).1, 8, .inl (fun _ => 0))), (q3, .inl ((tE E).1, 8, .inl (fun _ => 0))), (q4, .inl ((tE E).1, 8, .inl (fun _ => 0))), (q5, .inl ((tE E).1, 8, .inl (fun _ => 0))), (q6, .inl ((tE E).1, 192, .inl (fun _ => 0))), (q7, .inl ((tE E).1, 192, .inl (fun _ => 0))), (q8, .inl ((tE E).1, 192, .inl (fun _ => 0))), (q9, .inl ((tE E).1, 24, .inl (fun _ => 0))), (q10, .inl ((tE E).1, 24, .inl (fun _ => 0)))] H := hP
  replace hD : va_D A [(h0, .inr (0, [.ref q1, .ref q2, .ref q3, .ref q4, .ref q5, .ref q6, .ref q7, .ref q8, .ref q9, .ref q10, .null, .null, .null, .null, .int 0, .int 0, .int 0, .int 0, .int 0])), (q1, .inl ((tE E).1, 72, .inl (fun _ => 0))), (q2, .inl ((tE E).1, 8, .inl (fun _ => 0))), (q3, .inl ((tE E).1, 8, .inl (fun _ => 0))), (q4, .inl ((tE E).1, 8, .inl (fun _ => 0))), (q5, .inl ((tE E).1, 8, .inl (fun _ => 0))), (q6, .inl ((tE E).1, 192, .inl (fun _ => 0))), (q7, .inl ((tE E).1, 192, .inl (fun _ => 0))), (q8, .inl ((tE E).1, 192, .inl (fun _ => 0))), (q9, .inl ((tE E).1, 24, .inl (fun _ => 0))), (q10, .inl ((tE E).1, 24, .inl (fun _ => 0)))] := hD
  refine lv_aload_n hx hb (dAt dX0_init 42 rfl) rfl (lv_at hl 0 rfl) ?_
  refine lv_bipush (v := 120) hx hb (dAt dX0_init 43 rfl) (by decide) ?_
  refine c_newa (N := 120) C hP hD hS arI (by decide) (by decide) (by decide) ⟨Nat.le_of_ble_eq_true rfl, Nat.le_of_ble_eq_true rfl⟩ (dAt dX0_init 44 rfl) (fun q11 H hP hD hS => ?_)
  replace hP : va_P E.1 vwCl [(h0, .inr (0, [.ref q1, .ref q2, .ref q3, .ref q4, .ref q5, .ref q6, .ref q7, .ref q8, .ref q9, .ref q10, .null, .null, .null, .null, .int 0, .int 0, .int 0, .int 0, .int 0])), (q1, .inl ((tE E).1, 72, .inl (fun _ => 0))), (q2, .inl ((tE E).1, 8, .inl (fun _ => 0))), (q3, .inl ((tE E).1, 8, .inl (fun _ => 0))), (q4, .inl ((tE E).1, 8, .inl (fun _ => 0))), (q5, .inl ((tE E).1, 8, .inl (fun _ => 0))), (q6, .inl ((tE E).1, 192, .inl (fun _ => 0))), (q7, .inl ((tE E).1, 192, .inl (fun _ => 0))), (q8, .inl ((tE E).1, 192, .inl (fun _ => 0))), (q9, .inl ((tE E).1, 24, .inl (fun _ => 0))), (q10, .inl ((tE E).1, 24, .inl (fun _ => 0))), (q11, .inl ((tE E).1, 120, .inl (fun _ => 0)))] H := hP
  replace hD : va_D A [(h0, .inr (0, [.ref q1, .ref q2, .ref q3, .ref q4, .ref q5, .ref q6, .ref q7, .ref q8, .ref q9, .ref q10, .null, .null, .null, .null, .int 0, .int 0, .int 0, .int 0, .int 0])), (q1, .inl ((tE E).1, 72, .inl (fun _ => 0))), (q2, .inl ((tE E).1, 8, .inl (fun _ => 0))), (q3, .inl ((tE E).1, 8, .inl (fun _ => 0))), (q4, .inl ((tE E).1, 8, .inl (fun _ => 0))), (q5, .inl ((tE E).1, 8, .inl (fun _ => 0))), (q6, .inl ((tE E).1, 192, .inl (fun _ => 0))), (q7, .inl ((tE E).1, 192, .inl (fun _ => 0))), (q8, .inl ((tE E).1, 192, .inl (fun _ => 0))), (q9, .inl ((tE E).1, 24, .inl (fun _ => 0))), (q10, .inl ((tE E).1, 24, .inl (fun _ => 0))), (q11, .inl ((tE E).1, 120, .inl (fun _ => 0)))] := hD
  refine c_putF C hP hD hS fl_X0_42 0 rfl rfl hin rfl rfl (ltb rfl) (dAt dX0_init 45 rfl) (fun H locs hP hD hS => ?_)
  replace hP : va_P E.1 vwCl [(h0, .inr (0, [.ref q1, .ref q2, .ref q3, .ref q4, .ref q5, .ref q6, .ref q7, .ref q8, .ref q9, .ref q10, .ref q11, .null, .null, .null, .int 0, .int 0, .int 0, .int 0, .int 0])), (q1, .inl ((tE E).1, 72, .inl (fun _ => 0))), (q2, .inl ((tE E).1, 8, .inl (fun _ => 0))), (q3, .inl ((tE E).1, 8, .inl (fun _ => 0))), (q4, .inl ((tE E).1, 8, .inl (fun _ => 0))), (q5, .inl ((tE E).1, 8, .inl (fun _ => 0))), (q6, .inl ((tE E).1, 192, .inl (fun _ => 0))), (q7, .inl ((tE E).1, 192, .inl (fun _ => 0))), (q8, .inl ((tE E).1, 192, .inl (fun _ => 0))), (q9, .inl ((tE E).1, 24, .inl (fun _ => 0))), (q10, .inl ((tE E).1, 24, .inl (fun _ => 0))), (q11, .inl ((tE E).1, 120, .inl (fun _ => 0)))] H := hP
  replace hD : va_D A [(h0, .inr (0, [.ref q1, .ref q2, .ref q3, .ref q4, .ref q5, .ref q6, .ref q7, .ref q8, .ref q9, .ref q10, .ref q11, .null, .null, .null, .int 0, .int 0, .int 0, .int 0, .int 0])), (q1, .inl ((tE E).1, 72, .inl (fun _ => 0))), (q2, .inl ((tE E).1, 8, .inl (fun _ => 0))), (q3, .inl ((tE E).1, 8, .inl (fun _ => 0))), (q4, .inl ((tE E).1, 8, .inl (fun _ => 0))), (q5, .inl ((tE E).1, 8, .inl (fun _ => 0))), (q6, .inl ((tE E).1, 192, .inl (fun _ => 0))), (q7, .inl ((tE E).1, 192, .inl (fun _ => 0))), (q8, .inl ((tE E).1, 192, .inl (fun _ => 0))), (q9, .inl ((tE E).1, 24, .inl (fun _ => 0))), (q10, .inl ((tE E).1, 24, .inl (fun _ => 0))), (q11, .inl ((tE E).1, 120, .inl (fun _ => 0)))] := hD
  refine lv_aload_n hx hb (dAt dX0_init 46 rfl) rfl (lv_at hl 0 rfl) ?_
  refine lv_bipush (v := 120) hx hb (dAt dX0_init 47 rfl) (by decide) ?_
  refine c_newa (N := 120) C hP hD hS arI (by decide) (by decide) (by decide) ⟨Nat.le_of_ble_eq_true rfl, Nat.le_of_ble_eq_true rfl⟩ (dAt dX0_init 48 rfl) (fun q12 H hP hD hS => ?_)
  replace hP : va_P E.1 vwCl [(h0, .inr (0, [.ref q1, .ref q2, .ref q3, .ref q4, .ref q5, .ref q6, .ref q7, .ref q8, .ref q9, .ref q10, .ref q11, .null, .null, .null, .int 0, .int 0, .int 0, .int 0, .int 0])), (q1, .inl ((tE E).1, 72, .inl (fun _ => 0))), (q2, .inl ((tE E).1, 8, .inl (fun _ => 0))), (q3, .inl ((tE E).1, 8, .inl (fun _ => 0))), (q4, .inl ((tE E).1, 8, .inl (fun _ => 0))), (q5, .inl ((tE E).1, 8, .inl (fun _ => 0))), (q6, .inl ((tE E).1, 192, .inl (fun _ => 0))), (q7, .inl ((tE E).1, 192, .inl (fun _ => 0))), (q8, .inl ((tE E).1, 192, .inl (fun _ => 0))), (q9, .inl ((tE E).1, 24, .inl (fun _ => 0))), (q10, .inl ((tE E).1, 24, .inl (fun _ => 0))), (q11, .inl ((tE E).1, 120, .inl (fun _ => 0))), (q12, .inl ((tE E).1, 120, .inl (fun _ => 0)))] H := hP
  replace hD : va_D A [(h0, .inr (0, [.ref q1, .ref q2, .ref q3, .ref q4, .ref q5, .ref q6, .ref q7, .ref q8, .ref q9, .ref q10, .ref q11, .null, .null, .null, .int 0, .int 0, .int 0, .int 0, .int 0])), (q1, .inl ((tE E).1, 72, .inl (fun _ => 0))), (q2, .inl ((tE E).1, 8, .inl (fun _ => 0))), (q3, .inl ((tE E).1, 8, .inl (fun _ => 0))), (q4, .inl ((tE E).1, 8, .inl (fun _ => 0))), (q5, .inl ((tE E).1, 8, .inl (fun _ => 0))), (q6, .inl ((tE E).1, 192, .inl (fun _ => 0))), (q7, .inl ((tE E).1, 192, .inl (fun _ => 0))), (q8, .inl ((tE E).1, 192, .inl (fun _ => 0))), (q9, .inl ((tE E).1, 24, .inl (fun _ => 0))), (q10, .inl ((tE E).1, 24, .inl (fun _ => 0))), (q11, .inl ((tE E).1, 120, .inl (fun _ => 0))), (q12, .inl ((tE E).1, 120, .inl (fun _ => 0)))] := hD
  refine c_putF C hP hD hS fl_X0_45 0 rfl rfl hin rfl rfl (ltb rfl) (dAt dX0_init 49 rfl) (fun H locs hP hD hS => ?_)
  replace hP : va_P E.1 vwCl [(h0, .inr (0, [.ref q1, .ref q2, .ref q3, .ref q4, .ref q5, .ref q6, .ref q7, .ref q8, .ref q9, .ref q10, .ref q11, .ref q12, .null, .null, .int 0, .int 0, .int 0, .int 0, .int 0])), (q1, .inl ((tE E).1, 72, .inl (fun _ => 0))), (q2, .inl ((tE E).1, 8, .inl (fun _ => 0))), (q3, .inl ((tE E).1, 8, .inl (fun _ => 0))), (q4, .inl ((tE E).1, 8, .inl (fun _ => 0))), (q5, .inl ((tE E).1, 8, .inl (fun _ => 0))), (q6, .inl ((tE E).1, 192, .inl (fun _ => 0))), (q7, .inl ((tE E).1, 192, .inl (fun _ => 0))), (q8, .inl ((tE E).1, 192, .inl (fun _ => 0))), (q9, .inl ((tE E).1, 24, .inl (fun _ => 0))), (q10, .inl ((tE E).1, 24, .inl (fun _ => 0))), (q11, .inl ((tE E).1, 120, .inl (fun _ => 0))), (q12, .inl ((tE E).1, 120, .inl (fun _ => 0)))] H := hP
  replace hD : va_D A [(h0, .inr (0, [.ref q1, .ref q2, .ref q3, .ref q4, .ref q5, .ref q6, .ref q7, .ref q8, .ref q9, .ref q10, .ref q11, .ref q12, .null, .null, .int 0, .int 0, .int 0, .int 0, .int 0])), (q1, .inl ((tE E).1, 72, .inl (fun _ => 0))), (q2, .inl ((tE E).1, 8, .inl (fun _ => 0))), (q3, .inl ((tE E).1, 8, .inl (fun _ => 0))), (q4, .inl ((tE E).1, 8, .inl (fun _ => 0))), (q5, .inl ((tE E).1, 8, .inl (fun _ => 0))), (q6, .inl ((tE E).1, 192, .inl (fun _ => 0))), (q7, .inl ((tE E).1, 192, .inl (fun _ => 0))), (q8, .inl ((tE E).1, 192, .inl (fun _ => 0))), (q9, .inl ((tE E).1, 24, .inl (fun _ => 0))), (q10, .inl ((tE E).1, 24, .inl (fun _ => 0))), (q11, .inl ((tE E).1, 120, .inl (fun _ => 0))), (q12, .inl ((tE E).1, 120, .inl (fun _ => 0)))] := hD
  refine lv_aload_n hx hb (dAt dX0_init 50 rfl) rfl (lv_at hl 0 rfl) ?_
  refine lv_bipush (v := 120) hx hb (dAt dX0_init 51 rfl) (by decide) ?_
  refine c_newa (N := 120) C hP hD hS arI (by decide) (by decide) (by decide) ⟨Nat.le_of_ble_eq_true rfl, Nat.le_of_ble_eq_true rfl⟩ (dAt dX0_init 52 rfl) (fun q13 H hP hD hS => ?_)
  replace hP : va_P E.1 vwCl [(h0, .inr (0, [.ref q1, .ref q2, .ref q3, .ref q4, .ref q5, .ref q6, .ref q7, .ref q8, .ref q9, .ref q10, .ref q11, .ref q12, .null, .null, .int 0, .int 0, .int 0, .int 0, .int 0])), (q1, .inl ((tE E).1, 72, .inl (fun _ => 0))), (q2, .inl ((tE E).1, 8, .inl (fun _ => 0))), (q3, .inl ((tE E).1, 8, .inl (fun _ => 0))), (q4, .inl ((tE E).1, 8, .inl (fun _ => 0))), (q5, .inl ((tE E).1, 8, .inl (fun _ => 0))), (q6, .inl ((tE E).1, 192, .inl (fun _ => 0))), (q7, .inl ((tE E).1, 192, .inl (fun _ => 0))), (q8, .inl ((tE E).1, 192, .inl (fun _ => 0))), (q9, .inl ((tE E).1, 24, .inl (fun _ => 0))), (q10, .inl ((tE E).1, 24, .inl (fun _ => 0))), (q11, .inl ((tE E).1, 120, .inl (fun _ => 0))), (q12, .inl ((tE E).1, 120, .inl (fun _ => 0))), (q13, .inl ((tE E).1, 120, .inl (fun _ => 0)))] H := hP
  replace hD : va_D A [(h0, .inr (0, [.ref q1, .ref q2, .ref q3, .ref q4, .ref q5, .ref q6, .ref q7, .ref q8, .ref q9, .ref q10, .ref q11, .ref q12, .null, .null, .int 0, .int 0, .int 0, .int 0, .int 0])), (q1, .inl ((tE E).1, 72, .inl (fun _ => 0))), (q2, .inl ((tE E).1, 8, .inl (fun _ => 0))), (q3, .inl ((tE E).1, 8, .inl (fun _ => 0))), (q4, .inl ((tE E).1, 8, .inl (fun _ => 0))), (q5, .inl ((tE E).1, 8, .inl (fun _ => 0))), (q6, .inl ((tE E).1, 192, .inl (fun _ => 0))), (q7, .inl ((tE E).1, 192, .inl (fun _ => 0))), (q8, .inl ((tE E).1, 192, .inl (fun _ => 0))), (q9, .inl ((tE E).1, 24, .inl (fun _ => 0))), (q10, .inl ((tE E).1, 24, .inl (fun _ => 0))), (q11, .inl ((tE E).1, 120, .inl (fun _ => 0))), (q12, .inl ((tE E).1, 120, .inl (fun _ => 0))), (q13, .inl ((tE E).1, 120, .inl (fun _ => 0)))] := hD
  refine c_putF C hP hD hS fl_X0_48 0 rfl rfl hin rfl rfl (ltb rfl) (dAt dX0_init 53 rfl) (fun H locs hP hD hS => ?_)
  replace hP : va_P E.1 vwCl [(h0, .inr (0, [.ref q1, .ref q2, .ref q3, .ref q4, .ref q5, .ref q6, .ref q7, .ref q8, .ref q9, .ref q10, .ref q11, .ref q12, .ref q13, .null, .int 0, .int 0, .int 0, .int 0, .int 0])), (q1, .inl ((tE E).1, 72, .inl (fun _ => 0))), (q2, .inl ((tE E).1, 8, .inl (fun _ => 0))), (q3, .inl ((tE E).1, 8, .inl (fun _ => 0))), (q4, .inl ((tE E).1, 8, .inl (fun _ => 0))), (q5, .inl ((tE E).1, 8, .inl (fun _ => 0))), (q6, .inl ((tE E).1, 192, .inl (fun _ => 0))), (q7, .inl ((tE E).1, 192, .inl (fun _ => 0))), (q8, .inl ((tE E).1, 192, .inl (fun _ => 0))), (q9, .inl ((tE E).1, 24, .inl (fun _ => 0))), (q10, .inl ((tE E).1, 24, .inl (fun _ => 0))), (q11, .inl ((tE E).1, 120, .inl (fun _ => 0))), (q12, .inl ((tE E).1, 120, .inl (fun _ => 0))), (q13, .inl ((tE E).1, 120, .inl (fun _ => 0)))] H := hP
  replace hD : va_D A [(h0, .inr (0, [.ref q1, .ref q2, .ref q3, .ref q4, .ref q5, .ref q6, .ref q7, .ref q8, .ref q9, .ref q10, .ref q11, .ref q12, .ref q13, .null, .int 0, .int 0, .int 0, .int 0, .int 0])), (q1, .inl ((tE E).1, 72, .inl (fun _ => 0))), (q2, .inl ((tE E).1, 8, .inl (fun _ => 0))), (q3, .inl ((tE E).1, 8, .inl (fun _ => 0))), (q4, .inl ((tE E).1, 8, .inl (fun _ => 0))), (q5, .inl ((tE E).1, 8, .inl (fun _ => 0))), (q6, .inl ((tE E).1, 192, .inl (fun _ => 0))), (q7, .inl ((tE E).1, 192, .inl (fun _ => 0))), (q8, .inl ((tE E).1, 192, .inl (fun _ => 0))), (q9, .inl ((tE E).1, 24, .inl (fun _ => 0))), (q10, .inl ((tE E).1, 24, .inl (fun _ => 0))), (q11, .inl ((tE E).1, 120, .inl (fun _ => 0))), (q12, .inl ((tE E).1, 120, .inl (fun _ => 0))), (q13, .inl ((tE E).1, 120, .inl (fun _ => 0)))] := hD
  refine lv_aload_n hx hb (dAt dX0_init 54 rfl) rfl (lv_at hl 0 rfl) ?_
  refine lv_bipush (v := 120) hx hb (dAt dX0_init 55 rfl) (by decide) ?_
  refine c_newa (N := 120) C hP hD hS arI (by decide) (by decide) (by decide) ⟨Nat.le_of_ble_eq_true rfl, Nat.le_of_ble_eq_true rfl⟩ (dAt dX0_init 56 rfl) (fun q14 H hP hD hS => ?_)
  replace hP : va_P E.1 vwCl [(h0, .inr (0, [.ref q1, .ref q2, .ref q3, .ref q4, .ref q5, .ref q6, .ref q7, .ref q8, .ref q9, .ref q10, .ref q11, .ref q12, .ref q13, .null, .int 0, .int 0, .int 0, .int 0, .int 0])), (q1, .inl ((tE E).1, 72, .inl (fun _ => 0))), (q2, .inl ((tE E).1, 8, .inl (fun _ => 0))), (q3, .inl ((tE E).1, 8, .inl (fun _ => 0))), (q4, .inl ((tE E).1, 8, .inl (fun _ => 0))), (q5, .inl ((tE E).1, 8, .inl (fun _ => 0))), (q6, .inl ((tE E).1, 192, .inl (fun _ => 0))), (q7, .inl ((tE E).1, 192, .inl (fun _ => 0))), (q8, .inl ((tE E).1, 192, .inl (fun _ => 0))), (q9, .inl ((tE E).1, 24, .inl (fun _ => 0))), (q10, .inl ((tE E).1, 24, .inl (fun _ => 0))), (q11, .inl ((tE E).1, 120, .inl (fun _ => 0))), (q12, .inl ((tE E).1, 120, .inl (fun _ => 0))), (q13, .inl ((tE E).1, 120, .inl (fun _ => 0))), (q14, .inl ((tE E).1, 120, .inl (fun _ => 0)))] H := hP
  replace hD : va_D A [(h0, .inr (0, [.ref q1, .ref q2, .ref q3, .ref q4, .ref q5, .ref q6, .ref q7, .ref q8, .ref q9, .ref q10, .ref q11, .ref q12, .ref q13, .null, .int 0, .int 0, .int 0, .int 0, .int 0])), (q1, .inl ((tE E).1, 72, .inl (fun _ => 0))), (q2, .inl ((tE E).1, 8, .inl (fun _ => 0))), (q3, .inl ((tE E).1, 8, .inl (fun _ => 0))), (q4, .inl ((tE E).1, 8, .inl (fun _ => 0))), (q5, .inl ((tE E).1, 8, .inl (fun _ => 0))), (q6, .inl ((tE E).1, 192, .inl (fun _ => 0))), (q7, .inl ((tE E).1, 192, .inl (fun _ => 0))), (q8, .inl ((tE E).1, 192, .inl (fun _ => 0))), (q9, .inl ((tE E).1, 24, .inl (fun _ => 0))), (q10, .inl ((tE E).1, 24, .inl (fun _ => 0))), (q11, .inl ((tE E).1, 120, .inl (fun _ => 0))), (q12, .inl ((tE E).1, 120, .inl (fun _ => 0))), (q13, .inl ((tE E).1, 120, .inl (fun _ => 0))), (q14, .inl ((tE E).1, 120, .inl (fun _ => 0)))] := hD
  refine c_putF C hP hD hS fl_X0_51 0 rfl rfl hin rfl rfl (ltb rfl) (dAt dX0_init 57 rfl) (fun H locs hP hD hS => ?_)
  replace hP : va_P E.1 vwCl [(h0, .inr (0, [.ref q1, .ref q2, .ref q3, .ref q4, .ref q5, .ref q6, .ref q7, .ref q8, .ref q9, .ref q10, .ref q11, .ref q12, .ref q13, .ref q14, .int 0, .int 0, .int 0, .int 0, .int 0])), (q1, .inl ((tE E).1, 72, .inl (fun _ => 0))), (q2, .inl ((tE E).1, 8, .inl (fun _ => 0))), (q3, .inl ((tE E).1, 8, .inl (fun _ => 0))), (q4, .inl ((tE E).1, 8, .inl (fun _ => 0))), (q5, .inl ((tE E).1, 8, .inl (fun _ => 0))), (q6, .inl ((tE E).1, 192, .inl (fun _ => 0))), (q7, .inl ((tE E).1, 192, .inl (fun _ => 0))), (q8, .inl ((tE E).1, 192, .inl (fun _ => 0))), (q9, .inl ((tE E).1, 24, .inl (fun _ => 0))), (q10, .inl ((tE E).1, 24, .inl (fun _ => 0))), (q11, .inl ((tE E).1, 120, .inl (fun _ => 0))), (q12, .inl ((tE E).1, 120, .inl (fun _ => 0))), (q13, .inl ((tE E).1, 120, .inl (fun _ => 0))), (q14, .inl ((tE E).1, 120, .inl (fun _ => 0)))] H := hP
  replace hD : va_D A [(h0, .inr (0, [.ref q1, .ref q2, .ref q3, .ref q4, .ref q5, .ref q6, .ref q7, .ref q8, .ref q9, .ref q10, .ref q11, .ref q12, .ref q13, .ref q14, .int 0, .int 0, .int 0, .int 0, .int 0])), (q1, .inl ((tE E).1, 72, .inl (fun _ => 0))), (q2, .inl ((tE E).1, 8, .inl (fun _ => 0))), (q3, .inl ((tE E).1, 8, .inl (fun _ => 0))), (q4, .inl ((tE E).1, 8, .inl (fun _ => 0))), (q5, .inl ((tE E).1, 8, .inl (fun _ => 0))), (q6, .inl ((tE E).1, 192, .inl (fun _ => 0))), (q7, .inl ((tE E).1, 192, .inl (fun _ => 0))), (q8, .inl ((tE E).1, 192, .inl (fun _ => 0))), (q9, .inl ((tE E).1, 24, .inl (fun _ => 0))), (q10, .inl ((tE E).1, 24, .inl (fun _ => 0))), (q11, .inl ((tE E).1, 120, .inl (fun _ => 0))), (q12, .inl ((tE E).1, 120, .inl (fun _ => 0))), (q13, .inl ((tE E).1, 120, .inl (fun _ => 0))), (q14, .inl ((tE E).1, 120, .inl (fun _ => 0)))] := hD
  exact c_ret (F := fun u => pX0_init E h0 u) (u := fun k => ([h0, q1, q2, q3, q4, q5, q6, q7, q8, q9, q10, q11, q12, q13, q14] : List Nat).getD k 0) C hAe.symm hP hD hS hr hlk (dAt dX0_init 58 rfl)
def tX3_init : List (Nat × Instr × Nat) := [(0, .aload_n 0, 1), (1, .invokespecial 3, 3), (4, .aload_n 0, 1), (5, .bipush 8, 2), (7, .newarray .int, 2), (9, .putfield 9, 3), (12, .aload_n 0, 1), (13, .bipush 8, 2), (15, .newarray .int, 2), (17, .putfield 15, 3), (20, .aload_n 0, 1), (21, .bipush 8, 2), (23, .newarray .int, 2), (25, .putfield 18, 3), (28, .aload_n 0, 1), (29, .bipush 24, 2), (31, .newarray .int, 2), (33, .putfield 21, 3), (36, .aload_n 0, 1), (37, .bipush 20, 2), (39, .putfield 24, 3), (42, .aload_n 0, 1), (43, .getfield 21, 3), (46, .iconst 2, 1), (47, .invokestatic 28, 3), (50, .return_, 1)]
theorem dX3_init : dOk cX3_init tX3_init = true := by decide +kernel
abbrev rX3_init : Room := { frames := 1, cells := 4, slots := 48, locals := 30 }
def pX3_init (E : wE) (h0 : Nat) (u : Nat → Nat) : va_W := [(h0, .inr (3, [.ref (u 1), .ref (u 2), .ref (u 3), .ref (u 4), .int 0, .int (20 : Int32), .int 0])), ((u 1), .inl ((tE E).1, 8, .inl (fun _ => 0))), ((u 2), .inl ((tE E).1, 8, .inl (fun _ => 0))), ((u 3), .inl ((tE E).1, 8, .inl (fun _ => 0))), ((u 4), .inl ((tE E).1, 24, .inl (fun i => if i < 24 then (2 : Int32) else (fun _ => 0) i)))]
set_option maxHeartbeats 4000000 in
set_option maxRecDepth 100000 in
theorem kX3_init (l : Launch) (E : wE) (h0 sz : Nat) : Met l yX3_init (Cond.code yX3_init cX3_init 1 none :: TB) rX3_init (cPc E [(h0, .inr (3, [.null, .null, .null, .null, .int 0, .int 0, .int 0]))] sz [.ref h0]) (cQ E [(h0, .inr (3, [.null, .null, .null, .null, .int 0, .int 0, .int 0]))] sz (fun u => pX3_init E h0 u)) 4 48 (va_A [(h0, .inr (3, [.null, .null, .null, .null, .int 0, .int 0, .int 0]))] sz) := by
  refine cMet (by decide) (Nat.le_of_ble_eq_true rfl) ?_
  intro p e s m args below meth c ls C hr hlk hin hl hP hD
  have hx := C.1.1
  have hb := C.1.2.1
  replace C : Kx p s m args c cX3_init 1 RX3 E (va_A [(h0, .inr (3, [.null, .null, .null, .null, .int 0, .int 0, .int 0]))] s.heap.size) := C
  replace hl : lv_has ls 1 [(0, .ref h0)] := hl
  replace hin : meth.name = "<init>" := hin
  have hS : va_S (va_A [(h0, .inr (3, [.null, .null, .null, .null, .int 0, .int 0, .int 0]))] s.heap.size) s.heap s.heap [] := va_S.rf
  generalize hAe : va_A [(h0, .inr (3, [.null, .null, .null, .null, .int 0, .int 0, .int 0]))] s.heap.size = A at C hD hS
  refine lv_aload_n hx hb (dAt dX3_init 0 rfl) rfl (lv_at hl 0 rfl) ?_
  refine W.objInit hx hb C.1.2.2.2.1 (C.1.2.2.2.2 _ (TB_of 162 (by decide +kernel) rfl)) (C.1.2.2.2.2 _ oi_1) (C.1.2.2.2.2 _ oi_2) rfl (C.1.2.2.1 ▸ hl.1) rfl (dAt dX3_init 1 rfl) (Nat.le_of_ble_eq_true rfl) (Nat.le_of_ble_eq_true rfl) ?_
  refine W.eq (g2 := F0 m 4 ls []) rfl ?_
  refine lv_aload_n hx hb (dAt dX3_init 2 rfl) rfl (lv_at hl 0 rfl) ?_
  refine lv_bipush (v := 8) hx hb (dAt dX3_init 3 rfl) (by decide) ?_
  refine c_newa (N := 8) C hP hD hS arI (by decide) (by decide) (by decide) ⟨Nat.le_of_ble_eq_true rfl, Nat.le_of_ble_eq_true rfl⟩ (dAt dX3_init 4 rfl) (fun q1 H hP hD hS => ?_)
  replace hP : va_P E.1 vwCl [(h0, .inr (3, [.null, .null, .null, .null, .int 0, .int 0, .int 0])), (q1, .inl ((tE E).1, 8, .inl (fun _ => 0)))] H := hP
  replace hD : va_D A [(h0, .inr (3, [.null, .null, .null, .null, .int 0, .int 0, .int 0])), (q1, .inl ((tE E).1, 8, .inl (fun _ => 0)))] := hD
  refine c_putF C hP hD hS fl_X3_9 0 rfl rfl hin rfl rfl (ltb rfl) (dAt dX3_init 5 rfl) (fun H locs hP hD hS => ?_)
  replace hP : va_P E.1 vwCl [(h0, .inr (3, [.ref q1, .null, .null, .null, .int 0, .int 0, .int 0])), (q1, .inl ((tE E).1, 8, .inl (fun _ => 0)))] H := hP
  replace hD : va_D A [(h0, .inr (3, [.ref q1, .null, .null, .null, .int 0, .int 0, .int 0])), (q1, .inl ((tE E).1, 8, .inl (fun _ => 0)))] := hD
  refine lv_aload_n hx hb (dAt dX3_init 6 rfl) rfl (lv_at hl 0 rfl) ?_
  refine lv_bipush (v := 8) hx hb (dAt dX3_init 7 rfl) (by decide) ?_
  refine c_newa (N := 8) C hP hD hS arI (by decide) (by decide) (by decide) ⟨Nat.le_of_ble_eq_true rfl, Nat.le_of_ble_eq_true rfl⟩ (dAt dX3_init 8 rfl) (fun q2 H hP hD hS => ?_)
  replace hP : va_P E.1 vwCl [(h0, .inr (3, [.ref q1, .null, .null, .null, .int 0, .int 0, .int 0])), (q1, .inl ((tE E).1, 8, .inl (fun _ => 0))), (q2, .inl ((tE E).1, 8, .inl (fun _ => 0)))] H := hP
  replace hD : va_D A [(h0, .inr (3, [.ref q1, .null, .null, .null, .int 0, .int 0, .int 0])), (q1, .inl ((tE E).1, 8, .inl (fun _ => 0))), (q2, .inl ((tE E).1, 8, .inl (fun _ => 0)))] := hD
  refine c_putF C hP hD hS fl_X3_15 0 rfl rfl hin rfl rfl (ltb rfl) (dAt dX3_init 9 rfl) (fun H locs hP hD hS => ?_)
  replace hP : va_P E.1 vwCl [(h0, .inr (3, [.ref q1, .ref q2, .null, .null, .int 0, .int 0, .int 0])), (q1, .inl ((tE E).1, 8, .inl (fun _ => 0))), (q2, .inl ((tE E).1, 8, .inl (fun _ => 0)))] H := hP
  replace hD : va_D A [(h0, .inr (3, [.ref q1, .ref q2, .null, .null, .int 0, .int 0, .int 0])), (q1, .inl ((tE E).1, 8, .inl (fun _ => 0))), (q2, .inl ((tE E).1, 8, .inl (fun _ => 0)))] := hD
  refine lv_aload_n hx hb (dAt dX3_init 10 rfl) rfl (lv_at hl 0 rfl) ?_
  refine lv_bipush (v := 8) hx hb (dAt dX3_init 11 rfl) (by decide) ?_
  refine c_newa (N := 8) C hP hD hS arI (by decide) (by decide) (by decide) ⟨Nat.le_of_ble_eq_true rfl, Nat.le_of_ble_eq_true rfl⟩ (dAt dX3_init 12 rfl) (fun q3 H hP hD hS => ?_)
  replace hP : va_P E.1 vwCl [(h0, .inr (3, [.ref q1, .ref q2, .null, .null, .int 0, .int 0, .int 0])), (q1, .inl ((tE E).1, 8, .inl (fun _ => 0))), (q2, .inl ((tE E).1, 8, .inl (fun _ => 0))), (q3, .inl ((tE E).1, 8, .inl (fun _ => 0)))] H := hP
  replace hD : va_D A [(h0, .inr (3, [.ref q1, .ref q2, .null, .null, .int 0, .int 0, .int 0])), (q1, .inl ((tE E).1, 8, .inl (fun _ => 0))), (q2, .inl ((tE E).1, 8, .inl (fun _ => 0))), (q3, .inl ((tE E).1, 8, .inl (fun _ => 0)))] := hD
  refine c_putF C hP hD hS fl_X3_18 0 rfl rfl hin rfl rfl (ltb rfl) (dAt dX3_init 13 rfl) (fun H locs hP hD hS => ?_)
  replace hP : va_P E.1 vwCl [(h0, .inr (3, [.ref q1, .ref q2, .ref q3, .null, .int 0, .int 0, .int 0])), (q1, .inl ((tE E).1, 8, .inl (fun _ => 0))), (q2, .inl ((tE E).1, 8, .inl (fun _ => 0))), (q3, .inl ((tE E).1, 8, .inl (fun _ => 0)))] H := hP
  replace hD : va_D A [(h0, .inr (3, [.ref q1, .ref q2, .ref q3, .null, .int 0, .int 0, .int 0])), (q1, .inl ((tE E).1, 8, .inl (fun _ => 0))), (q2, .inl ((tE E).1, 8, .inl (fun _ => 0))), (q3, .inl ((tE E).1, 8, .inl (fun _ => 0)))] := hD
  refine lv_aload_n hx hb (dAt dX3_init 14 rfl) rfl (lv_at hl 0 rfl) ?_
  refine lv_bipush (v := 24) hx hb (dAt dX3_init 15 rfl) (by decide) ?_
  refine c_newa (N := 24) C hP hD hS arI (by decide) (by decide) (by decide) ⟨Nat.le_of_ble_eq_true rfl, Nat.le_of_ble_eq_true rfl⟩ (dAt dX3_init 16 rfl) (fun q4 H hP hD hS => ?_)
  replace hP : va_P E.1 vwCl [(h0, .inr (3, [.ref q1, .ref q2, .ref q3, .null, .int 0, .int 0, .int 0])), (q1, .inl ((tE E).1, 8, .inl (fun _ => 0))), (q2, .inl ((tE E).1, 8, .inl (fun _ => 0))), (q3, .inl ((tE E).1, 8, .inl (fun _ => 0))), (q4, .inl ((tE E).1, 24, .inl (fun _ => 0)))] H := hP
  replace hD : va_D A [(h0, .inr (3, [.ref q1, .ref q2, .ref q3, .null, .int 0, .int 0, .int 0])), (q1, .inl ((tE E).1, 8, .inl (fun _ => 0))), (q2, .inl ((tE E).1, 8, .inl (fun _ => 0))), (q3, .inl ((tE E).1, 8, .inl (fun _ => 0))), (q4, .inl ((tE E).1, 24, .inl (fun _ => 0)))] := hD
  refine c_putF C hP hD hS fl_X3_21 0 rfl rfl hin rfl rfl (ltb rfl) (dAt dX3_init 17 rfl) (fun H locs hP hD hS => ?_)
  replace hP : va_P E.1 vwCl [(h0, .inr (3, [.ref q1, .ref q2, .ref q3, .ref q4, .int 0, .int 0, .int 0])), (q1, .inl ((tE E).1, 8, .inl (fun _ => 0))), (q2, .inl ((tE E).1, 8, .inl (fun _ => 0))), (q3, .inl ((tE E).1, 8, .inl (fun _ => 0))), (q4, .inl ((tE E).1, 24, .inl (fun _ => 0)))] H := hP
  replace hD : va_D A [(h0, .inr (3, [.ref q1, .ref q2, .ref q3, .ref q4, .int 0, .int 0, .int 0])), (q1, .inl ((tE E).1, 8, .inl (fun _ => 0))), (q2, .inl ((tE E).1, 8, .inl (fun _ => 0))), (q3, .inl ((tE E).1, 8, .inl (fun _ => 0))), (q4, .inl ((tE E).1, 24, .inl (fun _ => 0)))] := hD
  refine lv_aload_n hx hb (dAt dX3_init 18 rfl) rfl (lv_at hl 0 rfl) ?_
  refine lv_bipush (v := 20) hx hb (dAt dX3_init 19 rfl) (by decide) ?_
  refine c_put C hP hD hS fl_X3_24 0 rfl rfl rfl (ltb rfl) (dAt dX3_init 20 rfl) (fun H locs hP hD hS => ?_)
  replace hP : va_P E.1 vwCl [(h0, .inr (3, [.ref q1, .ref q2, .ref q3, .ref q4, .int 0, .int (20 : Int32), .int 0])), (q1, .inl ((tE E).1, 8, .inl (fun _ => 0))), (q2, .inl ((tE E).1, 8, .inl (fun _ => 0))), (q3, .inl ((tE E).1, 8, .inl (fun _ => 0))), (q4, .inl ((tE E).1, 24, .inl (fun _ => 0)))] H := hP
  replace hD : va_D A [(h0, .inr (3, [.ref q1, .ref q2, .ref q3, .ref q4, .int 0, .int (20 : Int32), .int 0])), (q1, .inl ((tE E).1, 8, .inl (fun _ => 0))), (q2, .inl ((tE E).1, 8, .inl (fun _ => 0))), (q3, .inl ((tE E).1, 8, .inl (fun _ => 0))), (q4, .inl ((tE E).1, 24, .inl (fun _ => 0)))] := hD
  refine lv_aload_n hx hb (dAt dX3_init 21 rfl) rfl (lv_at hl 0 rfl) ?_
  refine c_get C hP fl_X3_21 0 rfl rfl (dAt dX3_init 22 rfl) ?_
  refine lv_iconst (v := 2) hx hb (dAt dX3_init 23 rfl) (by decide) ?_
  refine c_fill (q := q4) (N := 24) (f := (fun _ => 0)) (v := (2 : Int32)) (ws := [(h0, .inr (3, [.ref q1, .ref q2, .ref q3, .ref q4, .int 0, .int (20 : Int32), .int 0])), (q1, .inl ((tE E).1, 8, .inl (fun _ => 0))), (q2, .inl ((tE E).1, 8, .inl (fun _ => 0))), (q3, .inl ((tE E).1, 8, .inl (fun _ => 0)))]) C hP hD hS (by decide) lk_X3_28 ⟨by decide, by decide⟩ hl.1 (dAt dX3_init 24 rfl) ⟨Nat.le_of_ble_eq_true rfl, Nat.le_of_ble_eq_true rfl⟩ (fun H locs hP hD hS => ?_)
  replace hP : va_P E.1 vwCl [(h0, .inr (3, [.ref q1, .ref q2, .ref q3, .ref q4, .int 0, .int (20 : Int32), .int 0])), (q1, .inl ((tE E).1, 8, .inl (fun _ => 0))), (q2, .inl ((tE E).1, 8, .inl (fun _ => 0))), (q3, .inl ((tE E).1, 8, .inl (fun _ => 0))), (q4, .inl ((tE E).1, 24, .inl (fun i => if i < 24 then (2 : Int32) else (fun _ => 0) i)))] H := hP
  replace hD : va_D A [(h0, .inr (3, [.ref q1, .ref q2, .ref q3, .ref q4, .int 0, .int (20 : Int32), .int 0])), (q1, .inl ((tE E).1, 8, .inl (fun _ => 0))), (q2, .inl ((tE E).1, 8, .inl (fun _ => 0))), (q3, .inl ((tE E).1, 8, .inl (fun _ => 0))), (q4, .inl ((tE E).1, 24, .inl (fun i => if i < 24 then (2 : Int32) else (fun _ => 0) i)))] := hD
  exact c_ret (F := fun u => pX3_init E h0 u) (u := fun k => ([h0, q1, q2, q3, q4] : List Nat).getD k 0) C hAe.symm hP hD hS hr hlk (dAt dX3_init 25 rfl)
