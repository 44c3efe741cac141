def tX7_manyLoose : List (Nat × Instr × Nat) := [(0, .iconst 0, 1), (1, .istore_n 1, 1), (2, .iconst 0, 1), (3, .istore_n 2, 1), (4, .iload_n 2, 1), (5, .aload_n 0, 1), (6, .getfield 129, 3), (9, .if_icmp .ge 28, 3), (12, .iload_n 1, 1), (13, .aload_n 0, 1), (14, .getfield 191, 3), (17, .iload_n 2, 1), (18, .invokestatic 175, 3), (21, .ifCond .eq 7, 3), (24, .iconst 1, 1), (25, .goto 4, 3), (28, .iconst 0, 1), (29, .iadd, 1), (30, .istore_n 1, 1), (31, .iinc 2 1, 3), (34, .goto (-30), 3), (37, .iload_n 1, 1), (38, .ireturn, 1)]
theorem dX7_manyLoose : dOk cX7_manyLoose tX7_manyLoose = true := by decide +kernel
abbrev rX7_manyLoose : Room := { frames := 1, cells := 0, slots := 0, locals := 21 }
def wX7_manyLoose_4 (Q : Int32 → Mem → Prop) : Nat → Int32 → Int32 → Mem → Prop
  | 0, _, _, _ => False
  | n + 1, x1, x2, σ => ((((σ 0 7) ≤ x2) → (Q x1 σ)) ∧ ((¬ (σ 0 7) ≤ x2) → (wX7_isIn (σ 0 19) x2 σ (fun r18 σ18 => (∀ x1_30 : Int32, x1_30 = (x1 + (if r18 = 0 then (0 : Int32) else (1 : Int32))) → (wX7_manyLoose_4 Q n x1_30 (x2 + (1 : Int32)) σ18))))))
def wX7_manyLoose (σ : Mem) (Q : Int32 → Mem → Prop) : Prop := (∃ N4, wX7_manyLoose_4 Q N4 (0 : Int32) (0 : Int32) σ)
set_option maxHeartbeats 4000000 in
set_option maxRecDepth 100000 in
theorem kX7_manyLoose_4 {p : Program} {l : Launch} {e : Env} {s : State} {m : MethodId} {args : Array Value} {below : List Frame} {meth : Method} {c : Code} {E : wE} (hE : wM E) (C : Cx p s m args c cX7_manyLoose 3 RX7 E (wA E)) (hr : meth.sig.returnType = (some .int)) (hlk : meth.locks = false) {Q : Int32 → Mem → Prop} : ∀ (n : Nat) (x1 : Int32) (x2 : Int32) (σ : Mem) (H : Heap) (locs : List Loc) (ls : Array Slot), wd E (wA E) s σ H locs → lv_has ls 3 [(0, .ref (gE E 0)), (1, .int x1), (2, .int x2)] → wX7_manyLoose_4 Q n x1 x2 σ → W p l e rX7_manyLoose s m args below meth c H locs 0 0 (MQ below (wQi E Q) args s 0 0 (wA E)) (F0 m 4 ls []) := by
  have hx := C.1.1
  have hb := C.1.2.1
  intro n
  induction n with
  | zero =>
    intro x1 x2 σ  H locs ls hw hl h
    exact h.elim
  | succ n ih =>
    intro x1 x2 σ  H locs ls hw hl h
    rw [wX7_manyLoose_4] at h
    refine lv_iload_n hx hb (dAt dX7_manyLoose 4 rfl) rfl (lv_at hl 2 rfl) ?_
    refine lv_aload_n hx hb (dAt dX7_manyLoose 5 rfl) rfl (lv_at hl 0 rfl) ?_
    refine x_geti C hw fl_X7_129 (hE.1 0) (nM hE (by decide)) rfl (dAt dX7_manyLoose 6 rfl) ?_
    refine lv_icmp_ge (tgt := 37) hx hb (dAt dX7_manyLoose 7 rfl) (by decide) (fun c9 => ?_) (fun c9 => ?_)
    · replace h := h.1 c9
      refine lv_iload_n hx hb (dAt dX7_manyLoose 21 rfl) rfl (lv_at hl 1 rfl) ?_
      exact x_iret C hw hr hlk h (dAt dX7_manyLoose 22 rfl)
    · replace h := h.2 c9
      refine lv_iload_n hx hb (dAt dX7_manyLoose 8 rfl) rfl (lv_at hl 1 rfl) ?_
      refine lv_aload_n hx hb (dAt dX7_manyLoose 9 rfl) rfl (lv_at hl 0 rfl) ?_
      refine x_geti C hw fl_X7_191 (hE.1 0) (nM hE (by decide)) rfl (dAt dX7_manyLoose 10 rfl) ?_
      refine lv_iload_n hx hb (dAt dX7_manyLoose 11 rfl) rfl (lv_at hl 2 rfl) ?_
      refine x_calli C hw (x_runS (As := [.int (σ 0 19), .int x2]) (rest := [.int x1]) C hw (kX7_isIn l E hE (σ 0 19) x2 σ _ h) mtX7_isIn lk_X7_175 ⟨by decide, by decide⟩ ⟨rfl, rfl⟩ rfl hl.1 rfl (Nat.le_of_ble_eq_true rfl) (dAt dX7_manyLoose 12 rfl) ⟨Nat.zero_le _, Nat.zero_le _⟩) (fun r18 σ18 H locs h hw => ?_)
      refine x_dia (ls := ls) (pcJ := 29) (cnd := r18 = 0) (a := (0 : Int32)) (b := (1 : Int32)) ([.int x1]) ?_ (fun ht21 hf21 => ?_)
      · refine lv_iadd hx hb (dAt dX7_manyLoose 17 rfl) ?_
        refine lv_topi (fun x1_30 ex1_30 => ?_)
        replace h := h x1_30 ex1_30
        refine lv_istore_n (lv' := [(1, .int x1_30), (0, .ref (gE E 0)), (2, .int x2)]) hx hb (dAt dX7_manyLoose 18 rfl) rfl hl (by decide) rfl (fun ls hl => ?_)
        refine lv_iinc (v := (x2 + (1 : Int32))) (lv' := [(2, .int (x2 + (1 : Int32))), (1, .int x1_30), (0, .ref (gE E 0))]) hx hb (dAt dX7_manyLoose 19 rfl) hl (k := 2) rfl rfl (by decide) rfl (fun ls hl => ?_)
        refine lv_goto (tgt := 4) hx hb (dAt dX7_manyLoose 20 rfl) (by decide) ?_
        exact ih x1_30 (x2 + (1 : Int32)) σ18  _ _ _ hw (lv_sub hl [2, 1, 0] rfl) h
      · refine lv_if_eq (tgt := 28) hx hb (dAt dX7_manyLoose 13 rfl) (by decide) (fun c21 => ?_) (fun c21 => ?_)
        · refine lv_iconst (v := 0) hx hb (dAt dX7_manyLoose 16 rfl) (by decide) ?_
          exact ht21 c21
        · refine lv_iconst (v := 1) hx hb (dAt dX7_manyLoose 14 rfl) (by decide) ?_
          refine lv_goto (tgt := 29) hx hb (dAt dX7_manyLoose 15 rfl) (by decide) ?_
          exact hf21 c21
set_option maxHeartbeats 4000000 in
set_option maxRecDepth 100000 in
theorem kX7_manyLoose (l : Launch) (E : wE) (hE : wM E) (σ : Mem) (Q : Int32 → Mem → Prop) (h : wX7_manyLoose  σ Q) : Met l yX7_manyLoose (Cond.code yX7_manyLoose cX7_manyLoose 3 (some .int) :: TB) rX7_manyLoose (wPc E σ [.ref (gE E 0)]) (wQi E Q) 0 0 (wA E) := by
  refine wMet (by decide) hE.2.2 (Nat.le_of_ble_eq_true rfl) ?_
  intro p e s m args below meth c ls C hr hlk hl hw
  have hx := C.1.1
  have hb := C.1.2.1
  replace C : Cx p s m args c cX7_manyLoose 3 RX7 E (wA E) := C
  replace hl : lv_has ls 3 [(0, .ref (gE E 0))] := hl
  unfold wX7_manyLoose at h
  refine lv_iconst (v := 0) hx hb (dAt dX7_manyLoose 0 rfl) (by decide) ?_
  refine lv_istore_n (lv' := [(1, .int (0 : Int32)), (0, .ref (gE E 0))]) hx hb (dAt dX7_manyLoose 1 rfl) rfl hl (by decide) rfl (fun ls hl => ?_)
  refine lv_iconst (v := 0) hx hb (dAt dX7_manyLoose 2 rfl) (by decide) ?_
  refine lv_istore_n (lv' := [(2, .int (0 : Int32)), (1, .int (0 : Int32)), (0, .ref (gE E 0))]) hx hb (dAt dX7_manyLoose 3 rfl) rfl hl (by decide) rfl (fun ls hl => ?_)
  obtain ⟨n4, h⟩ := h
  exact kX7_manyLoose_4 hE C hr hlk n4 (0 : Int32) (0 : Int32) σ  _ _ _ hw (lv_sub hl [2, 1, 0] rfl) h
def tX7_count : List (Nat × Instr × Nat) := [(0, .aload_n 0, 1), (1, .invokevirtual 219, 3), (4, .iload_n 1, 1), (5, .tableswitch 105 0 8 #[51, 56, 61, 75, 80, 85, 90, 95, 100], 51), (56, .aload_n 0, 1), (57, .getfield 129, 3), (60, .ireturn, 1), (61, .aload_n 0, 1), (62, .getfield 139, 3), (65, .ireturn, 1), (66, .aload_n 0, 1), (67, .getfield 25, 3), (70, .iconst 0, 1), (71, .iaload, 1), (72, .aload_n 0, 1), (73, .getfield 25, 3), (76, .iconst 1, 1), (77, .iaload, 1), (78, .iadd, 1), (79, .ireturn, 1), (80, .aload_n 0, 1), (81, .getfield 167, 3), (84, .ireturn, 1), (85, .aload_n 0, 1), (86, .getfield 178, 3), (89, .ireturn, 1), (90, .aload_n 0, 1), (91, .getfield 82, 3), (94, .ireturn, 1), (95, .aload_n 0, 1), (96, .invokevirtual 338, 3), (99, .ireturn, 1), (100, .aload_n 0, 1), (101, .getfield 290, 3), (104, .ireturn, 1), (105, .aload_n 0, 1), (106, .getfield 92, 3), (109, .ireturn, 1), (110, .bipush (-2), 2), (112, .ireturn, 1)]
theorem dX7_count : dOk cX7_count tX7_count = true := by decide +kernel
abbrev rX7_count : Room := { frames := 7, cells := 0, slots := 0, locals := 159 }
def wX7_count (x1 : Int32) (σ : Mem) (Q : Int32 → Mem → Prop) : Prop := (wX7_find  σ (fun σ1 => ((x1 = (0 : Int32) → (Q (σ1 0 7) σ1)) ∧ (x1 = (1 : Int32) → (Q (σ1 0 9) σ1)) ∧ (x1 = (2 : Int32) → (Q ((σ1 6 0) + (σ1 6 1)) σ1)) ∧ (x1 = (3 : Int32) → (Q (σ1 0 12) σ1)) ∧ (x1 = (4 : Int32) → (Q (σ1 0 20) σ1)) ∧ (x1 = (5 : Int32) → (Q (σ1 0 11) σ1)) ∧ (x1 = (6 : Int32) → (wX7_manyLoose  σ1 (fun r96 σ96 => (Q r96 σ96)))) ∧ (x1 = (7 : Int32) → (Q (σ1 0 33) σ1)) ∧ (x1 = (8 : Int32) → (Q (σ1 0 4) σ1)) ∧ ((x1).toInt < 0 ∨ 8 < (x1).toInt → (Q (-2 : Int32) σ1)))))
set_option maxHeartbeats 4000000 in
set_option maxRecDepth 100000 in
theorem kX7_count (l : Launch) (E : wE) (hE : wM E) (x1 : Int32) (σ : Mem) (Q : Int32 → Mem → Prop) (h : wX7_count x1 σ Q) : Met l yX7_count (Cond.code yX7_count cX7_count 2 (some .int) :: TB) rX7_count (wPc E σ [.ref (gE E 0), .int x1]) (wQi E Q) 0 0 (wA E) := by
  refine wMet (by decide) hE.2.2 (Nat.le_of_ble_eq_true rfl) ?_
  intro p e s m args below meth c ls C hr hlk hl hw
  have hx := C.1.1
  have hb := C.1.2.1
  replace C : Cx p s m args c cX7_count 2 RX7 E (wA E) := C
  replace hl : lv_has ls 2 [(0, .ref (gE E 0)), (1, .int x1)] := hl
  unfold wX7_count at h
  refine lv_aload_n hx hb (dAt dX7_count 0 rfl) rfl (lv_at hl 0 rfl) ?_
  refine x_callv C hw (x_runV (As := []) (rest := []) C hw (kX7_find l E hE  σ _ h) mtX7_find lk_X7_219 (hE.1 0) (nM hE (by decide)) rfl ⟨by decide, by decide⟩ ⟨rfl, rfl⟩ rfl hl.1 rfl (Nat.le_of_ble_eq_true rfl) (dAt dX7_count 1 rfl) ⟨Nat.zero_le _, Nat.zero_le _⟩) (fun σ1 H locs h hw => ?_)
  refine lv_iload_n hx hb (dAt dX7_count 2 rfl) rfl (lv_at hl 1 rfl) ?_
  rcases swT x1 0 9 (by decide) with ⟨j5, hj5, ej5⟩ | ej5
  · match j5, hj5, ej5 with
    | 0, _, ej5 =>
      have ej5 : x1 = (0 : Int32) := ej5
      replace h := h.1 ej5
      refine lv_tableIn (off := 51) (tgt := 56) hx hb (dAt dX7_count 3 rfl) (by rw [ej5]; decide) (by rw [ej5]; decide) (by rw [ej5]; rfl) (by decide) ?_
      refine lv_aload_n hx hb (dAt dX7_count 4 rfl) rfl (lv_at hl 0 rfl) ?_
      refine x_geti C hw fl_X7_129 (hE.1 0) (nM hE (by decide)) rfl (dAt dX7_count 5 rfl) ?_
      exact x_iret C hw hr hlk h (dAt dX7_count 6 rfl)
    | 1, _, ej5 =>
      have ej5 : x1 = (1 : Int32) := ej5
      replace h := h.2.1 ej5
      refine lv_tableIn (off := 56) (tgt := 61) hx hb (dAt dX7_count 3 rfl) (by rw [ej5]; decide) (by rw [ej5]; decide) (by rw [ej5]; rfl) (by decide) ?_
      refine lv_aload_n hx hb (dAt dX7_count 7 rfl) rfl (lv_at hl 0 rfl) ?_
      refine x_geti C hw fl_X7_139 (hE.1 0) (nM hE (by decide)) rfl (dAt dX7_count 8 rfl) ?_
      exact x_iret C hw hr hlk h (dAt dX7_count 9 rfl)
    | 2, _, ej5 =>
      have ej5 : x1 = (2 : Int32) := ej5
      replace h := h.2.2.1 ej5
      refine lv_tableIn (off := 61) (tgt := 66) hx hb (dAt dX7_count 3 rfl) (by rw [ej5]; decide) (by rw [ej5]; decide) (by rw [ej5]; rfl) (by decide) ?_
      refine lv_aload_n hx hb (dAt dX7_count 10 rfl) rfl (lv_at hl 0 rfl) ?_
      refine x_getr C hw fl_X7_25 (hE.1 0) (nM hE (by decide)) rfl (dAt dX7_count 11 rfl) ?_
      refine lv_iconst (v := 0) hx hb (dAt dX7_count 12 rfl) (by decide) ?_
      refine x_ild C hw (hE.1 6) (nM hE (by decide)) (vin rfl) rfl (dAt dX7_count 13 rfl) ?_
      refine lv_aload_n hx hb (dAt dX7_count 14 rfl) rfl (lv_at hl 0 rfl) ?_
      refine x_getr C hw fl_X7_25 (hE.1 0) (nM hE (by decide)) rfl (dAt dX7_count 15 rfl) ?_
      refine lv_iconst (v := 1) hx hb (dAt dX7_count 16 rfl) (by decide) ?_
      refine x_ild C hw (hE.1 6) (nM hE (by decide)) (vin rfl) rfl (dAt dX7_count 17 rfl) ?_
      refine lv_iadd hx hb (dAt dX7_count 18 rfl) ?_
      exact x_iret C hw hr hlk h (dAt dX7_count 19 rfl)
    | 3, _, ej5 =>
      have ej5 : x1 = (3 : Int32) := ej5
      replace h := h.2.2.2.1 ej5
      refine lv_tableIn (off := 75) (tgt := 80) hx hb (dAt dX7_count 3 rfl) (by rw [ej5]; decide) (by rw [ej5]; decide) (by rw [ej5]; rfl) (by decide) ?_
      refine lv_aload_n hx hb (dAt dX7_count 20 rfl) rfl (lv_at hl 0 rfl) ?_
      refine x_geti C hw fl_X7_167 (hE.1 0) (nM hE (by decide)) rfl (dAt dX7_count 21 rfl) ?_
      exact x_iret C hw hr hlk h (dAt dX7_count 22 rfl)
    | 4, _, ej5 =>
      have ej5 : x1 = (4 : Int32) := ej5
      replace h := h.2.2.2.2.1 ej5
      refine lv_tableIn (off := 80) (tgt := 85) hx hb (dAt dX7_count 3 rfl) (by rw [ej5]; decide) (by rw [ej5]; decide) (by rw [ej5]; rfl) (by decide) ?_
      refine lv_aload_n hx hb (dAt dX7_count 23 rfl) rfl (lv_at hl 0 rfl) ?_
      refine x_geti C hw fl_X7_178 (hE.1 0) (nM hE (by decide)) rfl (dAt dX7_count 24 rfl) ?_
      exact x_iret C hw hr hlk h (dAt dX7_count 25 rfl)
    | 5, _, ej5 =>
      have ej5 : x1 = (5 : Int32) := ej5
      replace h := h.2.2.2.2.2.1 ej5
      refine lv_tableIn (off := 85) (tgt := 90) hx hb (dAt dX7_count 3 rfl) (by rw [ej5]; decide) (by rw [ej5]; decide) (by rw [ej5]; rfl) (by decide) ?_
      refine lv_aload_n hx hb (dAt dX7_count 26 rfl) rfl (lv_at hl 0 rfl) ?_
      refine x_geti C hw fl_X7_82 (hE.1 0) (nM hE (by decide)) rfl (dAt dX7_count 27 rfl) ?_
      exact x_iret C hw hr hlk h (dAt dX7_count 28 rfl)
    | 6, _, ej5 =>
      have ej5 : x1 = (6 : Int32) := ej5
      replace h := h.2.2.2.2.2.2.1 ej5
      refine lv_tableIn (off := 90) (tgt := 95) hx hb (dAt dX7_count 3 rfl) (by rw [ej5]; decide) (by rw [ej5]; decide) (by rw [ej5]; rfl) (by decide) ?_
      refine lv_aload_n hx hb (dAt dX7_count 29 rfl) rfl (lv_at hl 0 rfl) ?_
      refine x_calli C hw (x_runV (As := []) (rest := []) C hw (kX7_manyLoose l E hE  σ1 _ h) mtX7_manyLoose lk_X7_338 (hE.1 0) (nM hE (by decide)) rfl ⟨by decide, by decide⟩ ⟨rfl, rfl⟩ rfl hl.1 rfl (Nat.le_of_ble_eq_true rfl) (dAt dX7_count 30 rfl) ⟨Nat.zero_le _, Nat.zero_le _⟩) (fun r96 σ96 H locs h hw => ?_)
      exact x_iret C hw hr hlk h (dAt dX7_count 31 rfl)
    | 7, _, ej5 =>
      have ej5 : x1 = (7 : Int32) := ej5
      replace h := h.2.2.2.2.2.2.2.1 ej5
      refine lv_tableIn (off := 95) (tgt := 100) hx hb (dAt dX7_count 3 rfl) (by rw [ej5]; decide) (by rw [ej5]; decide) (by rw [ej5]; rfl) (by decide) ?_
      refine lv_aload_n hx hb (dAt dX7_count 32 rfl) rfl (lv_at hl 0 rfl) ?_
      refine x_geti C hw fl_X7_290 (hE.1 0) (nM hE (by decide)) rfl (dAt dX7_count 33 rfl) ?_
      exact x_iret C hw hr hlk h (dAt dX7_count 34 rfl)
    | 8, _, ej5 =>
      have ej5 : x1 = (8 : Int32) := ej5
      replace h := h.2.2.2.2.2.2.2.2.1 ej5
      refine lv_tableIn (off := 100) (tgt := 105) hx hb (dAt dX7_count 3 rfl) (by rw [ej5]; decide) (by rw [ej5]; decide) (by rw [ej5]; rfl) (by decide) ?_
      refine lv_aload_n hx hb (dAt dX7_count 35 rfl) rfl (lv_at hl 0 rfl) ?_
      refine x_geti C hw fl_X7_92 (hE.1 0) (nM hE (by decide)) rfl (dAt dX7_count 36 rfl) ?_
      exact x_iret C hw hr hlk h (dAt dX7_count 37 rfl)
    | j + 9, hj, _ => exact absurd hj (by omega)
  · replace h := h.2.2.2.2.2.2.2.2.2 ej5
    refine lv_tableOut (tgt := 110) hx hb (dAt dX7_count 3 rfl) ej5 (by decide) ?_
    refine lv_bipush (v := -2) hx hb (dAt dX7_count 38 rfl) (by decide) ?_
    exact x_iret C hw hr hlk h (dAt dX7_count 39 rfl)
def tX7_tellsBeat : List (Nat × Instr × Nat) := [(0, .lload_n 1, 1), (1, .lstore 5, 2), (3, .iconst 0, 1), (4, .istore 7, 2), (6, .iload 7, 2), (8, .iconst 3, 1), (9, .if_icmp .ge 28, 3), (12, .ldc2_w 341, 3), (15, .lload 5, 2), (17, .lmul, 1), (18, .aload_n 0, 1), (19, .iload_n 3, 1), (20, .iload 4, 2), (22, .iload 7, 2), (24, .invokevirtual 222, 3), (27, .i2l, 1), (28, .ladd, 1), (29, .lstore 5, 2), (31, .iinc 7 1, 3), (34, .goto (-28), 3), (37, .lload 5, 2), (39, .lreturn, 1)]
theorem dX7_tellsBeat : dOk cX7_tellsBeat tX7_tellsBeat = true := by decide +kernel
abbrev rX7_tellsBeat : Room := { frames := 1, cells := 0, slots := 0, locals := 24 }
def wX7_tellsBeat_6 (Q : Int64 → Mem → Prop) : Nat → Int32 → Int32 → Int64 → Int32 → Mem → Prop
  | 0, _, _, _, _, _ => False
  | n + 1, x3, x4, x5, x7, σ => ((((3 : Int32) ≤ x7) → (Q x5 σ)) ∧ ((¬ (3 : Int32) ≤ x7) → (wX7_atBy x3 x4 x7 σ (fun r24 σ24 => (∀ x5_29 : Int64, x5_29 = (((31 : Int64) * x5) + ((r24).toInt64)) → (wX7_tellsBeat_6 Q n x3 x4 x5_29 (x7 + (1 : Int32)) σ24))))))
def wX7_tellsBeat (x1 : Int64) (x3 : Int32) (x4 : Int32) (σ : Mem) (Q : Int64 → Mem → Prop) : Prop := (∃ N6, wX7_tellsBeat_6 Q N6 x3 x4 x1 (0 : Int32) σ)
set_option maxHeartbeats 4000000 in
set_option maxRecDepth 100000 in
theorem kX7_tellsBeat_6 {p : Program} {l : Launch} {e : Env} {s : State} {m : MethodId} {args : Array Value} {below : List Frame} {meth : Method} {c : Code} {E : wE} (hE : wM E) (C : Cx p s m args c cX7_tellsBeat 8 RX7 E (wA E)) (hr : meth.sig.returnType = (some .long)) (hlk : meth.locks = false) {Q : Int64 → Mem → Prop} : ∀ (n : Nat) (x3 : Int32) (x4 : Int32) (x5 : Int64) (x7 : Int32) (σ : Mem) (H : Heap) (locs : List Loc) (ls : Array Slot), wd E (wA E) s σ H locs → lv_has ls 8 [(0, .ref (gE E 0)), (3, .int x3), (4, .int x4), (5, .long x5), (7, .int x7)] → wX7_tellsBeat_6 Q n x3 x4 x5 x7 σ → W p l e rX7_tellsBeat s m args below meth c H locs 0 0 (MQ below (wQl E Q) args s 0 0 (wA E)) (F0 m 6 ls []) := by
  have hx := C.1.1
  have hb := C.1.2.1
  intro n
  induction n with
  | zero =>
    intro x3 x4 x5 x7 σ  H locs ls hw hl h
    exact h.elim
  | succ n ih =>
    intro x3 x4 x5 x7 σ  H locs ls hw hl h
    rw [wX7_tellsBeat_6] at h
    refine lv_iload hx hb (dAt dX7_tellsBeat 4 rfl) (lv_at hl 4 rfl) ?_
    refine lv_iconst (v := 3) hx hb (dAt dX7_tellsBeat 5 rfl) (by decide) ?_
    refine lv_icmp_ge (tgt := 37) hx hb (dAt dX7_tellsBeat 6 rfl) (by decide) (fun c9 => ?_) (fun c9 => ?_)
    · replace h := h.1 c9
      refine lv_lload hx hb (dAt dX7_tellsBeat 20 rfl) (lv_at hl 3 rfl) ?_
      exact x_lret C hw hr hlk h (dAt dX7_tellsBeat 21 rfl)
    · replace h := h.2 c9
      refine lv_ldc2 (v := 31) hx hb C.1.2.2.2.1 (C.1.2.2.2.2 _ ck_X7_341) (dAt dX7_tellsBeat 7 rfl) ?_
      refine lv_lload hx hb (dAt dX7_tellsBeat 8 rfl) (lv_at hl 3 rfl) ?_
      refine lv_lmul hx hb (dAt dX7_tellsBeat 9 rfl) ?_
      refine lv_aload_n hx hb (dAt dX7_tellsBeat 10 rfl) rfl (lv_at hl 0 rfl) ?_
      refine lv_iload_n hx hb (dAt dX7_tellsBeat 11 rfl) rfl (lv_at hl 1 rfl) ?_
      refine lv_iload hx hb (dAt dX7_tellsBeat 12 rfl) (lv_at hl 2 rfl) ?_
      refine lv_iload hx hb (dAt dX7_tellsBeat 13 rfl) (lv_at hl 4 rfl) ?_
      refine x_calli C hw (x_runV (As := [.int x3, .int x4, .int x7]) (rest := [.long ((31 : Int64) * x5)]) C hw (kX7_atBy l E hE x3 x4 x7 σ _ h) mtX7_atBy lk_X7_222 (hE.1 0) (nM hE (by decide)) rfl ⟨by decide, by decide⟩ ⟨rfl, rfl⟩ rfl hl.1 rfl (Nat.le_of_ble_eq_true rfl) (dAt dX7_tellsBeat 14 rfl) ⟨Nat.zero_le _, Nat.zero_le _⟩) (fun r24 σ24 H locs h hw => ?_)
      refine lv_i2l hx hb (dAt dX7_tellsBeat 15 rfl) rfl ?_
      refine lv_ladd hx hb (dAt dX7_tellsBeat 16 rfl) ?_
      refine lv_topl (fun x5_29 ex5_29 => ?_)
      replace h := h x5_29 ex5_29
      refine lv_lstore (lv' := [(5, .long x5_29), (0, .ref (gE E 0)), (3, .int x3), (4, .int x4), (7, .int x7)]) hx hb (dAt dX7_tellsBeat 17 rfl) hl (by decide) rfl (fun ls hl => ?_)
      refine lv_iinc (v := (x7 + (1 : Int32))) (lv' := [(7, .int (x7 + (1 : Int32))), (5, .long x5_29), (0, .ref (gE E 0)), (3, .int x3), (4, .int x4)]) hx hb (dAt dX7_tellsBeat 18 rfl) hl (k := 4) rfl rfl (by decide) rfl (fun ls hl => ?_)
      refine lv_goto (tgt := 6) hx hb (dAt dX7_tellsBeat 19 rfl) (by decide) ?_
      exact ih x3 x4 x5_29 (x7 + (1 : Int32)) σ24  _ _ _ hw (lv_sub hl [2, 3, 4, 1, 0] rfl) h
set_option maxHeartbeats 4000000 in
set_option maxRecDepth 100000 in
theorem kX7_tellsBeat (l : Launch) (E : wE) (hE : wM E) (x1 : Int64) (x3 : Int32) (x4 : Int32) (σ : Mem) (Q : Int64 → Mem → Prop) (h : wX7_tellsBeat x1 x3 x4 σ Q) : Met l yX7_tellsBeat (Cond.code yX7_tellsBeat cX7_tellsBeat 8 (some .long) :: TB) rX7_tellsBeat (wPc E σ [.ref (gE E 0), .long x1, .int x3, .int x4]) (wQl E Q) 0 0 (wA E) := by
  refine wMet (by decide) hE.2.2 (Nat.le_of_ble_eq_true rfl) ?_
  intro p e s m args below meth c ls C hr hlk hl hw
  have hx := C.1.1
  have hb := C.1.2.1
  replace C : Cx p s m args c cX7_tellsBeat 8 RX7 E (wA E) := C
  replace hl : lv_has ls 8 [(0, .ref (gE E 0)), (1, .long x1), (3, .int x3), (4, .int x4)] := hl
  unfold wX7_tellsBeat at h
  refine lv_lload_n hx hb (dAt dX7_tellsBeat 0 rfl) rfl (lv_at hl 1 rfl) ?_
  refine lv_lstore (lv' := [(5, .long x1), (0, .ref (gE E 0)), (1, .long x1), (3, .int x3), (4, .int x4)]) hx hb (dAt dX7_tellsBeat 1 rfl) hl (by decide) rfl (fun ls hl => ?_)
  refine lv_iconst (v := 0) hx hb (dAt dX7_tellsBeat 2 rfl) (by decide) ?_
  refine lv_istore (lv' := [(7, .int (0 : Int32)), (5, .long x1), (0, .ref (gE E 0)), (1, .long x1), (3, .int x3), (4, .int x4)]) hx hb (dAt dX7_tellsBeat 3 rfl) hl (by decide) rfl (fun ls hl => ?_)
  obtain ⟨n6, h⟩ := h
  exact kX7_tellsBeat_6 hE C hr hlk n6 x3 x4 x1 (0 : Int32) σ  _ _ _ hw (lv_sub hl [2, 4, 5, 1, 0] rfl) h
def tX7_tellsDancer : List (Nat × Instr × Nat) := [(0, .aload_n 0, 1), (1, .invokevirtual 216, 3), (4, .lload_n 1, 1), (5, .lstore 4, 2), (7, .iconst 0, 1), (8, .istore 6, 2), (10, .iload 6, 2), (12, .iconst 3, 1), (13, .if_icmp .ge 30, 3), (16, .ldc2_w 341, 3), (19, .lload 4, 2), (21, .lmul, 1), (22, .aload_n 0, 1), (23, .getfield 28, 3), (26, .iconst 3, 1), (27, .iload_n 3, 1), (28, .imul, 1), (29, .iload 6, 2), (31, .iadd, 1), (32, .iaload, 1), (33, .i2l, 1), (34, .ladd, 1), (35, .lstore 4, 2), (37, .iinc 6 1, 3), (40, .goto (-30), 3), (43, .aload_n 0, 1), (44, .aload_n 0, 1), (45, .aload_n 0, 1), (46, .aload_n 0, 1), (47, .lload 4, 2), (49, .iconst 0, 1), (50, .iload_n 3, 1), (51, .invokevirtual 343, 3), (54, .bipush 6, 2), (56, .iload_n 3, 1), (57, .invokevirtual 343, 3), (60, .bipush 13, 2), (62, .iload_n 3, 1), (63, .invokevirtual 343, 3), (66, .bipush 23, 2), (68, .iload_n 3, 1), (69, .invokevirtual 343, 3), (72, .lstore 4, 2), (74, .ldc2_w 341, 3), (77, .lload 4, 2), (79, .lmul, 1), (80, .aload_n 0, 1), (81, .iload_n 3, 1), (82, .iconst 0, 1), (83, .invokevirtual 271, 3), (86, .i2l, 1), (87, .ladd, 1), (88, .lstore 4, 2), (90, .ldc2_w 341, 3), (93, .lload 4, 2), (95, .lmul, 1), (96, .aload_n 0, 1), (97, .iload_n 3, 1), (98, .iconst 1, 1), (99, .invokevirtual 271, 3), (102, .i2l, 1), (103, .ladd, 1), (104, .lstore 4, 2), (106, .ldc2_w 341, 3), (109, .lload 4, 2), (111, .lmul, 1), (112, .aload_n 0, 1), (113, .iload_n 3, 1), (114, .iconst 0, 1), (115, .invokevirtual 277, 3), (118, .i2l, 1), (119, .ladd, 1), (120, .lstore 4, 2), (122, .ldc2_w 341, 3), (125, .lload 4, 2), (127, .lmul, 1), (128, .aload_n 0, 1), (129, .iload_n 3, 1), (130, .iconst 1, 1), (131, .invokevirtual 277, 3), (134, .i2l, 1), (135, .ladd, 1), (136, .lstore 4, 2), (138, .ldc2_w 341, 3), (141, .lload 4, 2), (143, .lmul, 1), (144, .aload_n 0, 1), (145, .iload_n 3, 1), (146, .invokevirtual 300, 3), (149, .i2l, 1), (150, .ladd, 1), (151, .lreturn, 1)]
theorem dX7_tellsDancer : dOk cX7_tellsDancer tX7_tellsDancer = true := by decide +kernel
abbrev rX7_tellsDancer : Room := { frames := 8, cells := 0, slots := 0, locals := 185 }
def wX7_tellsDancer_43 (Q : Int64 → Mem → Prop) (x3 : Int32) (x4 : Int64) (σ : Mem) : Prop := (wX7_tellsBeat x4 (0 : Int32) x3 σ (fun r51 σ51 => (wX7_tellsBeat r51 (6 : Int32) x3 σ51 (fun r57 σ57 => (wX7_tellsBeat r57 (13 : Int32) x3 σ57 (fun r63 σ63 => (wX7_tellsBeat r63 (23 : Int32) x3 σ63 (fun r69 σ69 => (wX7_beginOf x3 (0 : Int32) σ69 (fun r83 σ83 => (∀ x4_88 : Int64, x4_88 = (((31 : Int64) * r69) + ((r83).toInt64)) → (wX7_beginOf x3 (1 : Int32) σ83 (fun r99 σ99 => (∀ x4_104 : Int64, x4_104 = (((31 : Int64) * x4_88) + ((r99).toInt64)) → (wX7_dressOf x3 (0 : Int32) σ99 (fun r115 σ115 => (∀ x4_120 : Int64, x4_120 = (((31 : Int64) * x4_104) + ((r115).toInt64)) → (wX7_dressOf x3 (1 : Int32) σ115 (fun r131 σ131 => (∀ x4_136 : Int64, x4_136 = (((31 : Int64) * x4_120) + ((r131).toInt64)) → (wX7_waysOf x3 σ131 (fun r146 σ146 => (Q (((31 : Int64) * x4_136) + ((r146).toInt64)) σ146)))))))))))))))))))))))
def wX7_tellsDancer_10 (Q : Int64 → Mem → Prop) : Nat → Int32 → Int64 → Int32 → Mem → Prop
  | 0, _, _, _, _ => False
  | n + 1, x3, x4, x6, σ => ((((3 : Int32) ≤ x6) → (wX7_tellsDancer_43 Q x3 x4 σ)) ∧ ((¬ (3 : Int32) ≤ x6) → (vp_in (((3 : Int32) * x3) + x6) 24 ∧ (∀ x4_35 : Int64, x4_35 = (((31 : Int64) * x4) + (((σ 7 ((((3 : Int32) * x3) + x6)).toNatClampNeg)).toInt64)) → (wX7_tellsDancer_10 Q n x3 x4_35 (x6 + (1 : Int32)) σ)))))
def wX7_tellsDancer (x1 : Int64) (x3 : Int32) (σ : Mem) (Q : Int64 → Mem → Prop) : Prop := (wX7_lives  σ (fun σ1 => (∃ N10, wX7_tellsDancer_10 Q N10 x3 x1 (0 : Int32) σ1)))
set_option maxHeartbeats 4000000 in
set_option maxRecDepth 100000 in
theorem kX7_tellsDancer_43 {p : Program} {l : Launch} {e : Env} {s : State} {m : MethodId} {args : Array Value} {below : List Frame} {meth : Method} {c : Code} {E : wE} (hE : wM E) (C : Cx p s m args c cX7_tellsDancer 7 RX7 E (wA E)) (hr : meth.sig.returnType = (some .long)) (hlk : meth.locks = false) {Q : Int64 → Mem → Prop} : ∀ (x3 : Int32) (x4 : Int64) (σ : Mem) (H : Heap) (locs : List Loc) (ls : Array Slot), wd E (wA E) s σ H locs → lv_has ls 7 [(0, .ref (gE E 0)), (3, .int x3), (4, .long x4)] → wX7_tellsDancer_43 Q x3 x4 σ → W p l e rX7_tellsDancer s m args below meth c H locs 0 0 (MQ below (wQl E Q) args s 0 0 (wA E)) (F0 m 43 ls []) := by
  have hx := C.1.1
  have hb := C.1.2.1
  intro x3 x4 σ  H locs ls hw hl h
  unfold wX7_tellsDancer_43 at h
  refine lv_aload_n hx hb (dAt dX7_tellsDancer 25 rfl) rfl (lv_at hl 0 rfl) ?_
  refine lv_aload_n hx hb (dAt dX7_tellsDancer 26 rfl) rfl (lv_at hl 0 rfl) ?_
  refine lv_aload_n hx hb (dAt dX7_tellsDancer 27 rfl) rfl (lv_at hl 0 rfl) ?_
  refine lv_aload_n hx hb (dAt dX7_tellsDancer 28 rfl) rfl (lv_at hl 0 rfl) ?_
  refine lv_lload hx hb (dAt dX7_tellsDancer 29 rfl) (lv_at hl 2 rfl) ?_
  refine lv_iconst (v := 0) hx hb (dAt dX7_tellsDancer 30 rfl) (by decide) ?_
  refine lv_iload_n hx hb (dAt dX7_tellsDancer 31 rfl) rfl (lv_at hl 1 rfl) ?_
  refine x_calll C hw (x_runV (As := [.long x4, .int (0 : Int32), .int x3]) (rest := [.ref (gE E 0), .ref (gE E 0), .ref (gE E 0)]) C hw (kX7_tellsBeat l E hE x4 (0 : Int32) x3 σ _ h) mtX7_tellsBeat lk_X7_343 (hE.1 0) (nM hE (by decide)) rfl ⟨by decide, by decide⟩ ⟨rfl, rfl⟩ rfl hl.1 rfl (Nat.le_of_ble_eq_true rfl) (dAt dX7_tellsDancer 32 rfl) ⟨Nat.zero_le _, Nat.zero_le _⟩) (fun r51 σ51 H locs h hw => ?_)
  refine lv_bipush (v := 6) hx hb (dAt dX7_tellsDancer 33 rfl) (by decide) ?_
  refine lv_iload_n hx hb (dAt dX7_tellsDancer 34 rfl) rfl (lv_at hl 1 rfl) ?_
  refine x_calll C hw (x_runV (As := [.long r51, .int (6 : Int32), .int x3]) (rest := [.ref (gE E 0), .ref (gE E 0)]) C hw (kX7_tellsBeat l E hE r51 (6 : Int32) x3 σ51 _ h) mtX7_tellsBeat lk_X7_343 (hE.1 0) (nM hE (by decide)) rfl ⟨by decide, by decide⟩ ⟨rfl, rfl⟩ rfl hl.1 rfl (Nat.le_of_ble_eq_true rfl) (dAt dX7_tellsDancer 35 rfl) ⟨Nat.zero_le _, Nat.zero_le _⟩) (fun r57 σ57 H locs h hw => ?_)
  refine lv_bipush (v := 13) hx hb (dAt dX7_tellsDancer 36 rfl) (by decide) ?_
  refine lv_iload_n hx hb (dAt dX7_tellsDancer 37 rfl) rfl (lv_at hl 1 rfl) ?_
  refine x_calll C hw (x_runV (As := [.long r57, .int (13 : Int32), .int x3]) (rest := [.ref (gE E 0)]) C hw (kX7_tellsBeat l E hE r57 (13 : Int32) x3 σ57 _ h) mtX7_tellsBeat lk_X7_343 (hE.1 0) (nM hE (by decide)) rfl ⟨by decide, by decide⟩ ⟨rfl, rfl⟩ rfl hl.1 rfl (Nat.le_of_ble_eq_true rfl) (dAt dX7_tellsDancer 38 rfl) ⟨Nat.zero_le _, Nat.zero_le _⟩) (fun r63 σ63 H locs h hw => ?_)
  refine lv_bipush (v := 23) hx hb (dAt dX7_tellsDancer 39 rfl) (by decide) ?_
  refine lv_iload_n hx hb (dAt dX7_tellsDancer 40 rfl) rfl (lv_at hl 1 rfl) ?_
  refine x_calll C hw (x_runV (As := [.long r63, .int (23 : Int32), .int x3]) (rest := []) C hw (kX7_tellsBeat l E hE r63 (23 : Int32) x3 σ63 _ h) mtX7_tellsBeat lk_X7_343 (hE.1 0) (nM hE (by decide)) rfl ⟨by decide, by decide⟩ ⟨rfl, rfl⟩ rfl hl.1 rfl (Nat.le_of_ble_eq_true rfl) (dAt dX7_tellsDancer 41 rfl) ⟨Nat.zero_le _, Nat.zero_le _⟩) (fun r69 σ69 H locs h hw => ?_)
  refine lv_lstore (lv' := [(4, .long r69), (0, .ref (gE E 0)), (3, .int x3)]) hx hb (dAt dX7_tellsDancer 42 rfl) hl (by decide) rfl (fun ls hl => ?_)
  refine lv_ldc2 (v := 31) hx hb C.1.2.2.2.1 (C.1.2.2.2.2 _ ck_X7_341) (dAt dX7_tellsDancer 43 rfl) ?_
  refine lv_lload hx hb (dAt dX7_tellsDancer 44 rfl) (lv_at hl 0 rfl) ?_
  refine lv_lmul hx hb (dAt dX7_tellsDancer 45 rfl) ?_
  refine lv_aload_n hx hb (dAt dX7_tellsDancer 46 rfl) rfl (lv_at hl 1 rfl) ?_
  refine lv_iload_n hx hb (dAt dX7_tellsDancer 47 rfl) rfl (lv_at hl 2 rfl) ?_
  refine lv_iconst (v := 0) hx hb (dAt dX7_tellsDancer 48 rfl) (by decide) ?_
  refine x_calli C hw (x_runV (As := [.int x3, .int (0 : Int32)]) (rest := [.long ((31 : Int64) * r69)]) C hw (kX7_beginOf l E hE x3 (0 : Int32) σ69 _ h) mtX7_beginOf lk_X7_271 (hE.1 0) (nM hE (by decide)) rfl ⟨by decide, by decide⟩ ⟨rfl, rfl⟩ rfl hl.1 rfl (Nat.le_of_ble_eq_true rfl) (dAt dX7_tellsDancer 49 rfl) ⟨Nat.zero_le _, Nat.zero_le _⟩) (fun r83 σ83 H locs h hw => ?_)
  refine lv_i2l hx hb (dAt dX7_tellsDancer 50 rfl) rfl ?_
  refine lv_ladd hx hb (dAt dX7_tellsDancer 51 rfl) ?_
  refine lv_topl (fun x4_88 ex4_88 => ?_)
  replace h := h x4_88 ex4_88
  refine lv_lstore (lv' := [(4, .long x4_88), (0, .ref (gE E 0)), (3, .int x3)]) hx hb (dAt dX7_tellsDancer 52 rfl) hl (by decide) rfl (fun ls hl => ?_)
  refine lv_ldc2 (v := 31) hx hb C.1.2.2.2.1 (C.1.2.2.2.2 _ ck_X7_341) (dAt dX7_tellsDancer 53 rfl) ?_
  refine lv_lload hx hb (dAt dX7_tellsDancer 54 rfl) (lv_at hl 0 rfl) ?_
  refine lv_lmul hx hb (dAt dX7_tellsDancer 55 rfl) ?_
  refine lv_aload_n hx hb (dAt dX7_tellsDancer 56 rfl) rfl (lv_at hl 1 rfl) ?_
  refine lv_iload_n hx hb (dAt dX7_tellsDancer 57 rfl) rfl (lv_at hl 2 rfl) ?_
  refine lv_iconst (v := 1) hx hb (dAt dX7_tellsDancer 58 rfl) (by decide) ?_
  refine x_calli C hw (x_runV (As := [.int x3, .int (1 : Int32)]) (rest := [.long ((31 : Int64) * x4_88)]) C hw (kX7_beginOf l E hE x3 (1 : Int32) σ83 _ h) mtX7_beginOf lk_X7_271 (hE.1 0) (nM hE (by decide)) rfl ⟨by decide, by decide⟩ ⟨rfl, rfl⟩ rfl hl.1 rfl (Nat.le_of_ble_eq_true rfl) (dAt dX7_tellsDancer 59 rfl) ⟨Nat.zero_le _, Nat.zero_le _⟩) (fun r99 σ99 H locs h hw => ?_)
  refine lv_i2l hx hb (dAt dX7_tellsDancer 60 rfl) rfl ?_
  refine lv_ladd hx hb (dAt dX7_tellsDancer 61 rfl) ?_
  refine lv_topl (fun x4_104 ex4_104 => ?_)
  replace h := h x4_104 ex4_104
  refine lv_lstore (lv' := [(4, .long x4_104), (0, .ref (gE E 0)), (3, .int x3)]) hx hb (dAt dX7_tellsDancer 62 rfl) hl (by decide) rfl (fun ls hl => ?_)
  refine lv_ldc2 (v := 31) hx hb C.1.2.2.2.1 (C.1.2.2.2.2 _ ck_X7_341) (dAt dX7_tellsDancer 63 rfl) ?_
  refine lv_lload hx hb (dAt dX7_tellsDancer 64 rfl) (lv_at hl 0 rfl) ?_
  refine lv_lmul hx hb (dAt dX7_tellsDancer 65 rfl) ?_
  refine lv_aload_n hx hb (dAt dX7_tellsDancer 66 rfl) rfl (lv_at hl 1 rfl) ?_
  refine lv_iload_n hx hb (dAt dX7_tellsDancer 67 rfl) rfl (lv_at hl 2 rfl) ?_
  refine lv_iconst (v := 0) hx hb (dAt dX7_tellsDancer 68 rfl) (by decide) ?_
  refine x_calli C hw (x_runV (As := [.int x3, .int (0 : Int32)]) (rest := [.long ((31 : Int64) * x4_104)]) C hw (kX7_dressOf l E hE x3 (0 : Int32) σ99 _ h) mtX7_dressOf lk_X7_277 (hE.1 0) (nM hE (by decide)) rfl ⟨by decide, by decide⟩ ⟨rfl, rfl⟩ rfl hl.1 rfl (Nat.le_of_ble_eq_true rfl) (dAt dX7_tellsDancer 69 rfl) ⟨Nat.zero_le _, Nat.zero_le _⟩) (fun r115 σ115 H locs h hw => ?_)
  refine lv_i2l hx hb (dAt dX7_tellsDancer 70 rfl) rfl ?_
  refine lv_ladd hx hb (dAt dX7_tellsDancer 71 rfl) ?_
  refine lv_topl (fun x4_120 ex4_120 => ?_)
  replace h := h x4_120 ex4_120
  refine lv_lstore (lv' := [(4, .long x4_120), (0, .ref (gE E 0)), (3, .int x3)]) hx hb (dAt dX7_tellsDancer 72 rfl) hl (by decide) rfl (fun ls hl => ?_)
  refine lv_ldc2 (v := 31) hx hb C.1.2.2.2.1 (C.1.2.2.2.2 _ ck_X7_341) (dAt dX7_tellsDancer 73 rfl) ?_
  refine lv_lload hx hb (dAt dX7_tellsDancer 74 rfl) (lv_at hl 0 rfl) ?_
  refine lv_lmul hx hb (dAt dX7_tellsDancer 75 rfl) ?_
  refine lv_aload_n hx hb (dAt dX7_tellsDancer 76 rfl) rfl (lv_at hl 1 rfl) ?_
  refine lv_iload_n hx hb (dAt dX7_tellsDancer 77 rfl) rfl (lv_at hl 2 rfl) ?_
  refine lv_iconst (v := 1) hx hb (dAt dX7_tellsDancer 78 rfl) (by decide) ?_
  refine x_calli C hw (x_runV (As := [.int x3, .int (1 : Int32)]) (rest := [.long ((31 : Int64) * x4_120)]) C hw (kX7_dressOf l E hE x3 (1 : Int32) σ115 _ h) mtX7_dressOf lk_X7_277 (hE.1 0) (nM hE (by decide)) rfl ⟨by decide, by decide⟩ ⟨rfl, rfl⟩ rfl hl.1 rfl (Nat.le_of_ble_eq_true rfl) (dAt dX7_tellsDancer 79 rfl) ⟨Nat.zero_le _, Nat.zero_le _⟩) (fun r131 σ131 H locs h hw => ?_)
  refine lv_i2l hx hb (dAt dX7_tellsDancer 80 rfl) rfl ?_
  refine lv_ladd hx hb (dAt dX7_tellsDancer 81 rfl) ?_
  refine lv_topl (fun x4_136 ex4_136 => ?_)
  replace h := h x4_136 ex4_136
  refine lv_lstore (lv' := [(4, .long x4_136), (0, .ref (gE E 0)), (3, .int x3)]) hx hb (dAt dX7_tellsDancer 82 rfl) hl (by decide) rfl (fun ls hl => ?_)
  refine lv_ldc2 (v := 31) hx hb C.1.2.2.2.1 (C.1.2.2.2.2 _ ck_X7_341) (dAt dX7_tellsDancer 83 rfl) ?_
  refine lv_lload hx hb (dAt dX7_tellsDancer 84 rfl) (lv_at hl 0 rfl) ?_
  refine lv_lmul hx hb (dAt dX7_tellsDancer 85 rfl) ?_
  refine lv_aload_n hx hb (dAt dX7_tellsDancer 86 rfl) rfl (lv_at hl 1 rfl) ?_
  refine lv_iload_n hx hb (dAt dX7_tellsDancer 87 rfl) rfl (lv_at hl 2 rfl) ?_
  refine x_calli C hw (x_runV (As := [.int x3]) (rest := [.long ((31 : Int64) * x4_136)]) C hw (kX7_waysOf l E hE x3 σ131 _ h) mtX7_waysOf lk_X7_300 (hE.1 0) (nM hE (by decide)) rfl ⟨by decide, by decide⟩ ⟨rfl, rfl⟩ rfl hl.1 rfl (Nat.le_of_ble_eq_true rfl) (dAt dX7_tellsDancer 88 rfl) ⟨Nat.zero_le _, Nat.zero_le _⟩) (fun r146 σ146 H locs h hw => ?_)
  refine lv_i2l hx hb (dAt dX7_tellsDancer 89 rfl) rfl ?_
  refine lv_ladd hx hb (dAt dX7_tellsDancer 90 rfl) ?_
  exact x_lret C hw hr hlk h (dAt dX7_tellsDancer 91 rfl)
set_option maxHeartbeats 4000000 in
set_option maxRecDepth 100000 in
theorem kX7_tellsDancer_10 {p : Program} {l : Launch} {e : Env} {s : State} {m : MethodId} {args : Array Value} {below : List Frame} {meth : Method} {c : Code} {E : wE} (hE : wM E) (C : Cx p s m args c cX7_tellsDancer 7 RX7 E (wA E)) (hr : meth.sig.returnType = (some .long)) (hlk : meth.locks = false) {Q : Int64 → Mem → Prop} : ∀ (n : Nat) (x3 : Int32) (x4 : Int64) (x6 : Int32) (σ : Mem) (H : Heap) (locs : List Loc) (ls : Array Slot), wd E (wA E) s σ H locs → lv_has ls 7 [(0, .ref (gE E 0)), (3, .int x3), (4, .long x4), (6, .int x6)] → wX7_tellsDancer_10 Q n x3 x4 x6 σ → W p l e rX7_tellsDancer s m args below meth c H locs 0 0 (MQ below (wQl E Q) args s 0 0 (wA E)) (F0 m 10 ls []) := by
  have hx := C.1.1
  have hb := C.1.2.1
  intro n
  induction n with
  | zero =>
    intro x3 x4 x6 σ  H locs ls hw hl h
    exact h.elim
  | succ n ih =>
    intro x3 x4 x6 σ  H locs ls hw hl h
    rw [wX7_tellsDancer_10] at h
    refine lv_iload hx hb (dAt dX7_tellsDancer 6 rfl) (lv_at hl 3 rfl) ?_
    refine lv_iconst (v := 3) hx hb (dAt dX7_tellsDancer 7 rfl) (by decide) ?_
    refine lv_icmp_ge (tgt := 43) hx hb (dAt dX7_tellsDancer 8 rfl) (by decide) (fun c13 => ?_) (fun c13 => ?_)
    · replace h := h.1 c13
      exact kX7_tellsDancer_43 hE C hr hlk x3 x4 σ  _ _ _ hw (lv_sub hl [0, 1, 2] rfl) h
    · replace h := h.2 c13
      refine lv_ldc2 (v := 31) hx hb C.1.2.2.2.1 (C.1.2.2.2.2 _ ck_X7_341) (dAt dX7_tellsDancer 9 rfl) ?_
      refine lv_lload hx hb (dAt dX7_tellsDancer 10 rfl) (lv_at hl 2 rfl) ?_
      refine lv_lmul hx hb (dAt dX7_tellsDancer 11 rfl) ?_
      refine lv_aload_n hx hb (dAt dX7_tellsDancer 12 rfl) rfl (lv_at hl 0 rfl) ?_
      refine x_getr C hw fl_X7_28 (hE.1 0) (nM hE (by decide)) rfl (dAt dX7_tellsDancer 13 rfl) ?_
      refine lv_iconst (v := 3) hx hb (dAt dX7_tellsDancer 14 rfl) (by decide) ?_
      refine lv_iload_n hx hb (dAt dX7_tellsDancer 15 rfl) rfl (lv_at hl 1 rfl) ?_
      refine lv_imul hx hb (dAt dX7_tellsDancer 16 rfl) ?_
      refine lv_iload hx hb (dAt dX7_tellsDancer 17 rfl) (lv_at hl 3 rfl) ?_
      refine lv_iadd hx hb (dAt dX7_tellsDancer 18 rfl) ?_
      obtain ⟨z32, h⟩ := h
      refine x_ild C hw (hE.1 7) (nM hE (by decide)) z32 rfl (dAt dX7_tellsDancer 19 rfl) ?_
      refine lv_i2l hx hb (dAt dX7_tellsDancer 20 rfl) rfl ?_
      refine lv_ladd hx hb (dAt dX7_tellsDancer 21 rfl) ?_
      refine lv_topl (fun x4_35 ex4_35 => ?_)
      replace h := h x4_35 ex4_35
      refine lv_lstore (lv' := [(4, .long x4_35), (0, .ref (gE E 0)), (3, .int x3), (6, .int x6)]) hx hb (dAt dX7_tellsDancer 22 rfl) hl (by decide) rfl (fun ls hl => ?_)
      refine lv_iinc (v := (x6 + (1 : Int32))) (lv' := [(6, .int (x6 + (1 : Int32))), (4, .long x4_35), (0, .ref (gE E 0)), (3, .int x3)]) hx hb (dAt dX7_tellsDancer 23 rfl) hl (k := 3) rfl rfl (by decide) rfl (fun ls hl => ?_)
      refine lv_goto (tgt := 10) hx hb (dAt dX7_tellsDancer 24 rfl) (by decide) ?_
      exact ih x3 x4_35 (x6 + (1 : Int32)) σ  _ _ _ hw (lv_sub hl [2, 3, 1, 0] rfl) h
set_option maxHeartbeats 4000000 in
set_option maxRecDepth 100000 in
theorem kX7_tellsDancer (l : Launch) (E : wE) (hE : wM E) (x1 : Int64) (x3 : Int32) (σ : Mem) (Q : Int64 → Mem → Prop) (h : wX7_tellsDancer x1 x3 σ Q) : Met l yX7_tellsDancer (Cond.code yX7_tellsDancer cX7_tellsDancer 7 (some .long) :: TB) rX7_tellsDancer (wPc E σ [.ref (gE E 0), .long x1, .int x3]) (wQl E Q) 0 0 (wA E) := by
  refine wMet (by decide) hE.2.2 (Nat.le_of_ble_eq_true rfl) ?_
  intro p e s m args below meth c ls C hr hlk hl hw
  have hx := C.1.1
  have hb := C.1.2.1
  replace C : Cx p s m args c cX7_tellsDancer 7 RX7 E (wA E) := C
  replace hl : lv_has ls 7 [(0, .ref (gE E 0)), (1, .long x1), (3, .int x3)] := hl
  unfold wX7_tellsDancer at h
  refine lv_aload_n hx hb (dAt dX7_tellsDancer 0 rfl) rfl (lv_at hl 0 rfl) ?_
  refine x_callv C hw (x_runV (As := []) (rest := []) C hw (kX7_lives l E hE  σ _ h) mtX7_lives lk_X7_216 (hE.1 0) (nM hE (by decide)) rfl ⟨by decide, by decide⟩ ⟨rfl, rfl⟩ rfl hl.1 rfl (Nat.le_of_ble_eq_true rfl) (dAt dX7_tellsDancer 1 rfl) ⟨Nat.zero_le _, Nat.zero_le _⟩) (fun σ1 H locs h hw => ?_)
  refine lv_lload_n hx hb (dAt dX7_tellsDancer 2 rfl) rfl (lv_at hl 1 rfl) ?_
  refine lv_lstore (lv' := [(4, .long x1), (0, .ref (gE E 0)), (1, .long x1), (3, .int x3)]) hx hb (dAt dX7_tellsDancer 3 rfl) hl (by decide) rfl (fun ls hl => ?_)
  refine lv_iconst (v := 0) hx hb (dAt dX7_tellsDancer 4 rfl) (by decide) ?_
  refine lv_istore (lv' := [(6, .int (0 : Int32)), (4, .long x1), (0, .ref (gE E 0)), (1, .long x1), (3, .int x3)]) hx hb (dAt dX7_tellsDancer 5 rfl) hl (by decide) rfl (fun ls hl => ?_)
  obtain ⟨n10, h⟩ := h
  exact kX7_tellsDancer_10 hE C hr hlk n10 x3 x1 (0 : Int32) σ1  _ _ _ hw (lv_sub hl [2, 4, 1, 0] rfl) h
def tX7_tellsPlan : List (Nat × Instr × Nat) := [(0, .ldc2_w 341, 3), (3, .lload_n 1, 1), (4, .lmul, 1), (5, .aload_n 0, 1), (6, .iload_n 3, 1), (7, .iconst 0, 1), (8, .invokevirtual 265, 3), (11, .i2l, 1), (12, .ladd, 1), (13, .lstore 4, 2), (15, .ldc2_w 341, 3), (18, .lload 4, 2), (20, .lmul, 1), (21, .aload_n 0, 1), (22, .iload_n 3, 1), (23, .iconst 1, 1), (24, .invokevirtual 265, 3), (27, .i2l, 1), (28, .ladd, 1), (29, .lstore 4, 2), (31, .ldc2_w 341, 3), (34, .lload 4, 2), (36, .lmul, 1), (37, .aload_n 0, 1), (38, .iconst 5, 1), (39, .iload_n 3, 1), (40, .iconst 0, 1), (41, .invokevirtual 318, 3), (44, .ladd, 1), (45, .lstore 4, 2), (47, .ldc2_w 341, 3), (50, .lload 4, 2), (52, .lmul, 1), (53, .aload_n 0, 1), (54, .iconst 5, 1), (55, .iload_n 3, 1), (56, .iconst 1, 1), (57, .invokevirtual 318, 3), (60, .ladd, 1), (61, .lreturn, 1)]
theorem dX7_tellsPlan : dOk cX7_tellsPlan tX7_tellsPlan = true := by decide +kernel
abbrev rX7_tellsPlan : Room := { frames := 7, cells := 0, slots := 0, locals := 168 }
def wX7_tellsPlan (x1 : Int64) (x3 : Int32) (σ : Mem) (Q : Int64 → Mem → Prop) : Prop := (wX7_stepIn x3 (0 : Int32) σ (fun r8 σ8 => (∀ x4_13 : Int64, x4_13 = (((31 : Int64) * x1) + ((r8).toInt64)) → (wX7_stepIn x3 (1 : Int32) σ8 (fun r24 σ24 => (∀ x4_29 : Int64, x4_29 = (((31 : Int64) * x4_13) + ((r24).toInt64)) → (wX7_chanceOf (5 : Int32) x3 (0 : Int32) σ24 (fun r41 σ41 => (∀ x4_45 : Int64, x4_45 = (((31 : Int64) * x4_29) + r41) → (wX7_chanceOf (5 : Int32) x3 (1 : Int32) σ41 (fun r57 σ57 => (Q (((31 : Int64) * x4_45) + r57) σ57))))))))))))
set_option maxHeartbeats 4000000 in
set_option maxRecDepth 100000 in
theorem kX7_tellsPlan (l : Launch) (E : wE) (hE : wM E) (x1 : Int64) (x3 : Int32) (σ : Mem) (Q : Int64 → Mem → Prop) (h : wX7_tellsPlan x1 x3 σ Q) : Met l yX7_tellsPlan (Cond.code yX7_tellsPlan cX7_tellsPlan 6 (some .long) :: TB) rX7_tellsPlan (wPc E σ [.ref (gE E 0), .long x1, .int x3]) (wQl E Q) 0 0 (wA E) := by
  refine wMet (by decide) hE.2.2 (Nat.le_of_ble_eq_true rfl) ?_
  intro p e s m args below meth c ls C hr hlk hl hw
  have hx := C.1.1
  have hb := C.1.2.1
  replace C : Cx p s m args c cX7_tellsPlan 6 RX7 E (wA E) := C
  replace hl : lv_has ls 6 [(0, .ref (gE E 0)), (1, .long x1), (3, .int x3)] := hl
  unfold wX7_tellsPlan at h
  refine lv_ldc2 (v := 31) hx hb C.1.2.2.2.1 (C.1.2.2.2.2 _ ck_X7_341) (dAt dX7_tellsPlan 0 rfl) ?_
  refine lv_lload_n hx hb (dAt dX7_tellsPlan 1 rfl) rfl (lv_at hl 1 rfl) ?_
  refine lv_lmul hx hb (dAt dX7_tellsPlan 2 rfl) ?_
  refine lv_aload_n hx hb (dAt dX7_tellsPlan 3 rfl) rfl (lv_at hl 0 rfl) ?_
  refine lv_iload_n hx hb (dAt dX7_tellsPlan 4 rfl) rfl (lv_at hl 2 rfl) ?_
  refine lv_iconst (v := 0) hx hb (dAt dX7_tellsPlan 5 rfl) (by decide) ?_
  refine x_calli C hw (x_runV (As := [.int x3, .int (0 : Int32)]) (rest := [.long ((31 : Int64) * x1)]) C hw (kX7_stepIn l E hE x3 (0 : Int32) σ _ h) mtX7_stepIn lk_X7_265 (hE.1 0) (nM hE (by decide)) rfl ⟨by decide, by decide⟩ ⟨rfl, rfl⟩ rfl hl.1 rfl (Nat.le_of_ble_eq_true rfl) (dAt dX7_tellsPlan 6 rfl) ⟨Nat.zero_le _, Nat.zero_le _⟩) (fun r8 σ8 H locs h hw => ?_)
  refine lv_i2l hx hb (dAt dX7_tellsPlan 7 rfl) rfl ?_
  refine lv_ladd hx hb (dAt dX7_tellsPlan 8 rfl) ?_
  refine lv_topl (fun x4_13 ex4_13 => ?_)
  replace h := h x4_13 ex4_13
  refine lv_lstore (lv' := [(4, .long x4_13), (0, .ref (gE E 0)), (1, .long x1), (3, .int x3)]) hx hb (dAt dX7_tellsPlan 9 rfl) hl (by decide) rfl (fun ls hl => ?_)
  refine lv_ldc2 (v := 31) hx hb C.1.2.2.2.1 (C.1.2.2.2.2 _ ck_X7_341) (dAt dX7_tellsPlan 10 rfl) ?_
  refine lv_lload hx hb (dAt dX7_tellsPlan 11 rfl) (lv_at hl 0 rfl) ?_
  refine lv_lmul hx hb (dAt dX7_tellsPlan 12 rfl) ?_
  refine lv_aload_n hx hb (dAt dX7_tellsPlan 13 rfl) rfl (lv_at hl 1 rfl) ?_
  refine lv_iload_n hx hb (dAt dX7_tellsPlan 14 rfl) rfl (lv_at hl 3 rfl) ?_
  refine lv_iconst (v := 1) hx hb (dAt dX7_tellsPlan 15 rfl) (by decide) ?_
  refine x_calli C hw (x_runV (As := [.int x3, .int (1 : Int32)]) (rest := [.long ((31 : Int64) * x4_13)]) C hw (kX7_stepIn l E hE x3 (1 : Int32) σ8 _ h) mtX7_stepIn lk_X7_265 (hE.1 0) (nM hE (by decide)) rfl ⟨by decide, by decide⟩ ⟨rfl, rfl⟩ rfl hl.1 rfl (Nat.le_of_ble_eq_true rfl) (dAt dX7_tellsPlan 16 rfl) ⟨Nat.zero_le _, Nat.zero_le _⟩) (fun r24 σ24 H locs h hw => ?_)
  refine lv_i2l hx hb (dAt dX7_tellsPlan 17 rfl) rfl ?_
  refine lv_ladd hx hb (dAt dX7_tellsPlan 18 rfl) ?_
  refine lv_topl (fun x4_29 ex4_29 => ?_)
  replace h := h x4_29 ex4_29
  refine lv_lstore (lv' := [(4, .long x4_29), (0, .ref (gE E 0)), (1, .long x1), (3, .int x3)]) hx hb (dAt dX7_tellsPlan 19 rfl) hl (by decide) rfl (fun ls hl => ?_)
  refine lv_ldc2 (v := 31) hx hb C.1.2.2.2.1 (C.1.2.2.2.2 _ ck_X7_341) (dAt dX7_tellsPlan 20 rfl) ?_
  refine lv_lload hx hb (dAt dX7_tellsPlan 21 rfl) (lv_at hl 0 rfl) ?_
  refine lv_lmul hx hb (dAt dX7_tellsPlan 22 rfl) ?_
  refine lv_aload_n hx hb (dAt dX7_tellsPlan 23 rfl) rfl (lv_at hl 1 rfl) ?_
  refine lv_iconst (v := 5) hx hb (dAt dX7_tellsPlan 24 rfl) (by decide) ?_
  refine lv_iload_n hx hb (dAt dX7_tellsPlan 25 rfl) rfl (lv_at hl 3 rfl) ?_
  refine lv_iconst (v := 0) hx hb (dAt dX7_tellsPlan 26 rfl) (by decide) ?_
  refine x_calll C hw (x_runV (As := [.int (5 : Int32), .int x3, .int (0 : Int32)]) (rest := [.long ((31 : Int64) * x4_29)]) C hw (kX7_chanceOf l E hE (5 : Int32) x3 (0 : Int32) σ24 _ h) mtX7_chanceOf lk_X7_318 (hE.1 0) (nM hE (by decide)) rfl ⟨by decide, by decide⟩ ⟨rfl, rfl⟩ rfl hl.1 rfl (Nat.le_of_ble_eq_true rfl) (dAt dX7_tellsPlan 27 rfl) ⟨Nat.zero_le _, Nat.zero_le _⟩) (fun r41 σ41 H locs h hw => ?_)
  refine lv_ladd hx hb (dAt dX7_tellsPlan 28 rfl) ?_
  refine lv_topl (fun x4_45 ex4_45 => ?_)
  replace h := h x4_45 ex4_45
  refine lv_lstore (lv' := [(4, .long x4_45), (0, .ref (gE E 0)), (1, .long x1), (3, .int x3)]) hx hb (dAt dX7_tellsPlan 29 rfl) hl (by decide) rfl (fun ls hl => ?_)
  refine lv_ldc2 (v := 31) hx hb C.1.2.2.2.1 (C.1.2.2.2.2 _ ck_X7_341) (dAt dX7_tellsPlan 30 rfl) ?_
  refine lv_lload hx hb (dAt dX7_tellsPlan 31 rfl) (lv_at hl 0 rfl) ?_
  refine lv_lmul hx hb (dAt dX7_tellsPlan 32 rfl) ?_
  refine lv_aload_n hx hb (dAt dX7_tellsPlan 33 rfl) rfl (lv_at hl 1 rfl) ?_
  refine lv_iconst (v := 5) hx hb (dAt dX7_tellsPlan 34 rfl) (by decide) ?_
  refine lv_iload_n hx hb (dAt dX7_tellsPlan 35 rfl) rfl (lv_at hl 3 rfl) ?_
  refine lv_iconst (v := 1) hx hb (dAt dX7_tellsPlan 36 rfl) (by decide) ?_
  refine x_calll C hw (x_runV (As := [.int (5 : Int32), .int x3, .int (1 : Int32)]) (rest := [.long ((31 : Int64) * x4_45)]) C hw (kX7_chanceOf l E hE (5 : Int32) x3 (1 : Int32) σ41 _ h) mtX7_chanceOf lk_X7_318 (hE.1 0) (nM hE (by decide)) rfl ⟨by decide, by decide⟩ ⟨rfl, rfl⟩ rfl hl.1 rfl (Nat.le_of_ble_eq_true rfl) (dAt dX7_tellsPlan 37 rfl) ⟨Nat.zero_le _, Nat.zero_le _⟩) (fun r57 σ57 H locs h hw => ?_)
  refine lv_ladd hx hb (dAt dX7_tellsPlan 38 rfl) ?_
  exact x_lret C hw hr hlk h (dAt dX7_tellsPlan 39 rfl)
def tX7_digest : List (Nat × Instr × Nat) := [(0, .ldc2_w 347, 3), (3, .lstore_n 1, 1), (4, .iconst 0, 1), (5, .istore_n 3, 1), (6, .iload_n 3, 1), (7, .bipush 8, 2), (9, .if_icmp .ge 22, 3), (12, .ldc2_w 341, 3), (15, .lload_n 1, 1), (16, .lmul, 1), (17, .aload_n 0, 1), (18, .iload_n 3, 1), (19, .invokevirtual 349, 3), (22, .i2l, 1), (23, .ladd, 1), (24, .lstore_n 1, 1), (25, .iinc 3 1, 3), (28, .goto (-22), 3), (31, .iconst 0, 1), (32, .istore_n 3, 1), (33, .iload_n 3, 1), (34, .iconst 2, 1), (35, .if_icmp .ge 22, 3), (38, .ldc2_w 341, 3), (41, .lload_n 1, 1), (42, .lmul, 1), (43, .aload_n 0, 1), (44, .iload_n 3, 1), (45, .invokevirtual 152, 3), (48, .i2l, 1), (49, .ladd, 1), (50, .lstore_n 1, 1), (51, .iinc 3 1, 3), (54, .goto (-21), 3), (57, .aload_n 0, 1), (58, .invokevirtual 216, 3), (61, .iconst 0, 1), (62, .istore_n 3, 1), (63, .iload_n 3, 1), (64, .bipush 24, 2), (66, .if_icmp .ge 51, 3), (69, .ldc2_w 341, 3), (72, .lload_n 1, 1), (73, .lmul, 1), (74, .aload_n 0, 1), (75, .getfield 31, 3), (78, .iload_n 3, 1), (79, .iaload, 1), (80, .i2l, 1), (81, .ladd, 1), (82, .lstore_n 1, 1), (83, .ldc2_w 341, 3), (86, .lload_n 1, 1), (87, .lmul, 1), (88, .aload_n 0, 1), (89, .getfield 70, 3), (92, .iload_n 3, 1), (93, .iaload, 1), (94, .i2l, 1), (95, .ladd, 1), (96, .lstore_n 1, 1), (97, .ldc2_w 341, 3), (100, .lload_n 1, 1), (101, .lmul, 1), (102, .aload_n 0, 1), (103, .getfield 73, 3), (106, .iload_n 3, 1), (107, .iaload, 1), (108, .i2l, 1), (109, .ladd, 1), (110, .lstore_n 1, 1), (111, .iinc 3 1, 3), (114, .goto (-51), 3), (117, .iconst 0, 1), (118, .istore_n 3, 1), (119, .iload_n 3, 1), (120, .bipush 24, 2), (122, .if_icmp .ge 39, 3), (125, .iconst 0, 1), (126, .istore 4, 2), (128, .iload 4, 2), (130, .iconst 3, 1), (131, .if_icmp .ge 24, 3), (134, .ldc2_w 341, 3), (137, .lload_n 1, 1), (138, .lmul, 1), (139, .aload_n 0, 1), (140, .iload_n 3, 1), (141, .iload 4, 2), (143, .invokevirtual 230, 3), (146, .i2l, 1), (147, .ladd, 1), (148, .lstore_n 1, 1), (149, .iinc 4 1, 3), (152, .goto (-24), 3), (155, .iinc 3 1, 3), (158, .goto (-39), 3), (161, .iconst 0, 1), (162, .istore_n 3, 1), (163, .iload_n 3, 1), (164, .bipush 10, 2), (166, .if_icmp .ge 22, 3), (169, .ldc2_w 341, 3), (172, .lload_n 1, 1), (173, .lmul, 1), (174, .aload_n 0, 1), (175, .iload_n 3, 1), (176, .invokevirtual 238, 3), (179, .i2l, 1), (180, .ladd, 1), (181, .lstore_n 1, 1), (182, .iinc 3 1, 3), (185, .goto (-22), 3), (188, .iconst 0, 1), (189, .istore_n 3, 1), (190, .iload_n 3, 1), (191, .aload_n 0, 1), (192, .getfield 129, 3), (195, .if_icmp .ge 16, 3), (198, .aload_n 0, 1), (199, .lload_n 1, 1), (200, .iload_n 3, 1), (201, .invokevirtual 352, 3), (204, .lstore_n 1, 1), (205, .iinc 3 1, 3), (208, .goto (-18), 3), (211, .aload_n 0, 1), (212, .aload_n 0, 1), (213, .aload_n 0, 1), (214, .lload_n 1, 1), (215, .iconst 3, 1), (216, .invokevirtual 356, 3), (219, .bipush 11, 2), (221, .invokevirtual 356, 3), (224, .bipush 23, 2), (226, .invokevirtual 356, 3), (229, .lstore_n 1, 1), (230, .aload_n 0, 1), (231, .invokevirtual 216, 3), (234, .iconst 0, 1), (235, .istore_n 3, 1), (236, .iload_n 3, 1), (237, .iconst 3, 1), (238, .if_icmp .ge 22, 3), (241, .ldc2_w 341, 3), (244, .lload_n 1, 1), (245, .lmul, 1), (246, .aload_n 0, 1), (247, .iload_n 3, 1), (248, .invokevirtual 244, 3), (251, .i2l, 1), (252, .ladd, 1), (253, .lstore_n 1, 1), (254, .iinc 3 1, 3), (257, .goto (-21), 3), (260, .ldc2_w 341, 3), (263, .lload_n 1, 1), (264, .lmul, 1), (265, .aload_n 0, 1), (266, .iconst 0, 1), (267, .invokevirtual 250, 3), (270, .i2l, 1), (271, .ladd, 1), (272, .lstore_n 1, 1), (273, .ldc2_w 341, 3), (276, .lload_n 1, 1), (277, .lmul, 1), (278, .aload_n 0, 1), (279, .iconst 1, 1), (280, .invokevirtual 250, 3), (283, .i2l, 1), (284, .ladd, 1), (285, .lstore_n 1, 1), (286, .ldc2_w 341, 3), (289, .lload_n 1, 1), (290, .lmul, 1), (291, .aload_n 0, 1), (292, .invokevirtual 253, 3), (295, .i2l, 1), (296, .ladd, 1), (297, .lstore_n 1, 1), (298, .ldc2_w 341, 3), (301, .lload_n 1, 1), (302, .lmul, 1), (303, .aload_n 0, 1), (304, .invokevirtual 259, 3), (307, .i2l, 1), (308, .ladd, 1), (309, .lstore_n 1, 1), (310, .ldc2_w 341, 3), (313, .lload_n 1, 1), (314, .lmul, 1), (315, .aload_n 0, 1), (316, .invokevirtual 262, 3), (319, .i2l, 1), (320, .ladd, 1), (321, .lstore_n 1, 1), (322, .ldc2_w 341, 3), (325, .lload_n 1, 1), (326, .lmul, 1), (327, .aload_n 0, 1), (328, .iconst (-1), 1), (329, .invokevirtual 285, 3), (332, .i2l, 1), (333, .ladd, 1), (334, .lstore_n 1, 1), (335, .ldc2_w 341, 3), (338, .lload_n 1, 1), (339, .lmul, 1), (340, .aload_n 0, 1), (341, .iconst 0, 1), (342, .invokevirtual 285, 3), (345, .i2l, 1), (346, .ladd, 1), (347, .lstore_n 1, 1), (348, .ldc2_w 341, 3), (351, .lload_n 1, 1), (352, .lmul, 1), (353, .aload_n 0, 1), (354, .invokevirtual 297, 3), (357, .i2l, 1), (358, .ladd, 1), (359, .lstore_n 1, 1), (360, .ldc2_w 341, 3), (363, .lload_n 1, 1), (364, .lmul, 1), (365, .aload_n 0, 1), (366, .invokevirtual 303, 3), (369, .i2l, 1), (370, .ladd, 1), (371, .lstore_n 1, 1), (372, .ldc2_w 341, 3), (375, .lload_n 1, 1), (376, .lmul, 1), (377, .aload_n 0, 1), (378, .invokevirtual 309, 3), (381, .i2l, 1), (382, .ladd, 1), (383, .lstore_n 1, 1), (384, .ldc2_w 341, 3), (387, .lload_n 1, 1), (388, .lmul, 1), (389, .aload_n 0, 1), (390, .bipush 7, 2), (392, .bipush 18, 2), (394, .iconst 0, 1), (395, .invokevirtual 335, 3), (398, .i2l, 1), (399, .ladd, 1), (400, .lstore_n 1, 1), (401, .ldc2_w 341, 3), (404, .lload_n 1, 1), (405, .lmul, 1), (406, .aload_n 0, 1), (407, .bipush 7, 2), (409, .bipush 18, 2), (411, .iconst 1, 1), (412, .invokevirtual 335, 3), (415, .i2l, 1), (416, .ladd, 1), (417, .lreturn, 1)]
theorem dX7_digest : dOk cX7_digest tX7_digest = true := by decide +kernel
abbrev rX7_digest : Room := { frames := 9, cells := 0, slots := 0, locals := 211 }
def wX7_digest_260 (Q : Int64 → Mem → Prop) (x1 : Int64) (σ : Mem) : Prop := (wX7_runBy (0 : Int32) σ (fun r267 σ267 => (∀ x1_272 : Int64, x1_272 = (((31 : Int64) * x1) + ((r267).toInt64)) → (wX7_runBy (1 : Int32) σ267 (fun r280 σ280 => (∀ x1_285 : Int64, x1_285 = (((31 : Int64) * x1_272) + ((r280).toInt64)) → (wX7_bareNow  σ280 (fun r292 σ292 => (∀ x1_297 : Int64, x1_297 = (((31 : Int64) * x1_285) + ((r292).toInt64)) → (wX7_topNow  σ292 (fun r304 σ304 => (∀ x1_309 : Int64, x1_309 = (((31 : Int64) * x1_297) + ((r304).toInt64)) → (wX7_lacksNow  σ304 (fun r316 σ316 => (∀ x1_321 : Int64, x1_321 = (((31 : Int64) * x1_309) + ((r316).toInt64)) → (wX7_spareBy (-1 : Int32) σ316 (fun r329 σ329 => (∀ x1_334 : Int64, x1_334 = (((31 : Int64) * x1_321) + ((r329).toInt64)) → (wX7_spareBy (0 : Int32) σ329 (fun r342 σ342 => (∀ x1_347 : Int64, x1_347 = (((31 : Int64) * x1_334) + ((r342).toInt64)) → (wX7_neverNow  σ342 (fun r354 σ354 => (∀ x1_359 : Int64, x1_359 = (((31 : Int64) * x1_347) + ((r354).toInt64)) → (wX7_lengthsNow  σ354 (fun r366 σ366 => (∀ x1_371 : Int64, x1_371 = (((31 : Int64) * x1_359) + ((r366).toInt64)) → (wX7_askNow  σ366 (fun r378 σ378 => (∀ x1_383 : Int64, x1_383 = (((31 : Int64) * x1_371) + ((r378).toInt64)) → (wX7_dancesOf (7 : Int32) (18 : Int32) (0 : Int32) σ378 (fun r395 σ395 => (∀ x1_400 : Int64, x1_400 = (((31 : Int64) * x1_383) + ((r395).toInt64)) → (wX7_dancesOf (7 : Int32) (18 : Int32) (1 : Int32) σ395 (fun r412 σ412 => (Q (((31 : Int64) * x1_400) + ((r412).toInt64)) σ412))))))))))))))))))))))))))))))))))))
def wX7_digest_236 (Q : Int64 → Mem → Prop) : Nat → Int64 → Int32 → Mem → Prop
  | 0, _, _, _ => False
  | n + 1, x1, x3, σ => ((((3 : Int32) ≤ x3) → (wX7_digest_260 Q x1 σ)) ∧ ((¬ (3 : Int32) ≤ x3) → (wX7_sumBy x3 σ (fun r248 σ248 => (∀ x1_253 : Int64, x1_253 = (((31 : Int64) * x1) + ((r248).toInt64)) → (wX7_digest_236 Q n x1_253 (x3 + (1 : Int32)) σ248))))))
def wX7_digest_211 (Q : Int64 → Mem → Prop) (x1 : Int64) (σ : Mem) : Prop := (wX7_tellsPlan x1 (3 : Int32) σ (fun r216 σ216 => (wX7_tellsPlan r216 (11 : Int32) σ216 (fun r221 σ221 => (wX7_tellsPlan r221 (23 : Int32) σ221 (fun r226 σ226 => (wX7_lives  σ226 (fun σ231 => (∃ N236, wX7_digest_236 Q N236 r226 (0 : Int32) σ231)))))))))
def wX7_digest_190 (Q : Int64 → Mem → Prop) : Nat → Int64 → Int32 → Mem → Prop
  | 0, _, _, _ => False
  | n + 1, x1, x3, σ => ((((σ 0 7) ≤ x3) → (wX7_digest_211 Q x1 σ)) ∧ ((¬ (σ 0 7) ≤ x3) → (wX7_tellsDancer x1 x3 σ (fun r201 σ201 => (wX7_digest_190 Q n r201 (x3 + (1 : Int32)) σ201)))))
def wX7_digest_163 (Q : Int64 → Mem → Prop) : Nat → Int64 → Int32 → Mem → Prop
  | 0, _, _, _ => False
  | n + 1, x1, x3, σ => ((((10 : Int32) ≤ x3) → (∃ N190, wX7_digest_190 Q N190 x1 (0 : Int32) σ)) ∧ ((¬ (10 : Int32) ≤ x3) → (wX7_showsBy x3 σ (fun r176 σ176 => (∀ x1_181 : Int64, x1_181 = (((31 : Int64) * x1) + ((r176).toInt64)) → (wX7_digest_163 Q n x1_181 (x3 + (1 : Int32)) σ176))))))
def wX7_digest_128 (K119 : Int64 → Int32 → Mem → Prop) (Q : Int64 → Mem → Prop) : Nat → Int64 → Int32 → Int32 → Mem → Prop
  | 0, _, _, _, _ => False
  | n + 1, x1, x3, x4, σ => ((((3 : Int32) ≤ x4) → (K119 x1 (x3 + (1 : Int32)) σ)) ∧ ((¬ (3 : Int32) ≤ x4) → (wX7_weaveBy x3 x4 σ (fun r143 σ143 => (∀ x1_148 : Int64, x1_148 = (((31 : Int64) * x1) + ((r143).toInt64)) → (wX7_digest_128 K119 Q n x1_148 x3 (x4 + (1 : Int32)) σ143))))))
def wX7_digest_119 (Q : Int64 → Mem → Prop) : Nat → Int64 → Int32 → Mem → Prop
  | 0, _, _, _ => False
  | n + 1, x1, x3, σ => ((((24 : Int32) ≤ x3) → (∃ N163, wX7_digest_163 Q N163 x1 (0 : Int32) σ)) ∧ ((¬ (24 : Int32) ≤ x3) → (∃ N128, wX7_digest_128 (fun x1 x3 ρ => wX7_digest_119 Q n x1 x3 ρ) Q N128 x1 x3 (0 : Int32) σ)))
def wX7_digest_63 (Q : Int64 → Mem → Prop) : Nat → Int64 → Int32 → Mem → Prop
  | 0, _, _, _ => False
  | n + 1, x1, x3, σ => ((((24 : Int32) ≤ x3) → (∃ N119, wX7_digest_119 Q N119 x1 (0 : Int32) σ)) ∧ ((¬ (24 : Int32) ≤ x3) → (vp_in x3 24 ∧ (∀ x1_82 : Int64, x1_82 = (((31 : Int64) * x1) + (((σ 8 (x3).toNatClampNeg)).toInt64)) → (vp_in x3 24 ∧ (∀ x1_96 : Int64, x1_96 = (((31 : Int64) * x1_82) + (((σ 21 (x3).toNatClampNeg)).toInt64)) → (vp_in x3 24 ∧ (∀ x1_110 : Int64, x1_110 = (((31 : Int64) * x1_96) + (((σ 22 (x3).toNatClampNeg)).toInt64)) → (wX7_digest_63 Q n x1_110 (x3 + (1 : Int32)) σ)))))))))
def wX7_digest_33 (Q : Int64 → Mem → Prop) : Nat → Int64 → Int32 → Mem → Prop
  | 0, _, _, _ => False
  | n + 1, x1, x3, σ => ((((2 : Int32) ≤ x3) → (wX7_lives  σ (fun σ58 => (∃ N63, wX7_digest_63 Q N63 x1 (0 : Int32) σ58)))) ∧ ((¬ (2 : Int32) ≤ x3) → (wX7_readsText x3 σ (fun r45 σ45 => (∀ x1_50 : Int64, x1_50 = (((31 : Int64) * x1) + ((r45).toInt64)) → (wX7_digest_33 Q n x1_50 (x3 + (1 : Int32)) σ45))))))
def wX7_digest_6 (Q : Int64 → Mem → Prop) : Nat → Int64 → Int32 → Mem → Prop
  | 0, _, _, _ => False
  | n + 1, x1, x3, σ => ((((8 : Int32) ≤ x3) → (∃ N33, wX7_digest_33 Q N33 x1 (0 : Int32) σ)) ∧ ((¬ (8 : Int32) ≤ x3) → (wX7_count x3 σ (fun r19 σ19 => (∀ x1_24 : Int64, x1_24 = (((31 : Int64) * x1) + ((r19).toInt64)) → (wX7_digest_6 Q n x1_24 (x3 + (1 : Int32)) σ19))))))
def wX7_digest (σ : Mem) (Q : Int64 → Mem → Prop) : Prop := (∃ N6, wX7_digest_6 Q N6 (17 : Int64) (0 : Int32) σ)
set_option maxHeartbeats 4000000 in
set_option maxRecDepth 100000 in
theorem kX7_digest_260 {p : Program} {l : Launch} {e : Env} {s : State} {m : MethodId} {args : Array Value} {below : List Frame} {meth : Method} {c : Code} {E : wE} (hE : wM E) (C : Cx p s m args c cX7_digest 5 RX7 E (wA E)) (hr : meth.sig.returnType = (some .long)) (hlk : meth.locks = false) {Q : Int64 → Mem → Prop} : ∀ (x1 : Int64) (σ : Mem) (H : Heap) (locs : List Loc) (ls : Array Slot), wd E (wA E) s σ H locs → lv_has ls 5 [(0, .ref (gE E 0)), (1, .long x1)] → wX7_digest_260 Q x1 σ → W p l e rX7_digest s m args below meth c H locs 0 0 (MQ below (wQl E Q) args s 0 0 (wA E)) (F0 m 260 ls []) := by
  have hx := C.1.1
  have hb := C.1.2.1
  intro x1 σ  H locs ls hw hl h
  unfold wX7_digest_260 at h
  refine lv_ldc2 (v := 31) hx hb C.1.2.2.2.1 (C.1.2.2.2.2 _ ck_X7_341) (dAt dX7_digest 155 rfl) ?_
  refine lv_lload_n hx hb (dAt dX7_digest 156 rfl) rfl (lv_at hl 1 rfl) ?_
  refine lv_lmul hx hb (dAt dX7_digest 157 rfl) ?_
  refine lv_aload_n hx hb (dAt dX7_digest 158 rfl) rfl (lv_at hl 0 rfl) ?_
  refine lv_iconst (v := 0) hx hb (dAt dX7_digest 159 rfl) (by decide) ?_
  refine x_calli C hw (x_runV (As := [.int (0 : Int32)]) (rest := [.long ((31 : Int64) * x1)]) C hw (kX7_runBy l E hE (0 : Int32) σ _ h) mtX7_runBy lk_X7_250 (hE.1 0) (nM hE (by decide)) rfl ⟨by decide, by decide⟩ ⟨rfl, rfl⟩ rfl hl.1 rfl (Nat.le_of_ble_eq_true rfl) (dAt dX7_digest 160 rfl) ⟨Nat.zero_le _, Nat.zero_le _⟩) (fun r267 σ267 H locs h hw => ?_)
  refine lv_i2l hx hb (dAt dX7_digest 161 rfl) rfl ?_
  refine lv_ladd hx hb (dAt dX7_digest 162 rfl) ?_
  refine lv_topl (fun x1_272 ex1_272 => ?_)
  replace h := h x1_272 ex1_272
  refine lv_lstore_n (lv' := [(1, .long x1_272), (0, .ref (gE E 0))]) hx hb (dAt dX7_digest 163 rfl) rfl hl (by decide) rfl (fun ls hl => ?_)
  refine lv_ldc2 (v := 31) hx hb C.1.2.2.2.1 (C.1.2.2.2.2 _ ck_X7_341) (dAt dX7_digest 164 rfl) ?_
  refine lv_lload_n hx hb (dAt dX7_digest 165 rfl) rfl (lv_at hl 0 rfl) ?_
  refine lv_lmul hx hb (dAt dX7_digest 166 rfl) ?_
  refine lv_aload_n hx hb (dAt dX7_digest 167 rfl) rfl (lv_at hl 1 rfl) ?_
  refine lv_iconst (v := 1) hx hb (dAt dX7_digest 168 rfl) (by decide) ?_
  refine x_calli C hw (x_runV (As := [.int (1 : Int32)]) (rest := [.long ((31 : Int64) * x1_272)]) C hw (kX7_runBy l E hE (1 : Int32) σ267 _ h) mtX7_runBy lk_X7_250 (hE.1 0) (nM hE (by decide)) rfl ⟨by decide, by decide⟩ ⟨rfl, rfl⟩ rfl hl.1 rfl (Nat.le_of_ble_eq_true rfl) (dAt dX7_digest 169 rfl) ⟨Nat.zero_le _, Nat.zero_le _⟩) (fun r280 σ280 H locs h hw => ?_)
  refine lv_i2l hx hb (dAt dX7_digest 170 rfl) rfl ?_
  refine lv_ladd hx hb (dAt dX7_digest 171 rfl) ?_
  refine lv_topl (fun x1_285 ex1_285 => ?_)
  replace h := h x1_285 ex1_285
  refine lv_lstore_n (lv' := [(1, .long x1_285), (0, .ref (gE E 0))]) hx hb (dAt dX7_digest 172 rfl) rfl hl (by decide) rfl (fun ls hl => ?_)
  refine lv_ldc2 (v := 31) hx hb C.1.2.2.2.1 (C.1.2.2.2.2 _ ck_X7_341) (dAt dX7_digest 173 rfl) ?_
  refine lv_lload_n hx hb (dAt dX7_digest 174 rfl) rfl (lv_at hl 0 rfl) ?_
  refine lv_lmul hx hb (dAt dX7_digest 175 rfl) ?_
  refine lv_aload_n hx hb (dAt dX7_digest 176 rfl) rfl (lv_at hl 1 rfl) ?_
  refine x_calli C hw (x_runV (As := []) (rest := [.long ((31 : Int64) * x1_285)]) C hw (kX7_bareNow l E hE  σ280 _ h) mtX7_bareNow lk_X7_253 (hE.1 0) (nM hE (by decide)) rfl ⟨by decide, by decide⟩ ⟨rfl, rfl⟩ rfl hl.1 rfl (Nat.le_of_ble_eq_true rfl) (dAt dX7_digest 177 rfl) ⟨Nat.zero_le _, Nat.zero_le _⟩) (fun r292 σ292 H locs h hw => ?_)
  refine lv_i2l hx hb (dAt dX7_digest 178 rfl) rfl ?_
  refine lv_ladd hx hb (dAt dX7_digest 179 rfl) ?_
  refine lv_topl (fun x1_297 ex1_297 => ?_)
  replace h := h x1_297 ex1_297
  refine lv_lstore_n (lv' := [(1, .long x1_297), (0, .ref (gE E 0))]) hx hb (dAt dX7_digest 180 rfl) rfl hl (by decide) rfl (fun ls hl => ?_)
  refine lv_ldc2 (v := 31) hx hb C.1.2.2.2.1 (C.1.2.2.2.2 _ ck_X7_341) (dAt dX7_digest 181 rfl) ?_
  refine lv_lload_n hx hb (dAt dX7_digest 182 rfl) rfl (lv_at hl 0 rfl) ?_
  refine lv_lmul hx hb (dAt dX7_digest 183 rfl) ?_
  refine lv_aload_n hx hb (dAt dX7_digest 184 rfl) rfl (lv_at hl 1 rfl) ?_
  refine x_calli C hw (x_runV (As := []) (rest := [.long ((31 : Int64) * x1_297)]) C hw (kX7_topNow l E hE  σ292 _ h) mtX7_topNow lk_X7_259 (hE.1 0) (nM hE (by decide)) rfl ⟨by decide, by decide⟩ ⟨rfl, rfl⟩ rfl hl.1 rfl (Nat.le_of_ble_eq_true rfl) (dAt dX7_digest 185 rfl) ⟨Nat.zero_le _, Nat.zero_le _⟩) (fun r304 σ304 H locs h hw => ?_)
  refine lv_i2l hx hb (dAt dX7_digest 186 rfl) rfl ?_
  refine lv_ladd hx hb (dAt dX7_digest 187 rfl) ?_
  refine lv_topl (fun x1_309 ex1_309 => ?_)
  replace h := h x1_309 ex1_309
  refine lv_lstore_n (lv' := [(1, .long x1_309), (0, .ref (gE E 0))]) hx hb (dAt dX7_digest 188 rfl) rfl hl (by decide) rfl (fun ls hl => ?_)
  refine lv_ldc2 (v := 31) hx hb C.1.2.2.2.1 (C.1.2.2.2.2 _ ck_X7_341) (dAt dX7_digest 189 rfl) ?_
  refine lv_lload_n hx hb (dAt dX7_digest 190 rfl) rfl (lv_at hl 0 rfl) ?_
  refine lv_lmul hx hb (dAt dX7_digest 191 rfl) ?_
  refine lv_aload_n hx hb (dAt dX7_digest 192 rfl) rfl (lv_at hl 1 rfl) ?_
  refine x_calli C hw (x_runV (As := []) (rest := [.long ((31 : Int64) * x1_309)]) C hw (kX7_lacksNow l E hE  σ304 _ h) mtX7_lacksNow lk_X7_262 (hE.1 0) (nM hE (by decide)) rfl ⟨by decide, by decide⟩ ⟨rfl, rfl⟩ rfl hl.1 rfl (Nat.le_of_ble_eq_true rfl) (dAt dX7_digest 193 rfl) ⟨Nat.zero_le _, Nat.zero_le _⟩) (fun r316 σ316 H locs h hw => ?_)
  refine lv_i2l hx hb (dAt dX7_digest 194 rfl) rfl ?_
  refine lv_ladd hx hb (dAt dX7_digest 195 rfl) ?_
  refine lv_topl (fun x1_321 ex1_321 => ?_)
  replace h := h x1_321 ex1_321
  refine lv_lstore_n (lv' := [(1, .long x1_321), (0, .ref (gE E 0))]) hx hb (dAt dX7_digest 196 rfl) rfl hl (by decide) rfl (fun ls hl => ?_)
  refine lv_ldc2 (v := 31) hx hb C.1.2.2.2.1 (C.1.2.2.2.2 _ ck_X7_341) (dAt dX7_digest 197 rfl) ?_
  refine lv_lload_n hx hb (dAt dX7_digest 198 rfl) rfl (lv_at hl 0 rfl) ?_
  refine lv_lmul hx hb (dAt dX7_digest 199 rfl) ?_
  refine lv_aload_n hx hb (dAt dX7_digest 200 rfl) rfl (lv_at hl 1 rfl) ?_
  refine lv_iconst (v := -1) hx hb (dAt dX7_digest 201 rfl) (by decide) ?_
  refine x_calli C hw (x_runV (As := [.int (-1 : Int32)]) (rest := [.long ((31 : Int64) * x1_321)]) C hw (kX7_spareBy l E hE (-1 : Int32) σ316 _ h) mtX7_spareBy lk_X7_285 (hE.1 0) (nM hE (by decide)) rfl ⟨by decide, by decide⟩ ⟨rfl, rfl⟩ rfl hl.1 rfl (Nat.le_of_ble_eq_true rfl) (dAt dX7_digest 202 rfl) ⟨Nat.zero_le _, Nat.zero_le _⟩) (fun r329 σ329 H locs h hw => ?_)
  refine lv_i2l hx hb (dAt dX7_digest 203 rfl) rfl ?_
  refine lv_ladd hx hb (dAt dX7_digest 204 rfl) ?_
  refine lv_topl (fun x1_334 ex1_334 => ?_)
  replace h := h x1_334 ex1_334
  refine lv_lstore_n (lv' := [(1, .long x1_334), (0, .ref (gE E 0))]) hx hb (dAt dX7_digest 205 rfl) rfl hl (by decide) rfl (fun ls hl => ?_)
  refine lv_ldc2 (v := 31) hx hb C.1.2.2.2.1 (C.1.2.2.2.2 _ ck_X7_341) (dAt dX7_digest 206 rfl) ?_
  refine lv_lload_n hx hb (dAt dX7_digest 207 rfl) rfl (lv_at hl 0 rfl) ?_
  refine lv_lmul hx hb (dAt dX7_digest 208 rfl) ?_
  refine lv_aload_n hx hb (dAt dX7_digest 209 rfl) rfl (lv_at hl 1 rfl) ?_
  refine lv_iconst (v := 0) hx hb (dAt dX7_digest 210 rfl) (by decide) ?_
  refine x_calli C hw (x_runV (As := [.int (0 : Int32)]) (rest := [.long ((31 : Int64) * x1_334)]) C hw (kX7_spareBy l E hE (0 : Int32) σ329 _ h) mtX7_spareBy lk_X7_285 (hE.1 0) (nM hE (by decide)) rfl ⟨by decide, by decide⟩ ⟨rfl, rfl⟩ rfl hl.1 rfl (Nat.le_of_ble_eq_true rfl) (dAt dX7_digest 211 rfl) ⟨Nat.zero_le _, Nat.zero_le _⟩) (fun r342 σ342 H locs h hw => ?_)
  refine lv_i2l hx hb (dAt dX7_digest 212 rfl) rfl ?_
  refine lv_ladd hx hb (dAt dX7_digest 213 rfl) ?_
  refine lv_topl (fun x1_347 ex1_347 => ?_)
  replace h := h x1_347 ex1_347
  refine lv_lstore_n (lv' := [(1, .long x1_347), (0, .ref (gE E 0))]) hx hb (dAt dX7_digest 214 rfl) rfl hl (by decide) rfl (fun ls hl => ?_)
  refine lv_ldc2 (v := 31) hx hb C.1.2.2.2.1 (C.1.2.2.2.2 _ ck_X7_341) (dAt dX7_digest 215 rfl) ?_
  refine lv_lload_n hx hb (dAt dX7_digest 216 rfl) rfl (lv_at hl 0 rfl) ?_
  refine lv_lmul hx hb (dAt dX7_digest 217 rfl) ?_
  refine lv_aload_n hx hb (dAt dX7_digest 218 rfl) rfl (lv_at hl 1 rfl) ?_
  refine x_calli C hw (x_runV (As := []) (rest := [.long ((31 : Int64) * x1_347)]) C hw (kX7_neverNow l E hE  σ342 _ h) mtX7_neverNow lk_X7_297 (hE.1 0) (nM hE (by decide)) rfl ⟨by decide, by decide⟩ ⟨rfl, rfl⟩ rfl hl.1 rfl (Nat.le_of_ble_eq_true rfl) (dAt dX7_digest 219 rfl) ⟨Nat.zero_le _, Nat.zero_le _⟩) (fun r354 σ354 H locs h hw => ?_)
  refine lv_i2l hx hb (dAt dX7_digest 220 rfl) rfl ?_
  refine lv_ladd hx hb (dAt dX7_digest 221 rfl) ?_
  refine lv_topl (fun x1_359 ex1_359 => ?_)
  replace h := h x1_359 ex1_359
  refine lv_lstore_n (lv' := [(1, .long x1_359), (0, .ref (gE E 0))]) hx hb (dAt dX7_digest 222 rfl) rfl hl (by decide) rfl (fun ls hl => ?_)
  refine lv_ldc2 (v := 31) hx hb C.1.2.2.2.1 (C.1.2.2.2.2 _ ck_X7_341) (dAt dX7_digest 223 rfl) ?_
  refine lv_lload_n hx hb (dAt dX7_digest 224 rfl) rfl (lv_at hl 0 rfl) ?_
  refine lv_lmul hx hb (dAt dX7_digest 225 rfl) ?_
  refine lv_aload_n hx hb (dAt dX7_digest 226 rfl) rfl (lv_at hl 1 rfl) ?_
  refine x_calli C hw (x_runV (As := []) (rest := [.long ((31 : Int64) * x1_359)]) C hw (kX7_lengthsNow l E hE  σ354 _ h) mtX7_lengthsNow lk_X7_303 (hE.1 0) (nM hE (by decide)) rfl ⟨by decide, by decide⟩ ⟨rfl, rfl⟩ rfl hl.1 rfl (Nat.le_of_ble_eq_true rfl) (dAt dX7_digest 227 rfl) ⟨Nat.zero_le _, Nat.zero_le _⟩) (fun r366 σ366 H locs h hw => ?_)
  refine lv_i2l hx hb (dAt dX7_digest 228 rfl) rfl ?_
  refine lv_ladd hx hb (dAt dX7_digest 229 rfl) ?_
  refine lv_topl (fun x1_371 ex1_371 => ?_)
  replace h := h x1_371 ex1_371
  refine lv_lstore_n (lv' := [(1, .long x1_371), (0, .ref (gE E 0))]) hx hb (dAt dX7_digest 230 rfl) rfl hl (by decide) rfl (fun ls hl => ?_)
  refine lv_ldc2 (v := 31) hx hb C.1.2.2.2.1 (C.1.2.2.2.2 _ ck_X7_341) (dAt dX7_digest 231 rfl) ?_
  refine lv_lload_n hx hb (dAt dX7_digest 232 rfl) rfl (lv_at hl 0 rfl) ?_
  refine lv_lmul hx hb (dAt dX7_digest 233 rfl) ?_
  refine lv_aload_n hx hb (dAt dX7_digest 234 rfl) rfl (lv_at hl 1 rfl) ?_
  refine x_calli C hw (x_runV (As := []) (rest := [.long ((31 : Int64) * x1_371)]) C hw (kX7_askNow l E hE  σ366 _ h) mtX7_askNow lk_X7_309 (hE.1 0) (nM hE (by decide)) rfl ⟨by decide, by decide⟩ ⟨rfl, rfl⟩ rfl hl.1 rfl (Nat.le_of_ble_eq_true rfl) (dAt dX7_digest 235 rfl) ⟨Nat.zero_le _, Nat.zero_le _⟩) (fun r378 σ378 H locs h hw => ?_)
  refine lv_i2l hx hb (dAt dX7_digest 236 rfl) rfl ?_
  refine lv_ladd hx hb (dAt dX7_digest 237 rfl) ?_
  refine lv_topl (fun x1_383 ex1_383 => ?_)
  replace h := h x1_383 ex1_383
  refine lv_lstore_n (lv' := [(1, .long x1_383), (0, .ref (gE E 0))]) hx hb (dAt dX7_digest 238 rfl) rfl hl (by decide) rfl (fun ls hl => ?_)
  refine lv_ldc2 (v := 31) hx hb C.1.2.2.2.1 (C.1.2.2.2.2 _ ck_X7_341) (dAt dX7_digest 239 rfl) ?_
  refine lv_lload_n hx hb (dAt dX7_digest 240 rfl) rfl (lv_at hl 0 rfl) ?_
  refine lv_lmul hx hb (dAt dX7_digest 241 rfl) ?_
  refine lv_aload_n hx hb (dAt dX7_digest 242 rfl) rfl (lv_at hl 1 rfl) ?_
  refine lv_bipush (v := 7) hx hb (dAt dX7_digest 243 rfl) (by decide) ?_
  refine lv_bipush (v := 18) hx hb (dAt dX7_digest 244 rfl) (by decide) ?_
  refine lv_iconst (v := 0) hx hb (dAt dX7_digest 245 rfl) (by decide) ?_
  refine x_calli C hw (x_runV (As := [.int (7 : Int32), .int (18 : Int32), .int (0 : Int32)]) (rest := [.long ((31 : Int64) * x1_383)]) C hw (kX7_dancesOf l E hE (7 : Int32) (18 : Int32) (0 : Int32) σ378 _ h) mtX7_dancesOf lk_X7_335 (hE.1 0) (nM hE (by decide)) rfl ⟨by decide, by decide⟩ ⟨rfl, rfl⟩ rfl hl.1 rfl (Nat.le_of_ble_eq_true rfl) (dAt dX7_digest 246 rfl) ⟨Nat.zero_le _, Nat.zero_le _⟩) (fun r395 σ395 H locs h hw => ?_)
  refine lv_i2l hx hb (dAt dX7_digest 247 rfl) rfl ?_
  refine lv_ladd hx hb (dAt dX7_digest 248 rfl) ?_
  refine lv_topl (fun x1_400 ex1_400 => ?_)
  replace h := h x1_400 ex1_400
  refine lv_lstore_n (lv' := [(1, .long x1_400), (0, .ref (gE E 0))]) hx hb (dAt dX7_digest 249 rfl) rfl hl (by decide) rfl (fun ls hl => ?_)
  refine lv_ldc2 (v := 31) hx hb C.1.2.2.2.1 (C.1.2.2.2.2 _ ck_X7_341) (dAt dX7_digest 250 rfl) ?_
  refine lv_lload_n hx hb (dAt dX7_digest 251 rfl) rfl (lv_at hl 0 rfl) ?_
  refine lv_lmul hx hb (dAt dX7_digest 252 rfl) ?_
  refine lv_aload_n hx hb (dAt dX7_digest 253 rfl) rfl (lv_at hl 1 rfl) ?_
  refine lv_bipush (v := 7) hx hb (dAt dX7_digest 254 rfl) (by decide) ?_
  refine lv_bipush (v := 18) hx hb (dAt dX7_digest 255 rfl) (by decide) ?_
  refine lv_iconst (v := 1) hx hb (dAt dX7_digest 256 rfl) (by decide) ?_
  refine x_calli C hw (x_runV (As := [.int (7 : Int32), .int (18 : Int32), .int (1 : Int32)]) (rest := [.long ((31 : Int64) * x1_400)]) C hw (kX7_dancesOf l E hE (7 : Int32) (18 : Int32) (1 : Int32) σ395 _ h) mtX7_dancesOf lk_X7_335 (hE.1 0) (nM hE (by decide)) rfl ⟨by decide, by decide⟩ ⟨rfl, rfl⟩ rfl hl.1 rfl (Nat.le_of_ble_eq_true rfl) (dAt dX7_digest 257 rfl) ⟨Nat.zero_le _, Nat.zero_le _⟩) (fun r412 σ412 H locs h hw => ?_)
  refine lv_i2l hx hb (dAt dX7_digest 258 rfl) rfl ?_
  refine lv_ladd hx hb (dAt dX7_digest 259 rfl) ?_
  exact x_lret C hw hr hlk h (dAt dX7_digest 260 rfl)
set_option maxHeartbeats 4000000 in
set_option maxRecDepth 100000 in
theorem kX7_digest_236 {p : Program} {l : Launch} {e : Env} {s : State} {m : MethodId} {args : Array Value} {below : List Frame} {meth : Method} {c : Code} {E : wE} (hE : wM E) (C : Cx p s m args c cX7_digest 5 RX7 E (wA E)) (hr : meth.sig.returnType = (some .long)) (hlk : meth.locks = false) {Q : Int64 → Mem → Prop} : ∀ (n : Nat) (x1 : Int64) (x3 : Int32) (σ : Mem) (H : Heap) (locs : List Loc) (ls : Array Slot), wd E (wA E) s σ H locs → lv_has ls 5 [(0, .ref (gE E 0)), (1, .long x1), (3, .int x3)] → wX7_digest_236 Q n x1 x3 σ → W p l e rX7_digest s m args below meth c H locs 0 0 (MQ below (wQl E Q) args s 0 0 (wA E)) (F0 m 236 ls []) := by
  have hx := C.1.1
  have hb := C.1.2.1
  intro n
  induction n with
  | zero =>
    intro x1 x3 σ  H locs ls hw hl h
    exact h.elim
  | succ n ih =>
    intro x1 x3 σ  H locs ls hw hl h
    rw [wX7_digest_236] at h
    refine lv_iload_n hx hb (dAt dX7_digest 141 rfl) rfl (lv_at hl 2 rfl) ?_
    refine lv_iconst (v := 3) hx hb (dAt dX7_digest 142 rfl) (by decide) ?_
    refine lv_icmp_ge (tgt := 260) hx hb (dAt dX7_digest 143 rfl) (by decide) (fun c238 => ?_) (fun c238 => ?_)
    · replace h := h.1 c238
      exact kX7_digest_260 hE C hr hlk x1 σ  _ _ _ hw (lv_sub hl [0, 1] rfl) h
    · replace h := h.2 c238
      refine lv_ldc2 (v := 31) hx hb C.1.2.2.2.1 (C.1.2.2.2.2 _ ck_X7_341) (dAt dX7_digest 144 rfl) ?_
      refine lv_lload_n hx hb (dAt dX7_digest 145 rfl) rfl (lv_at hl 1 rfl) ?_
      refine lv_lmul hx hb (dAt dX7_digest 146 rfl) ?_
      refine lv_aload_n hx hb (dAt dX7_digest 147 rfl) rfl (lv_at hl 0 rfl) ?_
      refine lv_iload_n hx hb (dAt dX7_digest 148 rfl) rfl (lv_at hl 2 rfl) ?_
      refine x_calli C hw (x_runV (As := [.int x3]) (rest := [.long ((31 : Int64) * x1)]) C hw (kX7_sumBy l E hE x3 σ _ h) mtX7_sumBy lk_X7_244 (hE.1 0) (nM hE (by decide)) rfl ⟨by decide, by decide⟩ ⟨rfl, rfl⟩ rfl hl.1 rfl (Nat.le_of_ble_eq_true rfl) (dAt dX7_digest 149 rfl) ⟨Nat.zero_le _, Nat.zero_le _⟩) (fun r248 σ248 H locs h hw => ?_)
      refine lv_i2l hx hb (dAt dX7_digest 150 rfl) rfl ?_
      refine lv_ladd hx hb (dAt dX7_digest 151 rfl) ?_
      refine lv_topl (fun x1_253 ex1_253 => ?_)
      replace h := h x1_253 ex1_253
      refine lv_lstore_n (lv' := [(1, .long x1_253), (0, .ref (gE E 0)), (3, .int x3)]) hx hb (dAt dX7_digest 152 rfl) rfl hl (by decide) rfl (fun ls hl => ?_)
      refine lv_iinc (v := (x3 + (1 : Int32))) (lv' := [(3, .int (x3 + (1 : Int32))), (1, .long x1_253), (0, .ref (gE E 0))]) hx hb (dAt dX7_digest 153 rfl) hl (k := 2) rfl rfl (by decide) rfl (fun ls hl => ?_)
      refine lv_goto (tgt := 236) hx hb (dAt dX7_digest 154 rfl) (by decide) ?_
      exact ih x1_253 (x3 + (1 : Int32)) σ248  _ _ _ hw (lv_sub hl [2, 1, 0] rfl) h
set_option maxHeartbeats 4000000 in
set_option maxRecDepth 100000 in
theorem kX7_digest_211 {p : Program} {l : Launch} {e : Env} {s : State} {m : MethodId} {args : Array Value} {below : List Frame} {meth : Method} {c : Code} {E : wE} (hE : wM E) (C : Cx p s m args c cX7_digest 5 RX7 E (wA E)) (hr : meth.sig.returnType = (some .long)) (hlk : meth.locks = false) {Q : Int64 → Mem → Prop} : ∀ (x1 : Int64) (σ : Mem) (H : Heap) (locs : List Loc) (ls : Array Slot), wd E (wA E) s σ H locs → lv_has ls 5 [(0, .ref (gE E 0)), (1, .long x1)] → wX7_digest_211 Q x1 σ → W p l e rX7_digest s m args below meth c H locs 0 0 (MQ below (wQl E Q) args s 0 0 (wA E)) (F0 m 211 ls []) := by
  have hx := C.1.1
  have hb := C.1.2.1
  intro x1 σ  H locs ls hw hl h
  unfold wX7_digest_211 at h
  refine lv_aload_n hx hb (dAt dX7_digest 126 rfl) rfl (lv_at hl 0 rfl) ?_
  refine lv_aload_n hx hb (dAt dX7_digest 127 rfl) rfl (lv_at hl 0 rfl) ?_
  refine lv_aload_n hx hb (dAt dX7_digest 128 rfl) rfl (lv_at hl 0 rfl) ?_
  refine lv_lload_n hx hb (dAt dX7_digest 129 rfl) rfl (lv_at hl 1 rfl) ?_
  refine lv_iconst (v := 3) hx hb (dAt dX7_digest 130 rfl) (by decide) ?_
  refine x_calll C hw (x_runV (As := [.long x1, .int (3 : Int32)]) (rest := [.ref (gE E 0), .ref (gE E 0)]) C hw (kX7_tellsPlan l E hE x1 (3 : Int32) σ _ h) mtX7_tellsPlan lk_X7_356 (hE.1 0) (nM hE (by decide)) rfl ⟨by decide, by decide⟩ ⟨rfl, rfl⟩ rfl hl.1 rfl (Nat.le_of_ble_eq_true rfl) (dAt dX7_digest 131 rfl) ⟨Nat.zero_le _, Nat.zero_le _⟩) (fun r216 σ216 H locs h hw => ?_)
  refine lv_bipush (v := 11) hx hb (dAt dX7_digest 132 rfl) (by decide) ?_
  refine x_calll C hw (x_runV (As := [.long r216, .int (11 : Int32)]) (rest := [.ref (gE E 0)]) C hw (kX7_tellsPlan l E hE r216 (11 : Int32) σ216 _ h) mtX7_tellsPlan lk_X7_356 (hE.1 0) (nM hE (by decide)) rfl ⟨by decide, by decide⟩ ⟨rfl, rfl⟩ rfl hl.1 rfl (Nat.le_of_ble_eq_true rfl) (dAt dX7_digest 133 rfl) ⟨Nat.zero_le _, Nat.zero_le _⟩) (fun r221 σ221 H locs h hw => ?_)
  refine lv_bipush (v := 23) hx hb (dAt dX7_digest 134 rfl) (by decide) ?_
  refine x_calll C hw (x_runV (As := [.long r221, .int (23 : Int32)]) (rest := []) C hw (kX7_tellsPlan l E hE r221 (23 : Int32) σ221 _ h) mtX7_tellsPlan lk_X7_356 (hE.1 0) (nM hE (by decide)) rfl ⟨by decide, by decide⟩ ⟨rfl, rfl⟩ rfl hl.1 rfl (Nat.le_of_ble_eq_true rfl) (dAt dX7_digest 135 rfl) ⟨Nat.zero_le _, Nat.zero_le _⟩) (fun r226 σ226 H locs h hw => ?_)
  refine lv_lstore_n (lv' := [(1, .long r226), (0, .ref (gE E 0))]) hx hb (dAt dX7_digest 136 rfl) rfl hl (by decide) rfl (fun ls hl => ?_)
  refine lv_aload_n hx hb (dAt dX7_digest 137 rfl) rfl (lv_at hl 1 rfl) ?_
  refine x_callv C hw (x_runV (As := []) (rest := []) C hw (kX7_lives l E hE  σ226 _ h) mtX7_lives lk_X7_216 (hE.1 0) (nM hE (by decide)) rfl ⟨by decide, by decide⟩ ⟨rfl, rfl⟩ rfl hl.1 rfl (Nat.le_of_ble_eq_true rfl) (dAt dX7_digest 138 rfl) ⟨Nat.zero_le _, Nat.zero_le _⟩) (fun σ231 H locs h hw => ?_)
  refine lv_iconst (v := 0) hx hb (dAt dX7_digest 139 rfl) (by decide) ?_
  refine lv_istore_n (lv' := [(3, .int (0 : Int32)), (1, .long r226), (0, .ref (gE E 0))]) hx hb (dAt dX7_digest 140 rfl) rfl hl (by decide) rfl (fun ls hl => ?_)
  obtain ⟨n236, h⟩ := h
  exact kX7_digest_236 hE C hr hlk n236 r226 (0 : Int32) σ231  _ _ _ hw (lv_sub hl [2, 1, 0] rfl) h
set_option maxHeartbeats 4000000 in
set_option maxRecDepth 100000 in
theorem kX7_digest_190 {p : Program} {l : Launch} {e : Env} {s : State} {m : MethodId} {args : Array Value} {below : List Frame} {meth : Method} {c : Code} {E : wE} (hE : wM E) (C : Cx p s m args c cX7_digest 5 RX7 E (wA E)) (hr : meth.sig.returnType = (some .long)) (hlk : meth.locks = false) {Q : Int64 → Mem → Prop} : ∀ (n : Nat) (x1 : Int64) (x3 : Int32) (σ : Mem) (H : Heap) (locs : List Loc) (ls : Array Slot), wd E (wA E) s σ H locs → lv_has ls 5 [(0, .ref (gE E 0)), (1, .long x1), (3, .int x3)] → wX7_digest_190 Q n x1 x3 σ → W p l e rX7_digest s m args below meth c H locs 0 0 (MQ below (wQl E Q) args s 0 0 (wA E)) (F0 m 190 ls []) := by
  have hx := C.1.1
  have hb := C.1.2.1
  intro n
  induction n with
  | zero =>
    intro x1 x3 σ  H locs ls hw hl h
    exact h.elim
  | succ n ih =>
    intro x1 x3 σ  H locs ls hw hl h
    rw [wX7_digest_190] at h
    refine lv_iload_n hx hb (dAt dX7_digest 115 rfl) rfl (lv_at hl 2 rfl) ?_
    refine lv_aload_n hx hb (dAt dX7_digest 116 rfl) rfl (lv_at hl 0 rfl) ?_
    refine x_geti C hw fl_X7_129 (hE.1 0) (nM hE (by decide)) rfl (dAt dX7_digest 117 rfl) ?_
    refine lv_icmp_ge (tgt := 211) hx hb (dAt dX7_digest 118 rfl) (by decide) (fun c195 => ?_) (fun c195 => ?_)
    · replace h := h.1 c195
      exact kX7_digest_211 hE C hr hlk x1 σ  _ _ _ hw (lv_sub hl [0, 1] rfl) h
    · replace h := h.2 c195
      refine lv_aload_n hx hb (dAt dX7_digest 119 rfl) rfl (lv_at hl 0 rfl) ?_
      refine lv_lload_n hx hb (dAt dX7_digest 120 rfl) rfl (lv_at hl 1 rfl) ?_
      refine lv_iload_n hx hb (dAt dX7_digest 121 rfl) rfl (lv_at hl 2 rfl) ?_
      refine x_calll C hw (x_runV (As := [.long x1, .int x3]) (rest := []) C hw (kX7_tellsDancer l E hE x1 x3 σ _ h) mtX7_tellsDancer lk_X7_352 (hE.1 0) (nM hE (by decide)) rfl ⟨by decide, by decide⟩ ⟨rfl, rfl⟩ rfl hl.1 rfl (Nat.le_of_ble_eq_true rfl) (dAt dX7_digest 122 rfl) ⟨Nat.zero_le _, Nat.zero_le _⟩) (fun r201 σ201 H locs h hw => ?_)
      refine lv_lstore_n (lv' := [(1, .long r201), (0, .ref (gE E 0)), (3, .int x3)]) hx hb (dAt dX7_digest 123 rfl) rfl hl (by decide) rfl (fun ls hl => ?_)
      refine lv_iinc (v := (x3 + (1 : Int32))) (lv' := [(3, .int (x3 + (1 : Int32))), (1, .long r201), (0, .ref (gE E 0))]) hx hb (dAt dX7_digest 124 rfl) hl (k := 2) rfl rfl (by decide) rfl (fun ls hl => ?_)
      refine lv_goto (tgt := 190) hx hb (dAt dX7_digest 125 rfl) (by decide) ?_
      exact ih r201 (x3 + (1 : Int32)) σ201  _ _ _ hw (lv_sub hl [2, 1, 0] rfl) h
set_option maxHeartbeats 4000000 in
set_option maxRecDepth 100000 in
theorem kX7_digest_163 {p : Program} {l : Launch} {e : Env} {s : State} {m : MethodId} {args : Array Value} {below : List Frame} {meth : Method} {c : Code} {E : wE} (hE : wM E) (C : Cx p s m args c cX7_digest 5 RX7 E (wA E)) (hr : meth.sig.returnType = (some .long)) (hlk : meth.locks = false) {Q : Int64 → Mem → Prop} : ∀ (n : Nat) (x1 : Int64) (x3 : Int32) (σ : Mem) (H : Heap) (locs : List Loc) (ls : Array Slot), wd E (wA E) s σ H locs → lv_has ls 5 [(0, .ref (gE E 0)), (1, .long x1), (3, .int x3)] → wX7_digest_163 Q n x1 x3 σ → W p l e rX7_digest s m args below meth c H locs 0 0 (MQ below (wQl E Q) args s 0 0 (wA E)) (F0 m 163 ls []) := by
  have hx := C.1.1
  have hb := C.1.2.1
  intro n
  induction n with
  | zero =>
    intro x1 x3 σ  H locs ls hw hl h
    exact h.elim
  | succ n ih =>
    intro x1 x3 σ  H locs ls hw hl h
    rw [wX7_digest_163] at h
    refine lv_iload_n hx hb (dAt dX7_digest 99 rfl) rfl (lv_at hl 2 rfl) ?_
    refine lv_bipush (v := 10) hx hb (dAt dX7_digest 100 rfl) (by decide) ?_
    refine lv_icmp_ge (tgt := 188) hx hb (dAt dX7_digest 101 rfl) (by decide) (fun c166 => ?_) (fun c166 => ?_)
    · replace h := h.1 c166
      refine lv_iconst (v := 0) hx hb (dAt dX7_digest 113 rfl) (by decide) ?_
      refine lv_istore_n (lv' := [(3, .int (0 : Int32)), (0, .ref (gE E 0)), (1, .long x1)]) hx hb (dAt dX7_digest 114 rfl) rfl hl (by decide) rfl (fun ls hl => ?_)
      obtain ⟨n190, h⟩ := h
      exact kX7_digest_190 hE C hr hlk n190 x1 (0 : Int32) σ  _ _ _ hw (lv_sub hl [1, 2, 0] rfl) h
    · replace h := h.2 c166
      refine lv_ldc2 (v := 31) hx hb C.1.2.2.2.1 (C.1.2.2.2.2 _ ck_X7_341) (dAt dX7_digest 102 rfl) ?_
      refine lv_lload_n hx hb (dAt dX7_digest 103 rfl) rfl (lv_at hl 1 rfl) ?_
      refine lv_lmul hx hb (dAt dX7_digest 104 rfl) ?_
      refine lv_aload_n hx hb (dAt dX7_digest 105 rfl) rfl (lv_at hl 0 rfl) ?_
      refine lv_iload_n hx hb (dAt dX7_digest 106 rfl) rfl (lv_at hl 2 rfl) ?_
      refine x_calli C hw (x_runV (As := [.int x3]) (rest := [.long ((31 : Int64) * x1)]) C hw (kX7_showsBy l E hE x3 σ _ h) mtX7_showsBy lk_X7_238 (hE.1 0) (nM hE (by decide)) rfl ⟨by decide, by decide⟩ ⟨rfl, rfl⟩ rfl hl.1 rfl (Nat.le_of_ble_eq_true rfl) (dAt dX7_digest 107 rfl) ⟨Nat.zero_le _, Nat.zero_le _⟩) (fun r176 σ176 H locs h hw => ?_)
      refine lv_i2l hx hb (dAt dX7_digest 108 rfl) rfl ?_
      refine lv_ladd hx hb (dAt dX7_digest 109 rfl) ?_
      refine lv_topl (fun x1_181 ex1_181 => ?_)
      replace h := h x1_181 ex1_181
      refine lv_lstore_n (lv' := [(1, .long x1_181), (0, .ref (gE E 0)), (3, .int x3)]) hx hb (dAt dX7_digest 110 rfl) rfl hl (by decide) rfl (fun ls hl => ?_)
      refine lv_iinc (v := (x3 + (1 : Int32))) (lv' := [(3, .int (x3 + (1 : Int32))), (1, .long x1_181), (0, .ref (gE E 0))]) hx hb (dAt dX7_digest 111 rfl) hl (k := 2) rfl rfl (by decide) rfl (fun ls hl => ?_)
      refine lv_goto (tgt := 163) hx hb (dAt dX7_digest 112 rfl) (by decide) ?_
      exact ih x1_181 (x3 + (1 : Int32)) σ176  _ _ _ hw (lv_sub hl [2, 1, 0] rfl) h
set_option maxHeartbeats 4000000 in
set_option maxRecDepth 100000 in
theorem kX7_digest_128 {p : Program} {l : Launch} {e : Env} {s : State} {m : MethodId} {args : Array Value} {below : List Frame} {meth : Method} {c : Code} {E : wE} (hE : wM E) (C : Cx p s m args c cX7_digest 5 RX7 E (wA E)) (hr : meth.sig.returnType = (some .long)) (hlk : meth.locks = false) {Q : Int64 → Mem → Prop} {K119 : Int64 → Int32 → Mem → Prop} (hK119 : ∀ (x1 : Int64) (x3 : Int32) (σ : Mem) (H : Heap) (locs : List Loc) (ls : Array Slot), wd E (wA E) s σ H locs → lv_has ls 5 [(0, .ref (gE E 0)), (1, .long x1), (3, .int x3)] → K119 x1 x3 σ → W p l e rX7_digest s m args below meth c H locs 0 0 (MQ below (wQl E Q) args s 0 0 (wA E)) (F0 m 119 ls [])) : ∀ (n : Nat) (x1 : Int64) (x3 : Int32) (x4 : Int32) (σ : Mem) (H : Heap) (locs : List Loc) (ls : Array Slot), wd E (wA E) s σ H locs → lv_has ls 5 [(0, .ref (gE E 0)), (1, .long x1), (3, .int x3), (4, .int x4)] → wX7_digest_128 K119 Q n x1 x3 x4 σ → W p l e rX7_digest s m args below meth c H locs 0 0 (MQ below (wQl E Q) args s 0 0 (wA E)) (F0 m 128 ls []) := by
  have hx := C.1.1
  have hb := C.1.2.1
  intro n
  induction n with
  | zero =>
    intro x1 x3 x4 σ  H locs ls hw hl h
    exact h.elim
  | succ n ih =>
    intro x1 x3 x4 σ  H locs ls hw hl h
    rw [wX7_digest_128] at h
    refine lv_iload hx hb (dAt dX7_digest 80 rfl) (lv_at hl 3 rfl) ?_
    refine lv_iconst (v := 3) hx hb (dAt dX7_digest 81 rfl) (by decide) ?_
    refine lv_icmp_ge (tgt := 155) hx hb (dAt dX7_digest 82 rfl) (by decide) (fun c131 => ?_) (fun c131 => ?_)
    · replace h := h.1 c131
      refine lv_iinc (v := (x3 + (1 : Int32))) (lv' := [(3, .int (x3 + (1 : Int32))), (0, .ref (gE E 0)), (1, .long x1), (4, .int x4)]) hx hb (dAt dX7_digest 95 rfl) hl (k := 2) rfl rfl (by decide) rfl (fun ls hl => ?_)
      refine lv_goto (tgt := 119) hx hb (dAt dX7_digest 96 rfl) (by decide) ?_
      exact hK119 x1 (x3 + (1 : Int32)) σ  _ _ _ hw (lv_sub hl [1, 2, 0] rfl) h
    · replace h := h.2 c131
      refine lv_ldc2 (v := 31) hx hb C.1.2.2.2.1 (C.1.2.2.2.2 _ ck_X7_341) (dAt dX7_digest 83 rfl) ?_
      refine lv_lload_n hx hb (dAt dX7_digest 84 rfl) rfl (lv_at hl 1 rfl) ?_
      refine lv_lmul hx hb (dAt dX7_digest 85 rfl) ?_
      refine lv_aload_n hx hb (dAt dX7_digest 86 rfl) rfl (lv_at hl 0 rfl) ?_
      refine lv_iload_n hx hb (dAt dX7_digest 87 rfl) rfl (lv_at hl 2 rfl) ?_
      refine lv_iload hx hb (dAt dX7_digest 88 rfl) (lv_at hl 3 rfl) ?_
      refine x_calli C hw (x_runV (As := [.int x3, .int x4]) (rest := [.long ((31 : Int64) * x1)]) C hw (kX7_weaveBy l E hE x3 x4 σ _ h) mtX7_weaveBy lk_X7_230 (hE.1 0) (nM hE (by decide)) rfl ⟨by decide, by decide⟩ ⟨rfl, rfl⟩ rfl hl.1 rfl (Nat.le_of_ble_eq_true rfl) (dAt dX7_digest 89 rfl) ⟨Nat.zero_le _, Nat.zero_le _⟩) (fun r143 σ143 H locs h hw => ?_)
      refine lv_i2l hx hb (dAt dX7_digest 90 rfl) rfl ?_
      refine lv_ladd hx hb (dAt dX7_digest 91 rfl) ?_
      refine lv_topl (fun x1_148 ex1_148 => ?_)
      replace h := h x1_148 ex1_148
      refine lv_lstore_n (lv' := [(1, .long x1_148), (0, .ref (gE E 0)), (3, .int x3), (4, .int x4)]) hx hb (dAt dX7_digest 92 rfl) rfl hl (by decide) rfl (fun ls hl => ?_)
      refine lv_iinc (v := (x4 + (1 : Int32))) (lv' := [(4, .int (x4 + (1 : Int32))), (1, .long x1_148), (0, .ref (gE E 0)), (3, .int x3)]) hx hb (dAt dX7_digest 93 rfl) hl (k := 3) rfl rfl (by decide) rfl (fun ls hl => ?_)
      refine lv_goto (tgt := 128) hx hb (dAt dX7_digest 94 rfl) (by decide) ?_
      exact ih x1_148 x3 (x4 + (1 : Int32)) σ143  _ _ _ hw (lv_sub hl [2, 1, 3, 0] rfl) h
set_option maxHeartbeats 4000000 in
set_option maxRecDepth 100000 in
theorem kX7_digest_119 {p : Program} {l : Launch} {e : Env} {s : State} {m : MethodId} {args : Array Value} {below : List Frame} {meth : Method} {c : Code} {E : wE} (hE : wM E) (C : Cx p s m args c cX7_digest 5 RX7 E (wA E)) (hr : meth.sig.returnType = (some .long)) (hlk : meth.locks = false) {Q : Int64 → Mem → Prop} : ∀ (n : Nat) (x1 : Int64) (x3 : Int32) (σ : Mem) (H : Heap) (locs : List Loc) (ls : Array Slot), wd E (wA E) s σ H locs → lv_has ls 5 [(0, .ref (gE E 0)), (1, .long x1), (3, .int x3)] → wX7_digest_119 Q n x1 x3 σ → W p l e rX7_digest s m args below meth c H locs 0 0 (MQ below (wQl E Q) args s 0 0 (wA E)) (F0 m 119 ls []) := by
  have hx := C.1.1
  have hb := C.1.2.1
  intro n
  induction n with
  | zero =>
    intro x1 x3 σ  H locs ls hw hl h
    exact h.elim
  | succ n ih =>
    intro x1 x3 σ  H locs ls hw hl h
    rw [wX7_digest_119] at h
    refine lv_iload_n hx hb (dAt dX7_digest 75 rfl) rfl (lv_at hl 2 rfl) ?_
    refine lv_bipush (v := 24) hx hb (dAt dX7_digest 76 rfl) (by decide) ?_
    refine lv_icmp_ge (tgt := 161) hx hb (dAt dX7_digest 77 rfl) (by decide) (fun c122 => ?_) (fun c122 => ?_)
    · replace h := h.1 c122
      refine lv_iconst (v := 0) hx hb (dAt dX7_digest 97 rfl) (by decide) ?_
      refine lv_istore_n (lv' := [(3, .int (0 : Int32)), (0, .ref (gE E 0)), (1, .long x1)]) hx hb (dAt dX7_digest 98 rfl) rfl hl (by decide) rfl (fun ls hl => ?_)
      obtain ⟨n163, h⟩ := h
      exact kX7_digest_163 hE C hr hlk n163 x1 (0 : Int32) σ  _ _ _ hw (lv_sub hl [1, 2, 0] rfl) h
    · replace h := h.2 c122
      refine lv_iconst (v := 0) hx hb (dAt dX7_digest 78 rfl) (by decide) ?_
      refine lv_istore (lv' := [(4, .int (0 : Int32)), (0, .ref (gE E 0)), (1, .long x1), (3, .int x3)]) hx hb (dAt dX7_digest 79 rfl) hl (by decide) rfl (fun ls hl => ?_)
      obtain ⟨n128, h⟩ := h
      exact kX7_digest_128 hE C hr hlk ih n128 x1 x3 (0 : Int32) σ  _ _ _ hw (lv_sub hl [1, 2, 3, 0] rfl) h
set_option maxHeartbeats 4000000 in
set_option maxRecDepth 100000 in
theorem kX7_digest_63 {p : Program} {l : Launch} {e : Env} {s : State} {m : MethodId} {args : Array Value} {below : List Frame} {meth : Method} {c : Code} {E : wE} (hE : wM E) (C : Cx p s m args c cX7_digest 5 RX7 E (wA E)) (hr : meth.sig.returnType = (some .long)) (hlk : meth.locks = false) {Q : Int64 → Mem → Prop} : ∀ (n : Nat) (x1 : Int64) (x3 : Int32) (σ : Mem) (H : Heap) (locs : List Loc) (ls : Array Slot), wd E (wA E) s σ H locs → lv_has ls 5 [(0, .ref (gE E 0)), (1, .long x1), (3, .int x3)] → wX7_digest_63 Q n x1 x3 σ → W p l e rX7_digest s m args below meth c H locs 0 0 (MQ below (wQl E Q) args s 0 0 (wA E)) (F0 m 63 ls []) := by
  have hx := C.1.1
  have hb := C.1.2.1
  intro n
  induction n with
  | zero =>
    intro x1 x3 σ  H locs ls hw hl h
    exact h.elim
  | succ n ih =>
    intro x1 x3 σ  H locs ls hw hl h
    rw [wX7_digest_63] at h
    refine lv_iload_n hx hb (dAt dX7_digest 38 rfl) rfl (lv_at hl 2 rfl) ?_
    refine lv_bipush (v := 24) hx hb (dAt dX7_digest 39 rfl) (by decide) ?_
    refine lv_icmp_ge (tgt := 117) hx hb (dAt dX7_digest 40 rfl) (by decide) (fun c66 => ?_) (fun c66 => ?_)
    · replace h := h.1 c66
      refine lv_iconst (v := 0) hx hb (dAt dX7_digest 73 rfl) (by decide) ?_
      refine lv_istore_n (lv' := [(3, .int (0 : Int32)), (0, .ref (gE E 0)), (1, .long x1)]) hx hb (dAt dX7_digest 74 rfl) rfl hl (by decide) rfl (fun ls hl => ?_)
      obtain ⟨n119, h⟩ := h
      exact kX7_digest_119 hE C hr hlk n119 x1 (0 : Int32) σ  _ _ _ hw (lv_sub hl [1, 2, 0] rfl) h
    · replace h := h.2 c66
      refine lv_ldc2 (v := 31) hx hb C.1.2.2.2.1 (C.1.2.2.2.2 _ ck_X7_341) (dAt dX7_digest 41 rfl) ?_
      refine lv_lload_n hx hb (dAt dX7_digest 42 rfl) rfl (lv_at hl 1 rfl) ?_
      refine lv_lmul hx hb (dAt dX7_digest 43 rfl) ?_
      refine lv_aload_n hx hb (dAt dX7_digest 44 rfl) rfl (lv_at hl 0 rfl) ?_
      refine x_getr C hw fl_X7_31 (hE.1 0) (nM hE (by decide)) rfl (dAt dX7_digest 45 rfl) ?_
      refine lv_iload_n hx hb (dAt dX7_digest 46 rfl) rfl (lv_at hl 2 rfl) ?_
      obtain ⟨z79, h⟩ := h
      refine x_ild C hw (hE.1 8) (nM hE (by decide)) z79 rfl (dAt dX7_digest 47 rfl) ?_
      refine lv_i2l hx hb (dAt dX7_digest 48 rfl) rfl ?_
      refine lv_ladd hx hb (dAt dX7_digest 49 rfl) ?_
      refine lv_topl (fun x1_82 ex1_82 => ?_)
      replace h := h x1_82 ex1_82
      refine lv_lstore_n (lv' := [(1, .long x1_82), (0, .ref (gE E 0)), (3, .int x3)]) hx hb (dAt dX7_digest 50 rfl) rfl hl (by decide) rfl (fun ls hl => ?_)
      refine lv_ldc2 (v := 31) hx hb C.1.2.2.2.1 (C.1.2.2.2.2 _ ck_X7_341) (dAt dX7_digest 51 rfl) ?_
      refine lv_lload_n hx hb (dAt dX7_digest 52 rfl) rfl (lv_at hl 0 rfl) ?_
      refine lv_lmul hx hb (dAt dX7_digest 53 rfl) ?_
      refine lv_aload_n hx hb (dAt dX7_digest 54 rfl) rfl (lv_at hl 1 rfl) ?_
      refine x_getr C hw fl_X7_70 (hE.1 0) (nM hE (by decide)) rfl (dAt dX7_digest 55 rfl) ?_
      refine lv_iload_n hx hb (dAt dX7_digest 56 rfl) rfl (lv_at hl 2 rfl) ?_
      obtain ⟨z93, h⟩ := h
      refine x_ild C hw (hE.1 21) (nM hE (by decide)) z93 rfl (dAt dX7_digest 57 rfl) ?_
      refine lv_i2l hx hb (dAt dX7_digest 58 rfl) rfl ?_
      refine lv_ladd hx hb (dAt dX7_digest 59 rfl) ?_
      refine lv_topl (fun x1_96 ex1_96 => ?_)
      replace h := h x1_96 ex1_96
      refine lv_lstore_n (lv' := [(1, .long x1_96), (0, .ref (gE E 0)), (3, .int x3)]) hx hb (dAt dX7_digest 60 rfl) rfl hl (by decide) rfl (fun ls hl => ?_)
      refine lv_ldc2 (v := 31) hx hb C.1.2.2.2.1 (C.1.2.2.2.2 _ ck_X7_341) (dAt dX7_digest 61 rfl) ?_
      refine lv_lload_n hx hb (dAt dX7_digest 62 rfl) rfl (lv_at hl 0 rfl) ?_
      refine lv_lmul hx hb (dAt dX7_digest 63 rfl) ?_
      refine lv_aload_n hx hb (dAt dX7_digest 64 rfl) rfl (lv_at hl 1 rfl) ?_
      refine x_getr C hw fl_X7_73 (hE.1 0) (nM hE (by decide)) rfl (dAt dX7_digest 65 rfl) ?_
      refine lv_iload_n hx hb (dAt dX7_digest 66 rfl) rfl (lv_at hl 2 rfl) ?_
      obtain ⟨z107, h⟩ := h
      refine x_ild C hw (hE.1 22) (nM hE (by decide)) z107 rfl (dAt dX7_digest 67 rfl) ?_
      refine lv_i2l hx hb (dAt dX7_digest 68 rfl) rfl ?_
      refine lv_ladd hx hb (dAt dX7_digest 69 rfl) ?_
      refine lv_topl (fun x1_110 ex1_110 => ?_)
      replace h := h x1_110 ex1_110
      refine lv_lstore_n (lv' := [(1, .long x1_110), (0, .ref (gE E 0)), (3, .int x3)]) hx hb (dAt dX7_digest 70 rfl) rfl hl (by decide) rfl (fun ls hl => ?_)
      refine lv_iinc (v := (x3 + (1 : Int32))) (lv' := [(3, .int (x3 + (1 : Int32))), (1, .long x1_110), (0, .ref (gE E 0))]) hx hb (dAt dX7_digest 71 rfl) hl (k := 2) rfl rfl (by decide) rfl (fun ls hl => ?_)
      refine lv_goto (tgt := 63) hx hb (dAt dX7_digest 72 rfl) (by decide) ?_
      exact ih x1_110 (x3 + (1 : Int32)) σ  _ _ _ hw (lv_sub hl [2, 1, 0] rfl) h
set_option maxHeartbeats 4000000 in
set_option maxRecDepth 100000 in
theorem kX7_digest_33 {p : Program} {l : Launch} {e : Env} {s : State} {m : MethodId} {args : Array Value} {below : List Frame} {meth : Method} {c : Code} {E : wE} (hE : wM E) (C : Cx p s m args c cX7_digest 5 RX7 E (wA E)) (hr : meth.sig.returnType = (some .long)) (hlk : meth.locks = false) {Q : Int64 → Mem → Prop} : ∀ (n : Nat) (x1 : Int64) (x3 : Int32) (σ : Mem) (H : Heap) (locs : List Loc) (ls : Array Slot), wd E (wA E) s σ H locs → lv_has ls 5 [(0, .ref (gE E 0)), (1, .long x1), (3, .int x3)] → wX7_digest_33 Q n x1 x3 σ → W p l e rX7_digest s m args below meth c H locs 0 0 (MQ below (wQl E Q) args s 0 0 (wA E)) (F0 m 33 ls []) := by
  have hx := C.1.1
  have hb := C.1.2.1
  intro n
  induction n with
  | zero =>
    intro x1 x3 σ  H locs ls hw hl h
    exact h.elim
  | succ n ih =>
    intro x1 x3 σ  H locs ls hw hl h
    rw [wX7_digest_33] at h
    refine lv_iload_n hx hb (dAt dX7_digest 20 rfl) rfl (lv_at hl 2 rfl) ?_
    refine lv_iconst (v := 2) hx hb (dAt dX7_digest 21 rfl) (by decide) ?_
    refine lv_icmp_ge (tgt := 57) hx hb (dAt dX7_digest 22 rfl) (by decide) (fun c35 => ?_) (fun c35 => ?_)
    · replace h := h.1 c35
      refine lv_aload_n hx hb (dAt dX7_digest 34 rfl) rfl (lv_at hl 0 rfl) ?_
      refine x_callv C hw (x_runV (As := []) (rest := []) C hw (kX7_lives l E hE  σ _ h) mtX7_lives lk_X7_216 (hE.1 0) (nM hE (by decide)) rfl ⟨by decide, by decide⟩ ⟨rfl, rfl⟩ rfl hl.1 rfl (Nat.le_of_ble_eq_true rfl) (dAt dX7_digest 35 rfl) ⟨Nat.zero_le _, Nat.zero_le _⟩) (fun σ58 H locs h hw => ?_)
      refine lv_iconst (v := 0) hx hb (dAt dX7_digest 36 rfl) (by decide) ?_
      refine lv_istore_n (lv' := [(3, .int (0 : Int32)), (0, .ref (gE E 0)), (1, .long x1)]) hx hb (dAt dX7_digest 37 rfl) rfl hl (by decide) rfl (fun ls hl => ?_)
      obtain ⟨n63, h⟩ := h
      exact kX7_digest_63 hE C hr hlk n63 x1 (0 : Int32) σ58  _ _ _ hw (lv_sub hl [1, 2, 0] rfl) h
    · replace h := h.2 c35
      refine lv_ldc2 (v := 31) hx hb C.1.2.2.2.1 (C.1.2.2.2.2 _ ck_X7_341) (dAt dX7_digest 23 rfl) ?_
      refine lv_lload_n hx hb (dAt dX7_digest 24 rfl) rfl (lv_at hl 1 rfl) ?_
      refine lv_lmul hx hb (dAt dX7_digest 25 rfl) ?_
      refine lv_aload_n hx hb (dAt dX7_digest 26 rfl) rfl (lv_at hl 0 rfl) ?_
      refine lv_iload_n hx hb (dAt dX7_digest 27 rfl) rfl (lv_at hl 2 rfl) ?_
      refine x_calli C hw (x_runV (As := [.int x3]) (rest := [.long ((31 : Int64) * x1)]) C hw (kX7_readsText l E hE x3 σ _ h) mtX7_readsText lk_X7_152 (hE.1 0) (nM hE (by decide)) rfl ⟨by decide, by decide⟩ ⟨rfl, rfl⟩ rfl hl.1 rfl (Nat.le_of_ble_eq_true rfl) (dAt dX7_digest 28 rfl) ⟨Nat.zero_le _, Nat.zero_le _⟩) (fun r45 σ45 H locs h hw => ?_)
      refine lv_i2l hx hb (dAt dX7_digest 29 rfl) rfl ?_
      refine lv_ladd hx hb (dAt dX7_digest 30 rfl) ?_
      refine lv_topl (fun x1_50 ex1_50 => ?_)
      replace h := h x1_50 ex1_50
      refine lv_lstore_n (lv' := [(1, .long x1_50), (0, .ref (gE E 0)), (3, .int x3)]) hx hb (dAt dX7_digest 31 rfl) rfl hl (by decide) rfl (fun ls hl => ?_)
      refine lv_iinc (v := (x3 + (1 : Int32))) (lv' := [(3, .int (x3 + (1 : Int32))), (1, .long x1_50), (0, .ref (gE E 0))]) hx hb (dAt dX7_digest 32 rfl) hl (k := 2) rfl rfl (by decide) rfl (fun ls hl => ?_)
      refine lv_goto (tgt := 33) hx hb (dAt dX7_digest 33 rfl) (by decide) ?_
      exact ih x1_50 (x3 + (1 : Int32)) σ45  _ _ _ hw (lv_sub hl [2, 1, 0] rfl) h
set_option maxHeartbeats 4000000 in
set_option maxRecDepth 100000 in
theorem kX7_digest_6 {p : Program} {l : Launch} {e : Env} {s : State} {m : MethodId} {args : Array Value} {below : List Frame} {meth : Method} {c : Code} {E : wE} (hE : wM E) (C : Cx p s m args c cX7_digest 5 RX7 E (wA E)) (hr : meth.sig.returnType = (some .long)) (hlk : meth.locks = false) {Q : Int64 → Mem → Prop} : ∀ (n : Nat) (x1 : Int64) (x3 : Int32) (σ : Mem) (H : Heap) (locs : List Loc) (ls : Array Slot), wd E (wA E) s σ H locs → lv_has ls 5 [(0, .ref (gE E 0)), (1, .long x1), (3, .int x3)] → wX7_digest_6 Q n x1 x3 σ → W p l e rX7_digest s m args below meth c H locs 0 0 (MQ below (wQl E Q) args s 0 0 (wA E)) (F0 m 6 ls []) := by
  have hx := C.1.1
  have hb := C.1.2.1
  intro n
  induction n with
  | zero =>
    intro x1 x3 σ  H locs ls hw hl h
    exact h.elim
  | succ n ih =>
    intro x1 x3 σ  H locs ls hw hl h
    rw [wX7_digest_6] at h
    refine lv_iload_n hx hb (dAt dX7_digest 4 rfl) rfl (lv_at hl 2 rfl) ?_
    refine lv_bipush (v := 8) hx hb (dAt dX7_digest 5 rfl) (by decide) ?_
    refine lv_icmp_ge (tgt := 31) hx hb (dAt dX7_digest 6 rfl) (by decide) (fun c9 => ?_) (fun c9 => ?_)
    · replace h := h.1 c9
      refine lv_iconst (v := 0) hx hb (dAt dX7_digest 18 rfl) (by decide) ?_
      refine lv_istore_n (lv' := [(3, .int (0 : Int32)), (0, .ref (gE E 0)), (1, .long x1)]) hx hb (dAt dX7_digest 19 rfl) rfl hl (by decide) rfl (fun ls hl => ?_)
      obtain ⟨n33, h⟩ := h
      exact kX7_digest_33 hE C hr hlk n33 x1 (0 : Int32) σ  _ _ _ hw (lv_sub hl [1, 2, 0] rfl) h
    · replace h := h.2 c9
      refine lv_ldc2 (v := 31) hx hb C.1.2.2.2.1 (C.1.2.2.2.2 _ ck_X7_341) (dAt dX7_digest 7 rfl) ?_
      refine lv_lload_n hx hb (dAt dX7_digest 8 rfl) rfl (lv_at hl 1 rfl) ?_
      refine lv_lmul hx hb (dAt dX7_digest 9 rfl) ?_
      refine lv_aload_n hx hb (dAt dX7_digest 10 rfl) rfl (lv_at hl 0 rfl) ?_
      refine lv_iload_n hx hb (dAt dX7_digest 11 rfl) rfl (lv_at hl 2 rfl) ?_
      refine x_calli C hw (x_runV (As := [.int x3]) (rest := [.long ((31 : Int64) * x1)]) C hw (kX7_count l E hE x3 σ _ h) mtX7_count lk_X7_349 (hE.1 0) (nM hE (by decide)) rfl ⟨by decide, by decide⟩ ⟨rfl, rfl⟩ rfl hl.1 rfl (Nat.le_of_ble_eq_true rfl) (dAt dX7_digest 12 rfl) ⟨Nat.zero_le _, Nat.zero_le _⟩) (fun r19 σ19 H locs h hw => ?_)
      refine lv_i2l hx hb (dAt dX7_digest 13 rfl) rfl ?_
      refine lv_ladd hx hb (dAt dX7_digest 14 rfl) ?_
      refine lv_topl (fun x1_24 ex1_24 => ?_)
      replace h := h x1_24 ex1_24
      refine lv_lstore_n (lv' := [(1, .long x1_24), (0, .ref (gE E 0)), (3, .int x3)]) hx hb (dAt dX7_digest 15 rfl) rfl hl (by decide) rfl (fun ls hl => ?_)
      refine lv_iinc (v := (x3 + (1 : Int32))) (lv' := [(3, .int (x3 + (1 : Int32))), (1, .long x1_24), (0, .ref (gE E 0))]) hx hb (dAt dX7_digest 16 rfl) hl (k := 2) rfl rfl (by decide) rfl (fun ls hl => ?_)
      refine lv_goto (tgt := 6) hx hb (dAt dX7_digest 17 rfl) (by decide) ?_
      exact ih x1_24 (x3 + (1 : Int32)) σ19  _ _ _ hw (lv_sub hl [2, 1, 0] rfl) h
set_option maxHeartbeats 4000000 in
set_option maxRecDepth 100000 in
theorem kX7_digest (l : Launch) (E : wE) (hE : wM E) (σ : Mem) (Q : Int64 → Mem → Prop) (h : wX7_digest  σ Q) : Met l yX7_digest (Cond.code yX7_digest cX7_digest 5 (some .long) :: TB) rX7_digest (wPc E σ [.ref (gE E 0)]) (wQl E Q) 0 0 (wA E) := by
  refine wMet (by decide) hE.2.2 (Nat.le_of_ble_eq_true rfl) ?_
  intro p e s m args below meth c ls C hr hlk hl hw
  have hx := C.1.1
  have hb := C.1.2.1
  replace C : Cx p s m args c cX7_digest 5 RX7 E (wA E) := C
  replace hl : lv_has ls 5 [(0, .ref (gE E 0))] := hl
  unfold wX7_digest at h
  refine lv_ldc2 (v := 17) hx hb C.1.2.2.2.1 (C.1.2.2.2.2 _ ck_X7_347) (dAt dX7_digest 0 rfl) ?_
  refine lv_lstore_n (lv' := [(1, .long (17 : Int64)), (0, .ref (gE E 0))]) hx hb (dAt dX7_digest 1 rfl) rfl hl (by decide) rfl (fun ls hl => ?_)
  refine lv_iconst (v := 0) hx hb (dAt dX7_digest 2 rfl) (by decide) ?_
  refine lv_istore_n (lv' := [(3, .int (0 : Int32)), (1, .long (17 : Int64)), (0, .ref (gE E 0))]) hx hb (dAt dX7_digest 3 rfl) rfl hl (by decide) rfl (fun ls hl => ?_)
  obtain ⟨n6, h⟩ := h
  exact kX7_digest_6 hE C hr hlk n6 (17 : Int64) (0 : Int32) σ  _ _ _ hw (lv_sub hl [2, 1, 0] rfl) h
