def tX7_in : List (Nat × Instr × Nat) := [(0, .lload_n 0, 1), (1, .lload_n 2, 1), (2, .lcmp, 1), (3, .ifCond .lt 14, 3), (6, .lload_n 0, 1), (7, .lload 4, 2), (9, .lcmp, 1), (10, .ifCond .gt 7, 3), (13, .iconst 1, 1), (14, .goto 4, 3), (17, .iconst 0, 1), (18, .ireturn, 1)]
theorem dX7_in : dOk cX7_in tX7_in = true := by decide +kernel
abbrev rX7_in : Room := { frames := 0, cells := 0, slots := 0, locals := 0 }
def wX7_in (x0 : Int64) (x2 : Int64) (x4 : Int64) (σ : Mem) (Q : Int32 → Mem → Prop) : Prop := (((x0 < x2) → (Q (0 : Int32) σ)) ∧ ((¬ x0 < x2) → (((x4 < x0) → (Q (0 : Int32) σ)) ∧ ((¬ x4 < x0) → (Q (1 : Int32) σ)))))
set_option maxHeartbeats 4000000 in
set_option maxRecDepth 100000 in
theorem kX7_in (l : Launch) (E : wE) (hE : wM E) (x0 : Int64) (x2 : Int64) (x4 : Int64) (σ : Mem) (Q : Int32 → Mem → Prop) (h : wX7_in x0 x2 x4 σ Q) : Met l yX7_in (Cond.code yX7_in cX7_in 6 (some .boolean) :: TB) rX7_in (wPc E σ [.long x0, .long x2, .long x4]) (wQi E Q) 0 0 (wA E) := by
  refine wMet (by decide) hE.2.2 (Nat.le_of_ble_eq_true rfl) ?_
  intro p e s m args below meth c ls C hr hlk hl hw
  have hx := C.1.1
  have hb := C.1.2.1
  replace C : Cx p s m args c cX7_in 6 RX7 E (wA E) := C
  replace hl : lv_has ls 6 [(0, .long x0), (2, .long x2), (4, .long x4)] := hl
  unfold wX7_in at h
  refine lv_lload_n hx hb (dAt dX7_in 0 rfl) rfl (lv_at hl 0 rfl) ?_
  refine lv_lload_n hx hb (dAt dX7_in 1 rfl) rfl (lv_at hl 1 rfl) ?_
  refine W.lcmp hx hb (dAt dX7_in 2 rfl) ?_
  refine lv_if_lt (tgt := 17) hx hb (dAt dX7_in 3 rfl) (by decide) (fun c3 => ?_) (fun c3 => ?_)
  · replace h := h.1 ((lg_cmp_lt _ _).mp c3)
    refine lv_iconst (v := 0) hx hb (dAt dX7_in 10 rfl) (by decide) ?_
    exact x_zret C hw hr hlk rfl h (dAt dX7_in 11 rfl)
  · replace h := h.2 (fun z => c3 ((lg_cmp_lt _ _).mpr z))
    refine lv_lload_n hx hb (dAt dX7_in 4 rfl) rfl (lv_at hl 0 rfl) ?_
    refine lv_lload hx hb (dAt dX7_in 5 rfl) (lv_at hl 2 rfl) ?_
    refine W.lcmp hx hb (dAt dX7_in 6 rfl) ?_
    refine lv_if_gt (tgt := 17) hx hb (dAt dX7_in 7 rfl) (by decide) (fun c10 => ?_) (fun c10 => ?_)
    · replace h := h.1 ((lg_cmp_gt _ _).mp c10)
      refine lv_iconst (v := 0) hx hb (dAt dX7_in 10 rfl) (by decide) ?_
      exact x_zret C hw hr hlk rfl h (dAt dX7_in 11 rfl)
    · replace h := h.2 (fun z => c10 ((lg_cmp_gt _ _).mpr z))
      refine lv_iconst (v := 1) hx hb (dAt dX7_in 8 rfl) (by decide) ?_
      refine lv_goto (tgt := 18) hx hb (dAt dX7_in 9 rfl) (by decide) ?_
      exact x_zret C hw hr hlk rfl h (dAt dX7_in 11 rfl)
def tX7_no : List (Nat × Instr × Nat) := [(0, .ldc2_w 86, 3), (3, .iload_n 0, 1), (4, .i2l, 1), (5, .lsub, 1), (6, .lreturn, 1)]
theorem dX7_no : dOk cX7_no tX7_no = true := by decide +kernel
abbrev rX7_no : Room := { frames := 0, cells := 0, slots := 0, locals := 0 }
def wX7_no (x0 : Int32) (σ : Mem) (Q : Int64 → Mem → Prop) : Prop := (Q ((-9223372036854775808 : Int64) - ((x0).toInt64)) σ)
set_option maxHeartbeats 4000000 in
set_option maxRecDepth 100000 in
theorem kX7_no (l : Launch) (E : wE) (hE : wM E) (x0 : Int32) (σ : Mem) (Q : Int64 → Mem → Prop) (h : wX7_no x0 σ Q) : Met l yX7_no (Cond.code yX7_no cX7_no 1 (some .long) :: TB) rX7_no (wPc E σ [.int x0]) (wQl E Q) 0 0 (wA E) := by
  refine wMet (by decide) hE.2.2 (Nat.le_of_ble_eq_true rfl) ?_
  intro p e s m args below meth c ls C hr hlk hl hw
  have hx := C.1.1
  have hb := C.1.2.1
  replace C : Cx p s m args c cX7_no 1 RX7 E (wA E) := C
  replace hl : lv_has ls 1 [(0, .int x0)] := hl
  unfold wX7_no at h
  refine lv_ldc2 (v := -9223372036854775808) hx hb C.1.2.2.2.1 (C.1.2.2.2.2 _ ck_X7_86) (dAt dX7_no 0 rfl) ?_
  refine lv_iload_n hx hb (dAt dX7_no 1 rfl) rfl (lv_at hl 0 rfl) ?_
  refine lv_i2l hx hb (dAt dX7_no 2 rfl) rfl ?_
  refine lv_lsub hx hb (dAt dX7_no 3 rfl) ?_
  exact x_lret C hw hr hlk h (dAt dX7_no 4 rfl)
def tX7_isTwo : List (Nat × Instr × Nat) := [(0, .iload_n 0, 1), (1, .i2l, 1), (2, .lconst 0, 1), (3, .lconst 1, 1), (4, .invokestatic 88, 3), (7, .ireturn, 1)]
theorem dX7_isTwo : dOk cX7_isTwo tX7_isTwo = true := by decide +kernel
abbrev rX7_isTwo : Room := { frames := 1, cells := 0, slots := 0, locals := 25 }
def wX7_isTwo (x0 : Int32) (σ : Mem) (Q : Int32 → Mem → Prop) : Prop := (wX7_in ((x0).toInt64) (0 : Int64) (1 : Int64) σ (fun r4 σ4 => (bz r4 ∧ Q r4 σ4)))
set_option maxHeartbeats 4000000 in
set_option maxRecDepth 100000 in
theorem kX7_isTwo (l : Launch) (E : wE) (hE : wM E) (x0 : Int32) (σ : Mem) (Q : Int32 → Mem → Prop) (h : wX7_isTwo x0 σ Q) : Met l yX7_isTwo (Cond.code yX7_isTwo cX7_isTwo 1 (some .boolean) :: TB) rX7_isTwo (wPc E σ [.int x0]) (wQi E Q) 0 0 (wA E) := by
  refine wMet (by decide) hE.2.2 (Nat.le_of_ble_eq_true rfl) ?_
  intro p e s m args below meth c ls C hr hlk hl hw
  have hx := C.1.1
  have hb := C.1.2.1
  replace C : Cx p s m args c cX7_isTwo 1 RX7 E (wA E) := C
  replace hl : lv_has ls 1 [(0, .int x0)] := hl
  unfold wX7_isTwo at h
  refine lv_iload_n hx hb (dAt dX7_isTwo 0 rfl) rfl (lv_at hl 0 rfl) ?_
  refine lv_i2l hx hb (dAt dX7_isTwo 1 rfl) rfl ?_
  refine lv_lconst (v := 0) hx hb (dAt dX7_isTwo 2 rfl) (by decide) ?_
  refine lv_lconst (v := 1) hx hb (dAt dX7_isTwo 3 rfl) (by decide) ?_
  refine x_calli C hw (x_runS (As := [.long ((x0).toInt64), .long (0 : Int64), .long (1 : Int64)]) (rest := []) C hw (kX7_in l E hE ((x0).toInt64) (0 : Int64) (1 : Int64) σ _ h) mtX7_in lk_X7_88 ⟨by decide, by decide⟩ ⟨rfl, rfl⟩ rfl hl.1 rfl (Nat.le_of_ble_eq_true rfl) (dAt dX7_isTwo 4 rfl) ⟨Nat.zero_le _, Nat.zero_le _⟩) (fun r4 σ4 H locs h hw => ?_)
  exact x_zret C hw hr hlk h.1 h.2 (dAt dX7_isTwo 5 rfl)
def tX7_isIn : List (Nat × Instr × Nat) := [(0, .iload_n 0, 1), (1, .iload_n 1, 1), (2, .ishr, 1), (3, .iconst 1, 1), (4, .iand, 1), (5, .iconst 1, 1), (6, .if_icmp .ne 7, 3), (9, .iconst 1, 1), (10, .goto 4, 3), (13, .iconst 0, 1), (14, .ireturn, 1)]
theorem dX7_isIn : dOk cX7_isIn tX7_isIn = true := by decide +kernel
abbrev rX7_isIn : Room := { frames := 0, cells := 0, slots := 0, locals := 0 }
def wX7_isIn (x0 : Int32) (x1 : Int32) (σ : Mem) (Q : Int32 → Mem → Prop) : Prop := (bz (if ((x0 >>> (x1 &&& 31)) &&& (1 : Int32)) = (1 : Int32) then (1 : Int32) else (0 : Int32)) ∧ Q (if ((x0 >>> (x1 &&& 31)) &&& (1 : Int32)) = (1 : Int32) then (1 : Int32) else (0 : Int32)) σ)
set_option maxHeartbeats 4000000 in
set_option maxRecDepth 100000 in
theorem kX7_isIn (l : Launch) (E : wE) (hE : wM E) (x0 : Int32) (x1 : Int32) (σ : Mem) (Q : Int32 → Mem → Prop) (h : wX7_isIn x0 x1 σ Q) : Met l yX7_isIn (Cond.code yX7_isIn cX7_isIn 2 (some .boolean) :: TB) rX7_isIn (wPc E σ [.int x0, .int x1]) (wQi E Q) 0 0 (wA E) := by
  refine wMet (by decide) hE.2.2 (Nat.le_of_ble_eq_true rfl) ?_
  intro p e s m args below meth c ls C hr hlk hl hw
  have hx := C.1.1
  have hb := C.1.2.1
  replace C : Cx p s m args c cX7_isIn 2 RX7 E (wA E) := C
  replace hl : lv_has ls 2 [(0, .int x0), (1, .int x1)] := hl
  unfold wX7_isIn at h
  refine lv_iload_n hx hb (dAt dX7_isIn 0 rfl) rfl (lv_at hl 0 rfl) ?_
  refine lv_iload_n hx hb (dAt dX7_isIn 1 rfl) rfl (lv_at hl 1 rfl) ?_
  refine lv_ishr hx hb (dAt dX7_isIn 2 rfl) ?_
  refine lv_iconst (v := 1) hx hb (dAt dX7_isIn 3 rfl) (by decide) ?_
  refine lv_iand hx hb (dAt dX7_isIn 4 rfl) ?_
  refine lv_iconst (v := 1) hx hb (dAt dX7_isIn 5 rfl) (by decide) ?_
  refine x_dia (ls := ls) (pcJ := 14) (cnd := ((x0 >>> (x1 &&& 31)) &&& (1 : Int32)) = (1 : Int32)) (a := (1 : Int32)) (b := (0 : Int32)) ([]) ?_ (fun ht6 hf6 => ?_)
  · exact x_zret C hw hr hlk h.1 h.2 (dAt dX7_isIn 10 rfl)
  · refine lv_icmp_ne (tgt := 13) hx hb (dAt dX7_isIn 6 rfl) (by decide) (fun c6 => ?_) (fun c6 => ?_)
    · refine lv_iconst (v := 0) hx hb (dAt dX7_isIn 9 rfl) (by decide) ?_
      exact hf6 c6
    · refine lv_iconst (v := 1) hx hb (dAt dX7_isIn 7 rfl) (by decide) ?_
      refine lv_goto (tgt := 14) hx hb (dAt dX7_isIn 8 rfl) (by decide) ?_
      exact ht6 c6
def tX7_lesser : List (Nat × Instr × Nat) := [(0, .iload_n 0, 1), (1, .iload_n 1, 1), (2, .if_icmp .ge 7, 3), (5, .iload_n 0, 1), (6, .goto 4, 3), (9, .iload_n 1, 1), (10, .ireturn, 1)]
theorem dX7_lesser : dOk cX7_lesser tX7_lesser = true := by decide +kernel
abbrev rX7_lesser : Room := { frames := 0, cells := 0, slots := 0, locals := 0 }
def wX7_lesser (x0 : Int32) (x1 : Int32) (σ : Mem) (Q : Int32 → Mem → Prop) : Prop := (Q (if x1 ≤ x0 then x1 else x0) σ)
set_option maxHeartbeats 4000000 in
set_option maxRecDepth 100000 in
theorem kX7_lesser (l : Launch) (E : wE) (hE : wM E) (x0 : Int32) (x1 : Int32) (σ : Mem) (Q : Int32 → Mem → Prop) (h : wX7_lesser x0 x1 σ Q) : Met l yX7_lesser (Cond.code yX7_lesser cX7_lesser 2 (some .int) :: TB) rX7_lesser (wPc E σ [.int x0, .int x1]) (wQi E Q) 0 0 (wA E) := by
  refine wMet (by decide) hE.2.2 (Nat.le_of_ble_eq_true rfl) ?_
  intro p e s m args below meth c ls C hr hlk hl hw
  have hx := C.1.1
  have hb := C.1.2.1
  replace C : Cx p s m args c cX7_lesser 2 RX7 E (wA E) := C
  replace hl : lv_has ls 2 [(0, .int x0), (1, .int x1)] := hl
  unfold wX7_lesser at h
  refine lv_iload_n hx hb (dAt dX7_lesser 0 rfl) rfl (lv_at hl 0 rfl) ?_
  refine lv_iload_n hx hb (dAt dX7_lesser 1 rfl) rfl (lv_at hl 1 rfl) ?_
  refine x_dia (ls := ls) (pcJ := 10) (cnd := x1 ≤ x0) (a := x1) (b := x0) ([]) ?_ (fun ht2 hf2 => ?_)
  · exact x_iret C hw hr hlk h (dAt dX7_lesser 6 rfl)
  · refine lv_icmp_ge (tgt := 9) hx hb (dAt dX7_lesser 2 rfl) (by decide) (fun c2 => ?_) (fun c2 => ?_)
    · refine lv_iload_n hx hb (dAt dX7_lesser 5 rfl) rfl (lv_at hl 1 rfl) ?_
      exact ht2 c2
    · refine lv_iload_n hx hb (dAt dX7_lesser 3 rfl) rfl (lv_at hl 0 rfl) ?_
      refine lv_goto (tgt := 10) hx hb (dAt dX7_lesser 4 rfl) (by decide) ?_
      exact hf2 c2
def tX7_greater : List (Nat × Instr × Nat) := [(0, .iload_n 0, 1), (1, .iload_n 1, 1), (2, .if_icmp .le 7, 3), (5, .iload_n 0, 1), (6, .goto 4, 3), (9, .iload_n 1, 1), (10, .ireturn, 1)]
theorem dX7_greater : dOk cX7_greater tX7_greater = true := by decide +kernel
abbrev rX7_greater : Room := { frames := 0, cells := 0, slots := 0, locals := 0 }
def wX7_greater (x0 : Int32) (x1 : Int32) (σ : Mem) (Q : Int32 → Mem → Prop) : Prop := (Q (if x0 ≤ x1 then x1 else x0) σ)
set_option maxHeartbeats 4000000 in
set_option maxRecDepth 100000 in
theorem kX7_greater (l : Launch) (E : wE) (hE : wM E) (x0 : Int32) (x1 : Int32) (σ : Mem) (Q : Int32 → Mem → Prop) (h : wX7_greater x0 x1 σ Q) : Met l yX7_greater (Cond.code yX7_greater cX7_greater 2 (some .int) :: TB) rX7_greater (wPc E σ [.int x0, .int x1]) (wQi E Q) 0 0 (wA E) := by
  refine wMet (by decide) hE.2.2 (Nat.le_of_ble_eq_true rfl) ?_
  intro p e s m args below meth c ls C hr hlk hl hw
  have hx := C.1.1
  have hb := C.1.2.1
  replace C : Cx p s m args c cX7_greater 2 RX7 E (wA E) := C
  replace hl : lv_has ls 2 [(0, .int x0), (1, .int x1)] := hl
  unfold wX7_greater at h
  refine lv_iload_n hx hb (dAt dX7_greater 0 rfl) rfl (lv_at hl 0 rfl) ?_
  refine lv_iload_n hx hb (dAt dX7_greater 1 rfl) rfl (lv_at hl 1 rfl) ?_
  refine x_dia (ls := ls) (pcJ := 10) (cnd := x0 ≤ x1) (a := x1) (b := x0) ([]) ?_ (fun ht2 hf2 => ?_)
  · exact x_iret C hw hr hlk h (dAt dX7_greater 6 rfl)
  · refine lv_icmp_le (tgt := 9) hx hb (dAt dX7_greater 2 rfl) (by decide) (fun c2 => ?_) (fun c2 => ?_)
    · refine lv_iload_n hx hb (dAt dX7_greater 5 rfl) rfl (lv_at hl 1 rfl) ?_
      exact ht2 c2
    · refine lv_iload_n hx hb (dAt dX7_greater 3 rfl) rfl (lv_at hl 0 rfl) ?_
      refine lv_goto (tgt := 10) hx hb (dAt dX7_greater 4 rfl) (by decide) ?_
      exact hf2 c2
def tX7_part : List (Nat × Instr × Nat) := [(0, .lload_n 0, 1), (1, .lstore 5, 2), (3, .lload_n 2, 1), (4, .lstore 7, 2), (6, .lload 7, 2), (8, .lconst 0, 1), (9, .lcmp, 1), (10, .ifCond .eq 21, 3), (13, .lload 5, 2), (15, .lload 7, 2), (17, .lrem, 1), (18, .lstore 9, 2), (20, .lload 7, 2), (22, .lstore 5, 2), (24, .lload 9, 2), (26, .lstore 7, 2), (28, .goto (-22), 3), (31, .iload 4, 2), (33, .ifCond .ne 7, 3), (36, .lload_n 0, 1), (37, .goto 4, 3), (40, .lload_n 2, 1), (41, .lload 5, 2), (43, .ldiv, 1), (44, .lreturn, 1)]
theorem dX7_part : dOk cX7_part tX7_part = true := by decide +kernel
abbrev rX7_part : Room := { frames := 0, cells := 0, slots := 0, locals := 0 }
def wX7_part_31 (Q : Int64 → Mem → Prop) (x0 : Int64) (x2 : Int64) (x4 : Int32) (x5 : Int64) (σ : Mem) : Prop := (((¬ x4 = 0) → (¬ x5 = 0 ∧ (Q (x2 / x5) σ))) ∧ ((x4 = 0) → (¬ x5 = 0 ∧ (Q (x0 / x5) σ))))
def wX7_part_6 (Q : Int64 → Mem → Prop) : Nat → Int64 → Int64 → Int32 → Int64 → Int64 → Mem → Prop
  | 0, _, _, _, _, _, _ => False
  | n + 1, x0, x2, x4, x5, x7, σ => (((x7 = (0 : Int64)) → (wX7_part_31 Q x0 x2 x4 x5 σ)) ∧ ((¬ x7 = (0 : Int64)) → (¬ x7 = 0 ∧ (∀ x9_18 : Int64, x9_18 = (x5 - x5 / x7 * x7) → (wX7_part_6 Q n x0 x2 x4 x7 x9_18 σ)))))
def wX7_part (x0 : Int64) (x2 : Int64) (x4 : Int32) (σ : Mem) (Q : Int64 → Mem → Prop) : Prop := (∃ N6, wX7_part_6 Q N6 x0 x2 x4 x0 x2 σ)
set_option maxHeartbeats 4000000 in
set_option maxRecDepth 100000 in
theorem kX7_part_31 {p : Program} {l : Launch} {e : Env} {s : State} {m : MethodId} {args : Array Value} {below : List Frame} {meth : Method} {c : Code} {E : wE} (hE : wM E) (C : Cx p s m args c cX7_part 11 RX7 E (wA E)) (hr : meth.sig.returnType = (some .long)) (hlk : meth.locks = false) {Q : Int64 → Mem → Prop} : ∀ (x0 : Int64) (x2 : Int64) (x4 : Int32) (x5 : Int64) (σ : Mem) (H : Heap) (locs : List Loc) (ls : Array Slot), wd E (wA E) s σ H locs → lv_has ls 11 [(0, .long x0), (2, .long x2), (4, .int x4), (5, .long x5)] → wX7_part_31 Q x0 x2 x4 x5 σ → W p l e rX7_part s m args below meth c H locs 0 0 (MQ below (wQl E Q) args s 0 0 (wA E)) (F0 m 31 ls []) := by
  have hx := C.1.1
  have hb := C.1.2.1
  intro x0 x2 x4 x5 σ  H locs ls hw hl h
  unfold wX7_part_31 at h
  refine lv_iload hx hb (dAt dX7_part 17 rfl) (lv_at hl 2 rfl) ?_
  refine lv_if_ne (tgt := 40) hx hb (dAt dX7_part 18 rfl) (by decide) (fun c33 => ?_) (fun c33 => ?_)
  · replace h := h.1 c33
    refine lv_lload_n hx hb (dAt dX7_part 21 rfl) rfl (lv_at hl 1 rfl) ?_
    refine lv_lload hx hb (dAt dX7_part 22 rfl) (lv_at hl 3 rfl) ?_
    obtain ⟨z43, h⟩ := h
    refine lv_ldiv hx hb (dAt dX7_part 23 rfl) z43 ?_
    exact x_lret C hw hr hlk h (dAt dX7_part 24 rfl)
  · replace h := h.2 c33
    refine lv_lload_n hx hb (dAt dX7_part 19 rfl) rfl (lv_at hl 0 rfl) ?_
    refine lv_goto (tgt := 41) hx hb (dAt dX7_part 20 rfl) (by decide) ?_
    refine lv_lload hx hb (dAt dX7_part 22 rfl) (lv_at hl 3 rfl) ?_
    obtain ⟨z43, h⟩ := h
    refine lv_ldiv hx hb (dAt dX7_part 23 rfl) z43 ?_
    exact x_lret C hw hr hlk h (dAt dX7_part 24 rfl)
set_option maxHeartbeats 4000000 in
set_option maxRecDepth 100000 in
theorem kX7_part_6 {p : Program} {l : Launch} {e : Env} {s : State} {m : MethodId} {args : Array Value} {below : List Frame} {meth : Method} {c : Code} {E : wE} (hE : wM E) (C : Cx p s m args c cX7_part 11 RX7 E (wA E)) (hr : meth.sig.returnType = (some .long)) (hlk : meth.locks = false) {Q : Int64 → Mem → Prop} : ∀ (n : Nat) (x0 : Int64) (x2 : Int64) (x4 : Int32) (x5 : Int64) (x7 : Int64) (σ : Mem) (H : Heap) (locs : List Loc) (ls : Array Slot), wd E (wA E) s σ H locs → lv_has ls 11 [(0, .long x0), (2, .long x2), (4, .int x4), (5, .long x5), (7, .long x7)] → wX7_part_6 Q n x0 x2 x4 x5 x7 σ → W p l e rX7_part s m args below meth c H locs 0 0 (MQ below (wQl E Q) args s 0 0 (wA E)) (F0 m 6 ls []) := by
  have hx := C.1.1
  have hb := C.1.2.1
  intro n
  induction n with
  | zero =>
    intro x0 x2 x4 x5 x7 σ  H locs ls hw hl h
    exact h.elim
  | succ n ih =>
    intro x0 x2 x4 x5 x7 σ  H locs ls hw hl h
    rw [wX7_part_6] at h
    refine lv_lload hx hb (dAt dX7_part 4 rfl) (lv_at hl 4 rfl) ?_
    refine lv_lconst (v := 0) hx hb (dAt dX7_part 5 rfl) (by decide) ?_
    refine W.lcmp hx hb (dAt dX7_part 6 rfl) ?_
    refine lv_if_eq (tgt := 31) hx hb (dAt dX7_part 7 rfl) (by decide) (fun c10 => ?_) (fun c10 => ?_)
    · replace h := h.1 ((lg_cmp_eq _ _).mp c10)
      exact kX7_part_31 hE C hr hlk x0 x2 x4 x5 σ  _ _ _ hw (lv_sub hl [0, 1, 2, 3] rfl) h
    · replace h := h.2 (fun z => c10 ((lg_cmp_eq _ _).mpr z))
      refine lv_lload hx hb (dAt dX7_part 8 rfl) (lv_at hl 3 rfl) ?_
      refine lv_lload hx hb (dAt dX7_part 9 rfl) (lv_at hl 4 rfl) ?_
      obtain ⟨z17, h⟩ := h
      refine lv_lrem hx hb (dAt dX7_part 10 rfl) z17 ?_
      refine lv_topl (fun x9_18 ex9_18 => ?_)
      replace h := h x9_18 ex9_18
      refine lv_lstore (lv' := [(9, .long x9_18), (0, .long x0), (2, .long x2), (4, .int x4), (5, .long x5), (7, .long x7)]) hx hb (dAt dX7_part 11 rfl) hl (by decide) rfl (fun ls hl => ?_)
      refine lv_lload hx hb (dAt dX7_part 12 rfl) (lv_at hl 5 rfl) ?_
      refine lv_lstore (lv' := [(5, .long x7), (9, .long x9_18), (0, .long x0), (2, .long x2), (4, .int x4), (7, .long x7)]) hx hb (dAt dX7_part 13 rfl) hl (by decide) rfl (fun ls hl => ?_)
      refine lv_lload hx hb (dAt dX7_part 14 rfl) (lv_at hl 1 rfl) ?_
      refine lv_lstore (lv' := [(7, .long x9_18), (5, .long x7), (9, .long x9_18), (0, .long x0), (2, .long x2), (4, .int x4)]) hx hb (dAt dX7_part 15 rfl) hl (by decide) rfl (fun ls hl => ?_)
      refine lv_goto (tgt := 6) hx hb (dAt dX7_part 16 rfl) (by decide) ?_
      exact ih x0 x2 x4 x7 x9_18 σ  _ _ _ hw (lv_sub hl [3, 4, 5, 1, 0] rfl) h
set_option maxHeartbeats 4000000 in
set_option maxRecDepth 100000 in
theorem kX7_part (l : Launch) (E : wE) (hE : wM E) (x0 : Int64) (x2 : Int64) (x4 : Int32) (σ : Mem) (Q : Int64 → Mem → Prop) (h : wX7_part x0 x2 x4 σ Q) : Met l yX7_part (Cond.code yX7_part cX7_part 11 (some .long) :: TB) rX7_part (wPc E σ [.long x0, .long x2, .int x4]) (wQl E Q) 0 0 (wA E) := by
  refine wMet (by decide) hE.2.2 (Nat.le_of_ble_eq_true rfl) ?_
  intro p e s m args below meth c ls C hr hlk hl hw
  have hx := C.1.1
  have hb := C.1.2.1
  replace C : Cx p s m args c cX7_part 11 RX7 E (wA E) := C
  replace hl : lv_has ls 11 [(0, .long x0), (2, .long x2), (4, .int x4)] := hl
  unfold wX7_part at h
  refine lv_lload_n hx hb (dAt dX7_part 0 rfl) rfl (lv_at hl 0 rfl) ?_
  refine lv_lstore (lv' := [(5, .long x0), (0, .long x0), (2, .long x2), (4, .int x4)]) hx hb (dAt dX7_part 1 rfl) hl (by decide) rfl (fun ls hl => ?_)
  refine lv_lload_n hx hb (dAt dX7_part 2 rfl) rfl (lv_at hl 2 rfl) ?_
  refine lv_lstore (lv' := [(7, .long x2), (5, .long x0), (0, .long x0), (2, .long x2), (4, .int x4)]) hx hb (dAt dX7_part 3 rfl) hl (by decide) rfl (fun ls hl => ?_)
  obtain ⟨n6, h⟩ := h
  exact kX7_part_6 hE C hr hlk n6 x0 x2 x4 x0 x2 σ  _ _ _ hw (lv_sub hl [2, 3, 4, 1, 0] rfl) h
def tX7_finds : List (Nat × Instr × Nat) := [(0, .aload_n 0, 1), (1, .iload_n 1, 1), (2, .putfield 92, 3), (5, .bipush (-10), 2), (7, .iload_n 1, 1), (8, .isub, 1), (9, .ireturn, 1)]
theorem dX7_finds : dOk cX7_finds tX7_finds = true := by decide +kernel
abbrev rX7_finds : Room := { frames := 0, cells := 0, slots := 0, locals := 0 }
def wX7_finds (x1 : Int32) (σ : Mem) (Q : Int32 → Mem → Prop) : Prop := (∀ σ2 : Mem, σ2 = um σ 0 4 x1 → (Q ((-10 : Int32) - x1) σ2))
set_option maxHeartbeats 4000000 in
set_option maxRecDepth 100000 in
theorem kX7_finds (l : Launch) (E : wE) (hE : wM E) (x1 : Int32) (σ : Mem) (Q : Int32 → Mem → Prop) (h : wX7_finds x1 σ Q) : Met l yX7_finds (Cond.code yX7_finds cX7_finds 2 (some .int) :: TB) rX7_finds (wPc E σ [.ref (gE E 0), .int x1]) (wQi E Q) 0 0 (wA E) := by
  refine wMet (by decide) hE.2.2 (Nat.le_of_ble_eq_true rfl) ?_
  intro p e s m args below meth c ls C hr hlk hl hw
  have hx := C.1.1
  have hb := C.1.2.1
  replace C : Cx p s m args c cX7_finds 2 RX7 E (wA E) := C
  replace hl : lv_has ls 2 [(0, .ref (gE E 0)), (1, .int x1)] := hl
  unfold wX7_finds at h
  refine lv_aload_n hx hb (dAt dX7_finds 0 rfl) rfl (lv_at hl 0 rfl) ?_
  refine lv_iload_n hx hb (dAt dX7_finds 1 rfl) rfl (lv_at hl 1 rfl) ?_
  refine x_pf C hw fl_X7_92 (hE.1 0) (nM hE (by decide)) rfl rfl rfl (dAt dX7_finds 2 rfl) (fun σ2 H locs eσ2 hw => ?_)
  replace h := h σ2 eσ2
  refine lv_bipush (v := -10) hx hb (dAt dX7_finds 3 rfl) (by decide) ?_
  refine lv_iload_n hx hb (dAt dX7_finds 4 rfl) rfl (lv_at hl 1 rfl) ?_
  refine lv_isub hx hb (dAt dX7_finds 5 rfl) ?_
  exact x_iret C hw hr hlk h (dAt dX7_finds 6 rfl)
def tX7_isSheet : List (Nat × Instr × Nat) := [(0, .iload_n 0, 1), (1, .i2l, 1), (2, .lconst 0, 1), (3, .ldc2_w 95, 3), (6, .invokestatic 88, 3), (9, .ireturn, 1)]
theorem dX7_isSheet : dOk cX7_isSheet tX7_isSheet = true := by decide +kernel
abbrev rX7_isSheet : Room := { frames := 1, cells := 0, slots := 0, locals := 25 }
def wX7_isSheet (x0 : Int32) (σ : Mem) (Q : Int32 → Mem → Prop) : Prop := (wX7_in ((x0).toInt64) (0 : Int64) (3 : Int64) σ (fun r6 σ6 => (bz r6 ∧ Q r6 σ6)))
set_option maxHeartbeats 4000000 in
set_option maxRecDepth 100000 in
theorem kX7_isSheet (l : Launch) (E : wE) (hE : wM E) (x0 : Int32) (σ : Mem) (Q : Int32 → Mem → Prop) (h : wX7_isSheet x0 σ Q) : Met l yX7_isSheet (Cond.code yX7_isSheet cX7_isSheet 1 (some .boolean) :: TB) rX7_isSheet (wPc E σ [.int x0]) (wQi E Q) 0 0 (wA E) := by
  refine wMet (by decide) hE.2.2 (Nat.le_of_ble_eq_true rfl) ?_
  intro p e s m args below meth c ls C hr hlk hl hw
  have hx := C.1.1
  have hb := C.1.2.1
  replace C : Cx p s m args c cX7_isSheet 1 RX7 E (wA E) := C
  replace hl : lv_has ls 1 [(0, .int x0)] := hl
  unfold wX7_isSheet at h
  refine lv_iload_n hx hb (dAt dX7_isSheet 0 rfl) rfl (lv_at hl 0 rfl) ?_
  refine lv_i2l hx hb (dAt dX7_isSheet 1 rfl) rfl ?_
  refine lv_lconst (v := 0) hx hb (dAt dX7_isSheet 2 rfl) (by decide) ?_
  refine lv_ldc2 (v := 3) hx hb C.1.2.2.2.1 (C.1.2.2.2.2 _ ck_X7_95) (dAt dX7_isSheet 3 rfl) ?_
  refine x_calli C hw (x_runS (As := [.long ((x0).toInt64), .long (0 : Int64), .long (3 : Int64)]) (rest := []) C hw (kX7_in l E hE ((x0).toInt64) (0 : Int64) (3 : Int64) σ _ h) mtX7_in lk_X7_88 ⟨by decide, by decide⟩ ⟨rfl, rfl⟩ rfl hl.1 rfl (Nat.le_of_ble_eq_true rfl) (dAt dX7_isSheet 4 rfl) ⟨Nat.zero_le _, Nat.zero_le _⟩) (fun r6 σ6 H locs h hw => ?_)
  exact x_zret C hw hr hlk h.1 h.2 (dAt dX7_isSheet 5 rfl)
def tX7_sheet : List (Nat × Instr × Nat) := [(0, .iload_n 1, 1), (1, .invokestatic 97, 3), (4, .ifCond .eq 21, 3), (7, .iload_n 2, 1), (8, .i2l, 1), (9, .lconst 0, 1), (10, .ldc2_w 101, 3), (13, .invokestatic 88, 3), (16, .ifCond .eq 9, 3), (19, .iload_n 3, 1), (20, .bipush 60, 2), (22, .if_icmp .le 6, 3), (25, .bipush (-2), 2), (27, .ireturn, 1), (28, .iload_n 3, 1), (29, .ifCond .ge 9, 3), (32, .aload_n 0, 1), (33, .iconst 5, 1), (34, .invokevirtual 103, 3), (37, .ireturn, 1), (38, .aload_n 0, 1), (39, .getfield 7, 3), (42, .iload_n 1, 1), (43, .iload_n 2, 1), (44, .iastore, 1), (45, .aload_n 0, 1), (46, .getfield 13, 3), (49, .iload_n 1, 1), (50, .iload_n 3, 1), (51, .iastore, 1), (52, .iconst 0, 1), (53, .istore 4, 2), (55, .iload 4, 2), (57, .iload_n 3, 1), (58, .if_icmp .ge 22, 3), (61, .aload_n 0, 1), (62, .getfield 16, 3), (65, .bipush 60, 2), (67, .iload_n 1, 1), (68, .imul, 1), (69, .iload 4, 2), (71, .iadd, 1), (72, .iconst 0, 1), (73, .iastore, 1), (74, .iinc 4 1, 3), (77, .goto (-22), 3), (80, .iload_n 3, 1), (81, .ireturn, 1)]
theorem dX7_sheet : dOk cX7_sheet tX7_sheet = true := by decide +kernel
abbrev rX7_sheet : Room := { frames := 2, cells := 0, slots := 0, locals := 45 }
def wX7_sheet_55 (Q : Int32 → Mem → Prop) : Nat → Int32 → Int32 → Int32 → Mem → Prop
  | 0, _, _, _, _ => False
  | n + 1, x1, x3, x4, σ => (((x3 ≤ x4) → (Q x3 σ)) ∧ ((¬ x3 ≤ x4) → (vp_in (((60 : Int32) * x1) + x4) 240 ∧ (∀ σ73 : Mem, σ73 = um σ 3 ((((60 : Int32) * x1) + x4)).toNatClampNeg (0 : Int32) → (wX7_sheet_55 Q n x1 x3 (x4 + (1 : Int32)) σ73)))))
def wX7_sheet (x1 : Int32) (x2 : Int32) (x3 : Int32) (σ : Mem) (Q : Int32 → Mem → Prop) : Prop := (wX7_isSheet x1 σ (fun r1 σ1 => (((r1 = 0) → (Q (-2 : Int32) σ1)) ∧ ((¬ r1 = 0) → (wX7_in ((x2).toInt64) (0 : Int64) (2 : Int64) σ1 (fun r13 σ13 => (((r13 = 0) → (Q (-2 : Int32) σ13)) ∧ ((¬ r13 = 0) → (((x3 ≤ (60 : Int32)) → (((0 ≤ x3) → (vp_in x1 4 ∧ (∀ σ44 : Mem, σ44 = um σ13 1 (x1).toNatClampNeg x2 → (vp_in x1 4 ∧ (∀ σ51 : Mem, σ51 = um σ44 2 (x1).toNatClampNeg x3 → (∃ N55, wX7_sheet_55 Q N55 x1 x3 (0 : Int32) σ51)))))) ∧ ((¬ 0 ≤ x3) → (wX7_finds (5 : Int32) σ13 (fun r34 σ34 => (Q r34 σ34)))))) ∧ ((¬ x3 ≤ (60 : Int32)) → (Q (-2 : Int32) σ13)))))))))))
set_option maxHeartbeats 4000000 in
set_option maxRecDepth 100000 in
theorem kX7_sheet_55 {p : Program} {l : Launch} {e : Env} {s : State} {m : MethodId} {args : Array Value} {below : List Frame} {meth : Method} {c : Code} {E : wE} (hE : wM E) (C : Cx p s m args c cX7_sheet 5 RX7 E (wA E)) (hr : meth.sig.returnType = (some .int)) (hlk : meth.locks = false) {Q : Int32 → Mem → Prop} : ∀ (n : Nat) (x1 : Int32) (x3 : Int32) (x4 : Int32) (σ : Mem) (H : Heap) (locs : List Loc) (ls : Array Slot), wd E (wA E) s σ H locs → lv_has ls 5 [(0, .ref (gE E 0)), (1, .int x1), (3, .int x3), (4, .int x4)] → wX7_sheet_55 Q n x1 x3 x4 σ → W p l e rX7_sheet s m args below meth c H locs 0 0 (MQ below (wQi E Q) args s 0 0 (wA E)) (F0 m 55 ls []) := by
  have hx := C.1.1
  have hb := C.1.2.1
  intro n
  induction n with
  | zero =>
    intro x1 x3 x4 σ  H locs ls hw hl h
    exact h.elim
  | succ n ih =>
    intro x1 x3 x4 σ  H locs ls hw hl h
    rw [wX7_sheet_55] at h
    refine lv_iload hx hb (dAt dX7_sheet 32 rfl) (lv_at hl 3 rfl) ?_
    refine lv_iload_n hx hb (dAt dX7_sheet 33 rfl) rfl (lv_at hl 2 rfl) ?_
    refine lv_icmp_ge (tgt := 80) hx hb (dAt dX7_sheet 34 rfl) (by decide) (fun c58 => ?_) (fun c58 => ?_)
    · replace h := h.1 c58
      refine lv_iload_n hx hb (dAt dX7_sheet 46 rfl) rfl (lv_at hl 2 rfl) ?_
      exact x_iret C hw hr hlk h (dAt dX7_sheet 47 rfl)
    · replace h := h.2 c58
      refine lv_aload_n hx hb (dAt dX7_sheet 35 rfl) rfl (lv_at hl 0 rfl) ?_
      refine x_getr C hw fl_X7_16 (hE.1 0) (nM hE (by decide)) rfl (dAt dX7_sheet 36 rfl) ?_
      refine lv_bipush (v := 60) hx hb (dAt dX7_sheet 37 rfl) (by decide) ?_
      refine lv_iload_n hx hb (dAt dX7_sheet 38 rfl) rfl (lv_at hl 1 rfl) ?_
      refine lv_imul hx hb (dAt dX7_sheet 39 rfl) ?_
      refine lv_iload hx hb (dAt dX7_sheet 40 rfl) (lv_at hl 3 rfl) ?_
      refine lv_iadd hx hb (dAt dX7_sheet 41 rfl) ?_
      refine lv_iconst (v := 0) hx hb (dAt dX7_sheet 42 rfl) (by decide) ?_
      obtain ⟨z73, h⟩ := h
      refine x_ist C hw (hE.1 3) (nM hE (by decide)) z73 rfl (dAt dX7_sheet 43 rfl) (fun σ73 H locs eσ73 hw => ?_)
      replace h := h σ73 eσ73
      refine lv_iinc (v := (x4 + (1 : Int32))) (lv' := [(4, .int (x4 + (1 : Int32))), (0, .ref (gE E 0)), (1, .int x1), (3, .int x3)]) hx hb (dAt dX7_sheet 44 rfl) hl (k := 3) rfl rfl (by decide) rfl (fun ls hl => ?_)
      refine lv_goto (tgt := 55) hx hb (dAt dX7_sheet 45 rfl) (by decide) ?_
      exact ih x1 x3 (x4 + (1 : Int32)) σ73  _ _ _ hw (lv_sub hl [1, 2, 3, 0] rfl) h
set_option maxHeartbeats 4000000 in
set_option maxRecDepth 100000 in
theorem kX7_sheet (l : Launch) (E : wE) (hE : wM E) (x1 : Int32) (x2 : Int32) (x3 : Int32) (σ : Mem) (Q : Int32 → Mem → Prop) (h : wX7_sheet x1 x2 x3 σ Q) : Met l yX7_sheet (Cond.code yX7_sheet cX7_sheet 5 (some .int) :: TB) rX7_sheet (wPc E σ [.ref (gE E 0), .int x1, .int x2, .int x3]) (wQi E Q) 0 0 (wA E) := by
  refine wMet (by decide) hE.2.2 (Nat.le_of_ble_eq_true rfl) ?_
  intro p e s m args below meth c ls C hr hlk hl hw
  have hx := C.1.1
  have hb := C.1.2.1
  replace C : Cx p s m args c cX7_sheet 5 RX7 E (wA E) := C
  replace hl : lv_has ls 5 [(0, .ref (gE E 0)), (1, .int x1), (2, .int x2), (3, .int x3)] := hl
  unfold wX7_sheet at h
  refine lv_iload_n hx hb (dAt dX7_sheet 0 rfl) rfl (lv_at hl 1 rfl) ?_
  refine x_calli C hw (x_runS (As := [.int x1]) (rest := []) C hw (kX7_isSheet l E hE x1 σ _ h) mtX7_isSheet lk_X7_97 ⟨by decide, by decide⟩ ⟨rfl, rfl⟩ rfl hl.1 rfl (Nat.le_of_ble_eq_true rfl) (dAt dX7_sheet 1 rfl) ⟨Nat.zero_le _, Nat.zero_le _⟩) (fun r1 σ1 H locs h hw => ?_)
  refine lv_if_eq (tgt := 25) hx hb (dAt dX7_sheet 2 rfl) (by decide) (fun c4 => ?_) (fun c4 => ?_)
  · replace h := h.1 c4
    refine lv_bipush (v := -2) hx hb (dAt dX7_sheet 12 rfl) (by decide) ?_
    exact x_iret C hw hr hlk h (dAt dX7_sheet 13 rfl)
  · replace h := h.2 c4
    refine lv_iload_n hx hb (dAt dX7_sheet 3 rfl) rfl (lv_at hl 2 rfl) ?_
    refine lv_i2l hx hb (dAt dX7_sheet 4 rfl) rfl ?_
    refine lv_lconst (v := 0) hx hb (dAt dX7_sheet 5 rfl) (by decide) ?_
    refine lv_ldc2 (v := 2) hx hb C.1.2.2.2.1 (C.1.2.2.2.2 _ ck_X7_101) (dAt dX7_sheet 6 rfl) ?_
    refine x_calli C hw (x_runS (As := [.long ((x2).toInt64), .long (0 : Int64), .long (2 : Int64)]) (rest := []) C hw (kX7_in l E hE ((x2).toInt64) (0 : Int64) (2 : Int64) σ1 _ h) mtX7_in lk_X7_88 ⟨by decide, by decide⟩ ⟨rfl, rfl⟩ rfl hl.1 rfl (Nat.le_of_ble_eq_true rfl) (dAt dX7_sheet 7 rfl) ⟨Nat.zero_le _, Nat.zero_le _⟩) (fun r13 σ13 H locs h hw => ?_)
    refine lv_if_eq (tgt := 25) hx hb (dAt dX7_sheet 8 rfl) (by decide) (fun c16 => ?_) (fun c16 => ?_)
    · replace h := h.1 c16
      refine lv_bipush (v := -2) hx hb (dAt dX7_sheet 12 rfl) (by decide) ?_
      exact x_iret C hw hr hlk h (dAt dX7_sheet 13 rfl)
    · replace h := h.2 c16
      refine lv_iload_n hx hb (dAt dX7_sheet 9 rfl) rfl (lv_at hl 3 rfl) ?_
      refine lv_bipush (v := 60) hx hb (dAt dX7_sheet 10 rfl) (by decide) ?_
      refine lv_icmp_le (tgt := 28) hx hb (dAt dX7_sheet 11 rfl) (by decide) (fun c22 => ?_) (fun c22 => ?_)
      · replace h := h.1 c22
        refine lv_iload_n hx hb (dAt dX7_sheet 14 rfl) rfl (lv_at hl 3 rfl) ?_
        refine lv_if_ge (tgt := 38) hx hb (dAt dX7_sheet 15 rfl) (by decide) (fun c29 => ?_) (fun c29 => ?_)
        · replace h := h.1 c29
          refine lv_aload_n hx hb (dAt dX7_sheet 20 rfl) rfl (lv_at hl 0 rfl) ?_
          refine x_getr C hw fl_X7_7 (hE.1 0) (nM hE (by decide)) rfl (dAt dX7_sheet 21 rfl) ?_
          refine lv_iload_n hx hb (dAt dX7_sheet 22 rfl) rfl (lv_at hl 1 rfl) ?_
          refine lv_iload_n hx hb (dAt dX7_sheet 23 rfl) rfl (lv_at hl 2 rfl) ?_
          obtain ⟨z44, h⟩ := h
          refine x_ist C hw (hE.1 1) (nM hE (by decide)) z44 rfl (dAt dX7_sheet 24 rfl) (fun σ44 H locs eσ44 hw => ?_)
          replace h := h σ44 eσ44
          refine lv_aload_n hx hb (dAt dX7_sheet 25 rfl) rfl (lv_at hl 0 rfl) ?_
          refine x_getr C hw fl_X7_13 (hE.1 0) (nM hE (by decide)) rfl (dAt dX7_sheet 26 rfl) ?_
          refine lv_iload_n hx hb (dAt dX7_sheet 27 rfl) rfl (lv_at hl 1 rfl) ?_
          refine lv_iload_n hx hb (dAt dX7_sheet 28 rfl) rfl (lv_at hl 3 rfl) ?_
          obtain ⟨z51, h⟩ := h
          refine x_ist C hw (hE.1 2) (nM hE (by decide)) z51 rfl (dAt dX7_sheet 29 rfl) (fun σ51 H locs eσ51 hw => ?_)
          replace h := h σ51 eσ51
          refine lv_iconst (v := 0) hx hb (dAt dX7_sheet 30 rfl) (by decide) ?_
          refine lv_istore (lv' := [(4, .int (0 : Int32)), (0, .ref (gE E 0)), (1, .int x1), (2, .int x2), (3, .int x3)]) hx hb (dAt dX7_sheet 31 rfl) hl (by decide) rfl (fun ls hl => ?_)
          obtain ⟨n55, h⟩ := h
          exact kX7_sheet_55 hE C hr hlk n55 x1 x3 (0 : Int32) σ51  _ _ _ hw (lv_sub hl [1, 2, 4, 0] rfl) h
        · replace h := h.2 c29
          refine lv_aload_n hx hb (dAt dX7_sheet 16 rfl) rfl (lv_at hl 0 rfl) ?_
          refine lv_iconst (v := 5) hx hb (dAt dX7_sheet 17 rfl) (by decide) ?_
          refine x_calli C hw (x_runV (As := [.int (5 : Int32)]) (rest := []) C hw (kX7_finds l E hE (5 : Int32) σ13 _ h) mtX7_finds lk_X7_103 (hE.1 0) (nM hE (by decide)) rfl ⟨by decide, by decide⟩ ⟨rfl, rfl⟩ rfl hl.1 rfl (Nat.le_of_ble_eq_true rfl) (dAt dX7_sheet 18 rfl) ⟨Nat.zero_le _, Nat.zero_le _⟩) (fun r34 σ34 H locs h hw => ?_)
          exact x_iret C hw hr hlk h (dAt dX7_sheet 19 rfl)
      · replace h := h.2 c22
        refine lv_bipush (v := -2) hx hb (dAt dX7_sheet 12 rfl) (by decide) ?_
        exact x_iret C hw hr hlk h (dAt dX7_sheet 13 rfl)
def tX7_lose : List (Nat × Instr × Nat) := [(0, .iload_n 1, 1), (1, .invokestatic 97, 3), (4, .ifCond .ne 6, 3), (7, .bipush (-2), 2), (9, .ireturn, 1), (10, .aload_n 0, 1), (11, .getfield 7, 3), (14, .iload_n 1, 1), (15, .iaload, 1), (16, .ifCond .ge 9, 3), (19, .aload_n 0, 1), (20, .iconst 1, 1), (21, .invokevirtual 103, 3), (24, .ireturn, 1), (25, .aload_n 0, 1), (26, .getfield 7, 3), (29, .iload_n 1, 1), (30, .iconst (-1), 1), (31, .iastore, 1), (32, .aload_n 0, 1), (33, .getfield 13, 3), (36, .iload_n 1, 1), (37, .iaload, 1), (38, .ireturn, 1)]
theorem dX7_lose : dOk cX7_lose tX7_lose = true := by decide +kernel
abbrev rX7_lose : Room := { frames := 2, cells := 0, slots := 0, locals := 45 }
def wX7_lose (x1 : Int32) (σ : Mem) (Q : Int32 → Mem → Prop) : Prop := (wX7_isSheet x1 σ (fun r1 σ1 => (((¬ r1 = 0) → (vp_in x1 4 ∧ (((0 ≤ (σ1 1 (x1).toNatClampNeg)) → (vp_in x1 4 ∧ (∀ σ31 : Mem, σ31 = um σ1 1 (x1).toNatClampNeg (-1 : Int32) → (vp_in x1 4 ∧ (Q (σ31 2 (x1).toNatClampNeg) σ31))))) ∧ ((¬ 0 ≤ (σ1 1 (x1).toNatClampNeg)) → (wX7_finds (1 : Int32) σ1 (fun r21 σ21 => (Q r21 σ21))))))) ∧ ((r1 = 0) → (Q (-2 : Int32) σ1)))))
set_option maxHeartbeats 4000000 in
set_option maxRecDepth 100000 in
theorem kX7_lose (l : Launch) (E : wE) (hE : wM E) (x1 : Int32) (σ : Mem) (Q : Int32 → Mem → Prop) (h : wX7_lose x1 σ Q) : Met l yX7_lose (Cond.code yX7_lose cX7_lose 2 (some .int) :: TB) rX7_lose (wPc E σ [.ref (gE E 0), .int x1]) (wQi E Q) 0 0 (wA E) := by
  refine wMet (by decide) hE.2.2 (Nat.le_of_ble_eq_true rfl) ?_
  intro p e s m args below meth c ls C hr hlk hl hw
  have hx := C.1.1
  have hb := C.1.2.1
  replace C : Cx p s m args c cX7_lose 2 RX7 E (wA E) := C
  replace hl : lv_has ls 2 [(0, .ref (gE E 0)), (1, .int x1)] := hl
  unfold wX7_lose at h
  refine lv_iload_n hx hb (dAt dX7_lose 0 rfl) rfl (lv_at hl 1 rfl) ?_
  refine x_calli C hw (x_runS (As := [.int x1]) (rest := []) C hw (kX7_isSheet l E hE x1 σ _ h) mtX7_isSheet lk_X7_97 ⟨by decide, by decide⟩ ⟨rfl, rfl⟩ rfl hl.1 rfl (Nat.le_of_ble_eq_true rfl) (dAt dX7_lose 1 rfl) ⟨Nat.zero_le _, Nat.zero_le _⟩) (fun r1 σ1 H locs h hw => ?_)
  refine lv_if_ne (tgt := 10) hx hb (dAt dX7_lose 2 rfl) (by decide) (fun c4 => ?_) (fun c4 => ?_)
  · replace h := h.1 c4
    refine lv_aload_n hx hb (dAt dX7_lose 5 rfl) rfl (lv_at hl 0 rfl) ?_
    refine x_getr C hw fl_X7_7 (hE.1 0) (nM hE (by decide)) rfl (dAt dX7_lose 6 rfl) ?_
    refine lv_iload_n hx hb (dAt dX7_lose 7 rfl) rfl (lv_at hl 1 rfl) ?_
    obtain ⟨z15, h⟩ := h
    refine x_ild C hw (hE.1 1) (nM hE (by decide)) z15 rfl (dAt dX7_lose 8 rfl) ?_
    refine lv_if_ge (tgt := 25) hx hb (dAt dX7_lose 9 rfl) (by decide) (fun c16 => ?_) (fun c16 => ?_)
    · replace h := h.1 c16
      refine lv_aload_n hx hb (dAt dX7_lose 14 rfl) rfl (lv_at hl 0 rfl) ?_
      refine x_getr C hw fl_X7_7 (hE.1 0) (nM hE (by decide)) rfl (dAt dX7_lose 15 rfl) ?_
      refine lv_iload_n hx hb (dAt dX7_lose 16 rfl) rfl (lv_at hl 1 rfl) ?_
      refine lv_iconst (v := -1) hx hb (dAt dX7_lose 17 rfl) (by decide) ?_
      obtain ⟨z31, h⟩ := h
      refine x_ist C hw (hE.1 1) (nM hE (by decide)) z31 rfl (dAt dX7_lose 18 rfl) (fun σ31 H locs eσ31 hw => ?_)
      replace h := h σ31 eσ31
      refine lv_aload_n hx hb (dAt dX7_lose 19 rfl) rfl (lv_at hl 0 rfl) ?_
      refine x_getr C hw fl_X7_13 (hE.1 0) (nM hE (by decide)) rfl (dAt dX7_lose 20 rfl) ?_
      refine lv_iload_n hx hb (dAt dX7_lose 21 rfl) rfl (lv_at hl 1 rfl) ?_
      obtain ⟨z37, h⟩ := h
      refine x_ild C hw (hE.1 2) (nM hE (by decide)) z37 rfl (dAt dX7_lose 22 rfl) ?_
      exact x_iret C hw hr hlk h (dAt dX7_lose 23 rfl)
    · replace h := h.2 c16
      refine lv_aload_n hx hb (dAt dX7_lose 10 rfl) rfl (lv_at hl 0 rfl) ?_
      refine lv_iconst (v := 1) hx hb (dAt dX7_lose 11 rfl) (by decide) ?_
      refine x_calli C hw (x_runV (As := [.int (1 : Int32)]) (rest := []) C hw (kX7_finds l E hE (1 : Int32) σ1 _ h) mtX7_finds lk_X7_103 (hE.1 0) (nM hE (by decide)) rfl ⟨by decide, by decide⟩ ⟨rfl, rfl⟩ rfl hl.1 rfl (Nat.le_of_ble_eq_true rfl) (dAt dX7_lose 12 rfl) ⟨Nat.zero_le _, Nat.zero_le _⟩) (fun r21 σ21 H locs h hw => ?_)
      exact x_iret C hw hr hlk h (dAt dX7_lose 13 rfl)
  · replace h := h.2 c4
    refine lv_bipush (v := -2) hx hb (dAt dX7_lose 3 rfl) (by decide) ?_
    exact x_iret C hw hr hlk h (dAt dX7_lose 4 rfl)
def tX7_lacks : List (Nat × Instr × Nat) := [(0, .aload_n 0, 1), (1, .getfield 7, 3), (4, .iload_n 1, 1), (5, .iaload, 1), (6, .ifCond .ge 9, 3), (9, .aload_n 0, 1), (10, .iconst 1, 1), (11, .invokevirtual 103, 3), (14, .ireturn, 1), (15, .aload_n 0, 1), (16, .getfield 7, 3), (19, .iload_n 1, 1), (20, .iaload, 1), (21, .iload_n 2, 1), (22, .if_icmp .eq 9, 3), (25, .aload_n 0, 1), (26, .iconst 3, 1), (27, .invokevirtual 103, 3), (30, .ireturn, 1), (31, .iload_n 3, 1), (32, .i2l, 1), (33, .lconst 0, 1), (34, .aload_n 0, 1), (35, .getfield 13, 3), (38, .iload_n 1, 1), (39, .iaload, 1), (40, .iconst 1, 1), (41, .isub, 1), (42, .i2l, 1), (43, .invokestatic 88, 3), (46, .ifCond .eq 7, 3), (49, .iconst 0, 1), (50, .goto 8, 3), (53, .aload_n 0, 1), (54, .iconst 2, 1), (55, .invokevirtual 103, 3), (58, .ireturn, 1)]
theorem dX7_lacks : dOk cX7_lacks tX7_lacks = true := by decide +kernel
abbrev rX7_lacks : Room := { frames := 1, cells := 0, slots := 0, locals := 25 }
def wX7_lacks (x1 : Int32) (x2 : Int32) (x3 : Int32) (σ : Mem) (Q : Int32 → Mem → Prop) : Prop := (vp_in x1 4 ∧ (((0 ≤ (σ 1 (x1).toNatClampNeg)) → (vp_in x1 4 ∧ ((((σ 1 (x1).toNatClampNeg) = x2) → (vp_in x1 4 ∧ (wX7_in ((x3).toInt64) (0 : Int64) ((((σ 2 (x1).toNatClampNeg) - (1 : Int32))).toInt64) σ (fun r43 σ43 => (((r43 = 0) → (wX7_finds (2 : Int32) σ43 (fun r55 σ55 => (Q r55 σ55)))) ∧ ((¬ r43 = 0) → (Q (0 : Int32) σ43))))))) ∧ ((¬ (σ 1 (x1).toNatClampNeg) = x2) → (wX7_finds (3 : Int32) σ (fun r27 σ27 => (Q r27 σ27))))))) ∧ ((¬ 0 ≤ (σ 1 (x1).toNatClampNeg)) → (wX7_finds (1 : Int32) σ (fun r11 σ11 => (Q r11 σ11))))))
set_option maxHeartbeats 4000000 in
set_option maxRecDepth 100000 in
theorem kX7_lacks (l : Launch) (E : wE) (hE : wM E) (x1 : Int32) (x2 : Int32) (x3 : Int32) (σ : Mem) (Q : Int32 → Mem → Prop) (h : wX7_lacks x1 x2 x3 σ Q) : Met l yX7_lacks (Cond.code yX7_lacks cX7_lacks 4 (some .int) :: TB) rX7_lacks (wPc E σ [.ref (gE E 0), .int x1, .int x2, .int x3]) (wQi E Q) 0 0 (wA E) := by
  refine wMet (by decide) hE.2.2 (Nat.le_of_ble_eq_true rfl) ?_
  intro p e s m args below meth c ls C hr hlk hl hw
  have hx := C.1.1
  have hb := C.1.2.1
  replace C : Cx p s m args c cX7_lacks 4 RX7 E (wA E) := C
  replace hl : lv_has ls 4 [(0, .ref (gE E 0)), (1, .int x1), (2, .int x2), (3, .int x3)] := hl
  unfold wX7_lacks at h
  refine lv_aload_n hx hb (dAt dX7_lacks 0 rfl) rfl (lv_at hl 0 rfl) ?_
  refine x_getr C hw fl_X7_7 (hE.1 0) (nM hE (by decide)) rfl (dAt dX7_lacks 1 rfl) ?_
  refine lv_iload_n hx hb (dAt dX7_lacks 2 rfl) rfl (lv_at hl 1 rfl) ?_
  obtain ⟨z5, h⟩ := h
  refine x_ild C hw (hE.1 1) (nM hE (by decide)) z5 rfl (dAt dX7_lacks 3 rfl) ?_
  refine lv_if_ge (tgt := 15) hx hb (dAt dX7_lacks 4 rfl) (by decide) (fun c6 => ?_) (fun c6 => ?_)
  · replace h := h.1 c6
    refine lv_aload_n hx hb (dAt dX7_lacks 9 rfl) rfl (lv_at hl 0 rfl) ?_
    refine x_getr C hw fl_X7_7 (hE.1 0) (nM hE (by decide)) rfl (dAt dX7_lacks 10 rfl) ?_
    refine lv_iload_n hx hb (dAt dX7_lacks 11 rfl) rfl (lv_at hl 1 rfl) ?_
    obtain ⟨z20, h⟩ := h
    refine x_ild C hw (hE.1 1) (nM hE (by decide)) z20 rfl (dAt dX7_lacks 12 rfl) ?_
    refine lv_iload_n hx hb (dAt dX7_lacks 13 rfl) rfl (lv_at hl 2 rfl) ?_
    refine lv_icmp_eq (tgt := 31) hx hb (dAt dX7_lacks 14 rfl) (by decide) (fun c22 => ?_) (fun c22 => ?_)
    · replace h := h.1 c22
      refine lv_iload_n hx hb (dAt dX7_lacks 19 rfl) rfl (lv_at hl 3 rfl) ?_
      refine lv_i2l hx hb (dAt dX7_lacks 20 rfl) rfl ?_
      refine lv_lconst (v := 0) hx hb (dAt dX7_lacks 21 rfl) (by decide) ?_
      refine lv_aload_n hx hb (dAt dX7_lacks 22 rfl) rfl (lv_at hl 0 rfl) ?_
      refine x_getr C hw fl_X7_13 (hE.1 0) (nM hE (by decide)) rfl (dAt dX7_lacks 23 rfl) ?_
      refine lv_iload_n hx hb (dAt dX7_lacks 24 rfl) rfl (lv_at hl 1 rfl) ?_
      obtain ⟨z39, h⟩ := h
      refine x_ild C hw (hE.1 2) (nM hE (by decide)) z39 rfl (dAt dX7_lacks 25 rfl) ?_
      refine lv_iconst (v := 1) hx hb (dAt dX7_lacks 26 rfl) (by decide) ?_
      refine lv_isub hx hb (dAt dX7_lacks 27 rfl) ?_
      refine lv_i2l hx hb (dAt dX7_lacks 28 rfl) rfl ?_
      refine x_calli C hw (x_runS (As := [.long ((x3).toInt64), .long (0 : Int64), .long ((((σ 2 (x1).toNatClampNeg) - (1 : Int32))).toInt64)]) (rest := []) C hw (kX7_in l E hE ((x3).toInt64) (0 : Int64) ((((σ 2 (x1).toNatClampNeg) - (1 : Int32))).toInt64) σ _ h) mtX7_in lk_X7_88 ⟨by decide, by decide⟩ ⟨rfl, rfl⟩ rfl hl.1 rfl (Nat.le_of_ble_eq_true rfl) (dAt dX7_lacks 29 rfl) ⟨Nat.zero_le _, Nat.zero_le _⟩) (fun r43 σ43 H locs h hw => ?_)
      refine lv_if_eq (tgt := 53) hx hb (dAt dX7_lacks 30 rfl) (by decide) (fun c46 => ?_) (fun c46 => ?_)
      · replace h := h.1 c46
        refine lv_aload_n hx hb (dAt dX7_lacks 33 rfl) rfl (lv_at hl 0 rfl) ?_
        refine lv_iconst (v := 2) hx hb (dAt dX7_lacks 34 rfl) (by decide) ?_
        refine x_calli C hw (x_runV (As := [.int (2 : Int32)]) (rest := []) C hw (kX7_finds l E hE (2 : Int32) σ43 _ h) mtX7_finds lk_X7_103 (hE.1 0) (nM hE (by decide)) rfl ⟨by decide, by decide⟩ ⟨rfl, rfl⟩ rfl hl.1 rfl (Nat.le_of_ble_eq_true rfl) (dAt dX7_lacks 35 rfl) ⟨Nat.zero_le _, Nat.zero_le _⟩) (fun r55 σ55 H locs h hw => ?_)
        exact x_iret C hw hr hlk h (dAt dX7_lacks 36 rfl)
      · replace h := h.2 c46
        refine lv_iconst (v := 0) hx hb (dAt dX7_lacks 31 rfl) (by decide) ?_
        refine lv_goto (tgt := 58) hx hb (dAt dX7_lacks 32 rfl) (by decide) ?_
        exact x_iret C hw hr hlk h (dAt dX7_lacks 36 rfl)
    · replace h := h.2 c22
      refine lv_aload_n hx hb (dAt dX7_lacks 15 rfl) rfl (lv_at hl 0 rfl) ?_
      refine lv_iconst (v := 3) hx hb (dAt dX7_lacks 16 rfl) (by decide) ?_
      refine x_calli C hw (x_runV (As := [.int (3 : Int32)]) (rest := []) C hw (kX7_finds l E hE (3 : Int32) σ _ h) mtX7_finds lk_X7_103 (hE.1 0) (nM hE (by decide)) rfl ⟨by decide, by decide⟩ ⟨rfl, rfl⟩ rfl hl.1 rfl (Nat.le_of_ble_eq_true rfl) (dAt dX7_lacks 17 rfl) ⟨Nat.zero_le _, Nat.zero_le _⟩) (fun r27 σ27 H locs h hw => ?_)
      exact x_iret C hw hr hlk h (dAt dX7_lacks 18 rfl)
  · replace h := h.2 c6
    refine lv_aload_n hx hb (dAt dX7_lacks 5 rfl) rfl (lv_at hl 0 rfl) ?_
    refine lv_iconst (v := 1) hx hb (dAt dX7_lacks 6 rfl) (by decide) ?_
    refine x_calli C hw (x_runV (As := [.int (1 : Int32)]) (rest := []) C hw (kX7_finds l E hE (1 : Int32) σ _ h) mtX7_finds lk_X7_103 (hE.1 0) (nM hE (by decide)) rfl ⟨by decide, by decide⟩ ⟨rfl, rfl⟩ rfl hl.1 rfl (Nat.le_of_ble_eq_true rfl) (dAt dX7_lacks 7 rfl) ⟨Nat.zero_le _, Nat.zero_le _⟩) (fun r11 σ11 H locs h hw => ?_)
    exact x_iret C hw hr hlk h (dAt dX7_lacks 8 rfl)
def tX7_cut : List (Nat × Instr × Nat) := [(0, .iload_n 0, 1), (1, .ifCond .ne 8, 3), (4, .iload_n 1, 1), (5, .i2b, 1), (6, .goto 14, 3), (9, .iload_n 0, 1), (10, .iconst 1, 1), (11, .if_icmp .ne 8, 3), (14, .iload_n 1, 1), (15, .i2s, 1), (16, .goto 4, 3), (19, .iload_n 1, 1), (20, .ireturn, 1)]
theorem dX7_cut : dOk cX7_cut tX7_cut = true := by decide +kernel
abbrev rX7_cut : Room := { frames := 0, cells := 0, slots := 0, locals := 0 }
def wX7_cut (x0 : Int32) (x1 : Int32) (σ : Mem) (Q : Int32 → Mem → Prop) : Prop := (Q (if x0 = 0 then ((x1).toInt8.toInt32) else (if x0 = (1 : Int32) then ((x1).toInt16.toInt32) else x1)) σ)
set_option maxHeartbeats 4000000 in
set_option maxRecDepth 100000 in
theorem kX7_cut (l : Launch) (E : wE) (hE : wM E) (x0 : Int32) (x1 : Int32) (σ : Mem) (Q : Int32 → Mem → Prop) (h : wX7_cut x0 x1 σ Q) : Met l yX7_cut (Cond.code yX7_cut cX7_cut 2 (some .int) :: TB) rX7_cut (wPc E σ [.int x0, .int x1]) (wQi E Q) 0 0 (wA E) := by
  refine wMet (by decide) hE.2.2 (Nat.le_of_ble_eq_true rfl) ?_
  intro p e s m args below meth c ls C hr hlk hl hw
  have hx := C.1.1
  have hb := C.1.2.1
  replace C : Cx p s m args c cX7_cut 2 RX7 E (wA E) := C
  replace hl : lv_has ls 2 [(0, .int x0), (1, .int x1)] := hl
  unfold wX7_cut at h
  refine lv_iload_n hx hb (dAt dX7_cut 0 rfl) rfl (lv_at hl 0 rfl) ?_
  refine x_dia (ls := ls) (pcJ := 20) (cnd := x0 = 0) (a := ((x1).toInt8.toInt32)) (b := (if x0 = (1 : Int32) then ((x1).toInt16.toInt32) else x1)) ([]) ?_ (fun ht1 hf1 => ?_)
  · exact x_iret C hw hr hlk h (dAt dX7_cut 12 rfl)
  · refine lv_if_ne (tgt := 9) hx hb (dAt dX7_cut 1 rfl) (by decide) (fun c1 => ?_) (fun c1 => ?_)
    · refine lv_iload_n hx hb (dAt dX7_cut 5 rfl) rfl (lv_at hl 0 rfl) ?_
      refine lv_iconst (v := 1) hx hb (dAt dX7_cut 6 rfl) (by decide) ?_
      refine x_dia (ls := ls) _ (hf1 c1) (fun ht1_1t hf1_1t => ?_)
      refine lv_icmp_ne (tgt := 19) hx hb (dAt dX7_cut 7 rfl) (by decide) (fun c11 => ?_) (fun c11 => ?_)
      · refine lv_iload_n hx hb (dAt dX7_cut 11 rfl) rfl (lv_at hl 1 rfl) ?_
        exact hf1_1t c11
      · refine lv_iload_n hx hb (dAt dX7_cut 8 rfl) rfl (lv_at hl 1 rfl) ?_
        refine lv_i2s hx hb (dAt dX7_cut 9 rfl) rfl ?_
        refine lv_goto (tgt := 20) hx hb (dAt dX7_cut 10 rfl) (by decide) ?_
        exact ht1_1t c11
    · refine lv_iload_n hx hb (dAt dX7_cut 2 rfl) rfl (lv_at hl 1 rfl) ?_
      refine lv_i2b hx hb (dAt dX7_cut 3 rfl) rfl ?_
      refine lv_goto (tgt := 20) hx hb (dAt dX7_cut 4 rfl) (by decide) ?_
      exact ht1 c1
def tX7_lay : List (Nat × Instr × Nat) := [(0, .iload_n 1, 1), (1, .invokestatic 97, 3), (4, .ifCond .eq 15, 3), (7, .iload_n 2, 1), (8, .i2l, 1), (9, .lconst 0, 1), (10, .ldc2_w 101, 3), (13, .invokestatic 88, 3), (16, .ifCond .ne 6, 3), (19, .bipush (-2), 2), (21, .ireturn, 1), (22, .aload_n 0, 1), (23, .iload_n 1, 1), (24, .iload_n 2, 1), (25, .iload_n 3, 1), (26, .invokevirtual 107, 3), (29, .istore 5, 2), (31, .iload 5, 2), (33, .ifCond .eq 6, 3), (36, .iload 5, 2), (38, .ireturn, 1), (39, .aload_n 0, 1), (40, .getfield 16, 3), (43, .bipush 60, 2), (45, .iload_n 1, 1), (46, .imul, 1), (47, .iload_n 3, 1), (48, .iadd, 1), (49, .iload_n 2, 1), (50, .iload 4, 2), (52, .invokestatic 111, 3), (55, .iastore, 1), (56, .iconst 1, 1), (57, .ireturn, 1)]
theorem dX7_lay : dOk cX7_lay tX7_lay = true := by decide +kernel
abbrev rX7_lay : Room := { frames := 2, cells := 0, slots := 0, locals := 48 }
def wX7_lay (x1 : Int32) (x2 : Int32) (x3 : Int32) (x4 : Int32) (σ : Mem) (Q : Int32 → Mem → Prop) : Prop := (wX7_isSheet x1 σ (fun r1 σ1 => (((r1 = 0) → (Q (-2 : Int32) σ1)) ∧ ((¬ r1 = 0) → (wX7_in ((x2).toInt64) (0 : Int64) (2 : Int64) σ1 (fun r13 σ13 => (((¬ r13 = 0) → (wX7_lacks x1 x2 x3 σ13 (fun r26 σ26 => (((r26 = 0) → (wX7_cut x2 x4 σ26 (fun r52 σ52 => (vp_in (((60 : Int32) * x1) + x3) 240 ∧ (∀ σ55 : Mem, σ55 = um σ52 3 ((((60 : Int32) * x1) + x3)).toNatClampNeg r52 → (Q (1 : Int32) σ55)))))) ∧ ((¬ r26 = 0) → (Q r26 σ26)))))) ∧ ((r13 = 0) → (Q (-2 : Int32) σ13)))))))))
set_option maxHeartbeats 4000000 in
set_option maxRecDepth 100000 in
theorem kX7_lay (l : Launch) (E : wE) (hE : wM E) (x1 : Int32) (x2 : Int32) (x3 : Int32) (x4 : Int32) (σ : Mem) (Q : Int32 → Mem → Prop) (h : wX7_lay x1 x2 x3 x4 σ Q) : Met l yX7_lay (Cond.code yX7_lay cX7_lay 6 (some .int) :: TB) rX7_lay (wPc E σ [.ref (gE E 0), .int x1, .int x2, .int x3, .int x4]) (wQi E Q) 0 0 (wA E) := by
  refine wMet (by decide) hE.2.2 (Nat.le_of_ble_eq_true rfl) ?_
  intro p e s m args below meth c ls C hr hlk hl hw
  have hx := C.1.1
  have hb := C.1.2.1
  replace C : Cx p s m args c cX7_lay 6 RX7 E (wA E) := C
  replace hl : lv_has ls 6 [(0, .ref (gE E 0)), (1, .int x1), (2, .int x2), (3, .int x3), (4, .int x4)] := hl
  unfold wX7_lay at h
  refine lv_iload_n hx hb (dAt dX7_lay 0 rfl) rfl (lv_at hl 1 rfl) ?_
  refine x_calli C hw (x_runS (As := [.int x1]) (rest := []) C hw (kX7_isSheet l E hE x1 σ _ h) mtX7_isSheet lk_X7_97 ⟨by decide, by decide⟩ ⟨rfl, rfl⟩ rfl hl.1 rfl (Nat.le_of_ble_eq_true rfl) (dAt dX7_lay 1 rfl) ⟨Nat.zero_le _, Nat.zero_le _⟩) (fun r1 σ1 H locs h hw => ?_)
  refine lv_if_eq (tgt := 19) hx hb (dAt dX7_lay 2 rfl) (by decide) (fun c4 => ?_) (fun c4 => ?_)
  · replace h := h.1 c4
    refine lv_bipush (v := -2) hx hb (dAt dX7_lay 9 rfl) (by decide) ?_
    exact x_iret C hw hr hlk h (dAt dX7_lay 10 rfl)
  · replace h := h.2 c4
    refine lv_iload_n hx hb (dAt dX7_lay 3 rfl) rfl (lv_at hl 2 rfl) ?_
    refine lv_i2l hx hb (dAt dX7_lay 4 rfl) rfl ?_
    refine lv_lconst (v := 0) hx hb (dAt dX7_lay 5 rfl) (by decide) ?_
    refine lv_ldc2 (v := 2) hx hb C.1.2.2.2.1 (C.1.2.2.2.2 _ ck_X7_101) (dAt dX7_lay 6 rfl) ?_
    refine x_calli C hw (x_runS (As := [.long ((x2).toInt64), .long (0 : Int64), .long (2 : Int64)]) (rest := []) C hw (kX7_in l E hE ((x2).toInt64) (0 : Int64) (2 : Int64) σ1 _ h) mtX7_in lk_X7_88 ⟨by decide, by decide⟩ ⟨rfl, rfl⟩ rfl hl.1 rfl (Nat.le_of_ble_eq_true rfl) (dAt dX7_lay 7 rfl) ⟨Nat.zero_le _, Nat.zero_le _⟩) (fun r13 σ13 H locs h hw => ?_)
    refine lv_if_ne (tgt := 22) hx hb (dAt dX7_lay 8 rfl) (by decide) (fun c16 => ?_) (fun c16 => ?_)
    · replace h := h.1 c16
      refine lv_aload_n hx hb (dAt dX7_lay 11 rfl) rfl (lv_at hl 0 rfl) ?_
      refine lv_iload_n hx hb (dAt dX7_lay 12 rfl) rfl (lv_at hl 1 rfl) ?_
      refine lv_iload_n hx hb (dAt dX7_lay 13 rfl) rfl (lv_at hl 2 rfl) ?_
      refine lv_iload_n hx hb (dAt dX7_lay 14 rfl) rfl (lv_at hl 3 rfl) ?_
      refine x_calli C hw (x_runV (As := [.int x1, .int x2, .int x3]) (rest := []) C hw (kX7_lacks l E hE x1 x2 x3 σ13 _ h) mtX7_lacks lk_X7_107 (hE.1 0) (nM hE (by decide)) rfl ⟨by decide, by decide⟩ ⟨rfl, rfl⟩ rfl hl.1 rfl (Nat.le_of_ble_eq_true rfl) (dAt dX7_lay 15 rfl) ⟨Nat.zero_le _, Nat.zero_le _⟩) (fun r26 σ26 H locs h hw => ?_)
      refine lv_istore (lv' := [(5, .int r26), (0, .ref (gE E 0)), (1, .int x1), (2, .int x2), (3, .int x3), (4, .int x4)]) hx hb (dAt dX7_lay 16 rfl) hl (by decide) rfl (fun ls hl => ?_)
      refine lv_iload hx hb (dAt dX7_lay 17 rfl) (lv_at hl 0 rfl) ?_
      refine lv_if_eq (tgt := 39) hx hb (dAt dX7_lay 18 rfl) (by decide) (fun c33 => ?_) (fun c33 => ?_)
      · replace h := h.1 c33
        refine lv_aload_n hx hb (dAt dX7_lay 21 rfl) rfl (lv_at hl 1 rfl) ?_
        refine x_getr C hw fl_X7_16 (hE.1 0) (nM hE (by decide)) rfl (dAt dX7_lay 22 rfl) ?_
        refine lv_bipush (v := 60) hx hb (dAt dX7_lay 23 rfl) (by decide) ?_
        refine lv_iload_n hx hb (dAt dX7_lay 24 rfl) rfl (lv_at hl 2 rfl) ?_
        refine lv_imul hx hb (dAt dX7_lay 25 rfl) ?_
        refine lv_iload_n hx hb (dAt dX7_lay 26 rfl) rfl (lv_at hl 4 rfl) ?_
        refine lv_iadd hx hb (dAt dX7_lay 27 rfl) ?_
        refine lv_iload_n hx hb (dAt dX7_lay 28 rfl) rfl (lv_at hl 3 rfl) ?_
        refine lv_iload hx hb (dAt dX7_lay 29 rfl) (lv_at hl 5 rfl) ?_
        refine x_calli C hw (x_runS (As := [.int x2, .int x4]) (rest := [.int (((60 : Int32) * x1) + x3), .ref (gE E 3)]) C hw (kX7_cut l E hE x2 x4 σ26 _ h) mtX7_cut lk_X7_111 ⟨by decide, by decide⟩ ⟨rfl, rfl⟩ rfl hl.1 rfl (Nat.le_of_ble_eq_true rfl) (dAt dX7_lay 30 rfl) ⟨Nat.zero_le _, Nat.zero_le _⟩) (fun r52 σ52 H locs h hw => ?_)
        obtain ⟨z55, h⟩ := h
        refine x_ist C hw (hE.1 3) (nM hE (by decide)) z55 rfl (dAt dX7_lay 31 rfl) (fun σ55 H locs eσ55 hw => ?_)
        replace h := h σ55 eσ55
        refine lv_iconst (v := 1) hx hb (dAt dX7_lay 32 rfl) (by decide) ?_
        exact x_iret C hw hr hlk h (dAt dX7_lay 33 rfl)
      · replace h := h.2 c33
        refine lv_iload hx hb (dAt dX7_lay 19 rfl) (lv_at hl 0 rfl) ?_
        exact x_iret C hw hr hlk h (dAt dX7_lay 20 rfl)
    · replace h := h.2 c16
      refine lv_bipush (v := -2) hx hb (dAt dX7_lay 9 rfl) (by decide) ?_
      exact x_iret C hw hr hlk h (dAt dX7_lay 10 rfl)
def tX7_get : List (Nat × Instr × Nat) := [(0, .iload_n 1, 1), (1, .invokestatic 97, 3), (4, .ifCond .eq 25, 3), (7, .iload_n 2, 1), (8, .i2l, 1), (9, .lconst 0, 1), (10, .ldc2_w 101, 3), (13, .invokestatic 88, 3), (16, .ifCond .eq 13, 3), (19, .aload_n 0, 1), (20, .iload_n 1, 1), (21, .iload_n 2, 1), (22, .iload_n 3, 1), (23, .invokevirtual 107, 3), (26, .ifCond .eq 6, 3), (29, .ldc 115, 2), (31, .ireturn, 1), (32, .aload_n 0, 1), (33, .getfield 16, 3), (36, .bipush 60, 2), (38, .iload_n 1, 1), (39, .imul, 1), (40, .iload_n 3, 1), (41, .iadd, 1), (42, .iaload, 1), (43, .ireturn, 1)]
theorem dX7_get : dOk cX7_get tX7_get = true := by decide +kernel
abbrev rX7_get : Room := { frames := 2, cells := 0, slots := 0, locals := 48 }
def wX7_get (x1 : Int32) (x2 : Int32) (x3 : Int32) (σ : Mem) (Q : Int32 → Mem → Prop) : Prop := (wX7_isSheet x1 σ (fun r1 σ1 => (((r1 = 0) → (Q (-2147483648 : Int32) σ1)) ∧ ((¬ r1 = 0) → (wX7_in ((x2).toInt64) (0 : Int64) (2 : Int64) σ1 (fun r13 σ13 => (((r13 = 0) → (Q (-2147483648 : Int32) σ13)) ∧ ((¬ r13 = 0) → (wX7_lacks x1 x2 x3 σ13 (fun r23 σ23 => (((r23 = 0) → (vp_in (((60 : Int32) * x1) + x3) 240 ∧ (Q (σ23 3 ((((60 : Int32) * x1) + x3)).toNatClampNeg) σ23))) ∧ ((¬ r23 = 0) → (Q (-2147483648 : Int32) σ23)))))))))))))
set_option maxHeartbeats 4000000 in
set_option maxRecDepth 100000 in
theorem kX7_get (l : Launch) (E : wE) (hE : wM E) (x1 : Int32) (x2 : Int32) (x3 : Int32) (σ : Mem) (Q : Int32 → Mem → Prop) (h : wX7_get x1 x2 x3 σ Q) : Met l yX7_get (Cond.code yX7_get cX7_get 4 (some .int) :: TB) rX7_get (wPc E σ [.ref (gE E 0), .int x1, .int x2, .int x3]) (wQi E Q) 0 0 (wA E) := by
  refine wMet (by decide) hE.2.2 (Nat.le_of_ble_eq_true rfl) ?_
  intro p e s m args below meth c ls C hr hlk hl hw
  have hx := C.1.1
  have hb := C.1.2.1
  replace C : Cx p s m args c cX7_get 4 RX7 E (wA E) := C
  replace hl : lv_has ls 4 [(0, .ref (gE E 0)), (1, .int x1), (2, .int x2), (3, .int x3)] := hl
  unfold wX7_get at h
  refine lv_iload_n hx hb (dAt dX7_get 0 rfl) rfl (lv_at hl 1 rfl) ?_
  refine x_calli C hw (x_runS (As := [.int x1]) (rest := []) C hw (kX7_isSheet l E hE x1 σ _ h) mtX7_isSheet lk_X7_97 ⟨by decide, by decide⟩ ⟨rfl, rfl⟩ rfl hl.1 rfl (Nat.le_of_ble_eq_true rfl) (dAt dX7_get 1 rfl) ⟨Nat.zero_le _, Nat.zero_le _⟩) (fun r1 σ1 H locs h hw => ?_)
  refine lv_if_eq (tgt := 29) hx hb (dAt dX7_get 2 rfl) (by decide) (fun c4 => ?_) (fun c4 => ?_)
  · replace h := h.1 c4
    refine lv_ldc (v := -2147483648) hx hb C.1.2.2.2.1 (C.1.2.2.2.2 _ ck_X7_115) (dAt dX7_get 15 rfl) ?_
    exact x_iret C hw hr hlk h (dAt dX7_get 16 rfl)
  · replace h := h.2 c4
    refine lv_iload_n hx hb (dAt dX7_get 3 rfl) rfl (lv_at hl 2 rfl) ?_
    refine lv_i2l hx hb (dAt dX7_get 4 rfl) rfl ?_
    refine lv_lconst (v := 0) hx hb (dAt dX7_get 5 rfl) (by decide) ?_
    refine lv_ldc2 (v := 2) hx hb C.1.2.2.2.1 (C.1.2.2.2.2 _ ck_X7_101) (dAt dX7_get 6 rfl) ?_
    refine x_calli C hw (x_runS (As := [.long ((x2).toInt64), .long (0 : Int64), .long (2 : Int64)]) (rest := []) C hw (kX7_in l E hE ((x2).toInt64) (0 : Int64) (2 : Int64) σ1 _ h) mtX7_in lk_X7_88 ⟨by decide, by decide⟩ ⟨rfl, rfl⟩ rfl hl.1 rfl (Nat.le_of_ble_eq_true rfl) (dAt dX7_get 7 rfl) ⟨Nat.zero_le _, Nat.zero_le _⟩) (fun r13 σ13 H locs h hw => ?_)
    refine lv_if_eq (tgt := 29) hx hb (dAt dX7_get 8 rfl) (by decide) (fun c16 => ?_) (fun c16 => ?_)
    · replace h := h.1 c16
      refine lv_ldc (v := -2147483648) hx hb C.1.2.2.2.1 (C.1.2.2.2.2 _ ck_X7_115) (dAt dX7_get 15 rfl) ?_
      exact x_iret C hw hr hlk h (dAt dX7_get 16 rfl)
    · replace h := h.2 c16
      refine lv_aload_n hx hb (dAt dX7_get 9 rfl) rfl (lv_at hl 0 rfl) ?_
      refine lv_iload_n hx hb (dAt dX7_get 10 rfl) rfl (lv_at hl 1 rfl) ?_
      refine lv_iload_n hx hb (dAt dX7_get 11 rfl) rfl (lv_at hl 2 rfl) ?_
      refine lv_iload_n hx hb (dAt dX7_get 12 rfl) rfl (lv_at hl 3 rfl) ?_
      refine x_calli C hw (x_runV (As := [.int x1, .int x2, .int x3]) (rest := []) C hw (kX7_lacks l E hE x1 x2 x3 σ13 _ h) mtX7_lacks lk_X7_107 (hE.1 0) (nM hE (by decide)) rfl ⟨by decide, by decide⟩ ⟨rfl, rfl⟩ rfl hl.1 rfl (Nat.le_of_ble_eq_true rfl) (dAt dX7_get 13 rfl) ⟨Nat.zero_le _, Nat.zero_le _⟩) (fun r23 σ23 H locs h hw => ?_)
      refine lv_if_eq (tgt := 32) hx hb (dAt dX7_get 14 rfl) (by decide) (fun c26 => ?_) (fun c26 => ?_)
      · replace h := h.1 c26
        refine lv_aload_n hx hb (dAt dX7_get 17 rfl) rfl (lv_at hl 0 rfl) ?_
        refine x_getr C hw fl_X7_16 (hE.1 0) (nM hE (by decide)) rfl (dAt dX7_get 18 rfl) ?_
        refine lv_bipush (v := 60) hx hb (dAt dX7_get 19 rfl) (by decide) ?_
        refine lv_iload_n hx hb (dAt dX7_get 20 rfl) rfl (lv_at hl 1 rfl) ?_
        refine lv_imul hx hb (dAt dX7_get 21 rfl) ?_
        refine lv_iload_n hx hb (dAt dX7_get 22 rfl) rfl (lv_at hl 3 rfl) ?_
        refine lv_iadd hx hb (dAt dX7_get 23 rfl) ?_
        obtain ⟨z42, h⟩ := h
        refine x_ild C hw (hE.1 3) (nM hE (by decide)) z42 rfl (dAt dX7_get 24 rfl) ?_
        exact x_iret C hw hr hlk h (dAt dX7_get 25 rfl)
      · replace h := h.2 c26
        refine lv_ldc (v := -2147483648) hx hb C.1.2.2.2.1 (C.1.2.2.2.2 _ ck_X7_115) (dAt dX7_get 15 rfl) ?_
        exact x_iret C hw hr hlk h (dAt dX7_get 16 rfl)
def tX7_copy : List (Nat × Instr × Nat) := [(0, .iload_n 1, 1), (1, .invokestatic 97, 3), (4, .ifCond .eq 10, 3), (7, .iload_n 3, 1), (8, .invokestatic 97, 3), (11, .ifCond .ne 6, 3), (14, .bipush (-2), 2), (16, .ireturn, 1), (17, .aload_n 0, 1), (18, .getfield 7, 3), (21, .iload_n 1, 1), (22, .iaload, 1), (23, .ifCond .lt 12, 3), (26, .aload_n 0, 1), (27, .getfield 7, 3), (30, .iload_n 3, 1), (31, .iaload, 1), (32, .ifCond .ge 9, 3), (35, .aload_n 0, 1), (36, .iconst 1, 1), (37, .invokevirtual 103, 3), (40, .ireturn, 1), (41, .aload_n 0, 1), (42, .getfield 7, 3), (45, .iload_n 1, 1), (46, .iaload, 1), (47, .aload_n 0, 1), (48, .getfield 7, 3), (51, .iload_n 3, 1), (52, .iaload, 1), (53, .if_icmp .eq 9, 3), (56, .aload_n 0, 1), (57, .iconst 4, 1), (58, .invokevirtual 103, 3), (61, .ireturn, 1), (62, .iload_n 2, 1), (63, .ifCond .lt 48, 3), (66, .iload 4, 2), (68, .ifCond .lt 43, 3), (71, .iload 5, 2), (73, .ifCond .lt 38, 3), (76, .iload_n 2, 1), (77, .i2l, 1), (78, .iload 5, 2), (80, .i2l, 1), (81, .ladd, 1), (82, .aload_n 0, 1), (83, .getfield 13, 3), (86, .iload_n 1, 1), (87, .iaload, 1), (88, .i2l, 1), (89, .lcmp, 1), (90, .ifCond .gt 21, 3), (93, .iload 4, 2), (95, .i2l, 1), (96, .iload 5, 2), (98, .i2l, 1), (99, .ladd, 1), (100, .aload_n 0, 1), (101, .getfield 13, 3), (104, .iload_n 3, 1), (105, .iaload, 1), (106, .i2l, 1), (107, .lcmp, 1), (108, .ifCond .le 9, 3), (111, .aload_n 0, 1), (112, .iconst 2, 1), (113, .invokevirtual 103, 3), (116, .ireturn, 1), (117, .iconst 0, 1), (118, .istore 6, 2), (120, .iload 6, 2), (122, .iload 5, 2), (124, .if_icmp .ge 30, 3), (127, .aload_n 0, 1), (128, .getfield 19, 3), (131, .iload 6, 2), (133, .aload_n 0, 1), (134, .getfield 16, 3), (137, .bipush 60, 2), (139, .iload_n 1, 1), (140, .imul, 1), (141, .iload_n 2, 1), (142, .iadd, 1), (143, .iload 6, 2), (145, .iadd, 1), (146, .iaload, 1), (147, .iastore, 1), (148, .iinc 6 1, 3), (151, .goto (-31), 3), (154, .iconst 0, 1), (155, .istore 6, 2), (157, .iload 6, 2), (159, .iload 5, 2), (161, .if_icmp .ge 31, 3), (164, .aload_n 0, 1), (165, .getfield 16, 3), (168, .bipush 60, 2), (170, .iload_n 3, 1), (171, .imul, 1), (172, .iload 4, 2), (174, .iadd, 1), (175, .iload 6, 2), (177, .iadd, 1), (178, .aload_n 0, 1), (179, .getfield 19, 3), (182, .iload 6, 2), (184, .iaload, 1), (185, .iastore, 1), (186, .iinc 6 1, 3), (189, .goto (-32), 3), (192, .iconst 1, 1), (193, .ireturn, 1)]
theorem dX7_copy : dOk cX7_copy tX7_copy = true := by decide +kernel
abbrev rX7_copy : Room := { frames := 2, cells := 0, slots := 0, locals := 45 }
def wX7_copy_157 (Q : Int32 → Mem → Prop) : Nat → Int32 → Int32 → Int32 → Int32 → Mem → Prop
  | 0, _, _, _, _, _ => False
  | n + 1, x3, x4, x5, x6, σ => (((x5 ≤ x6) → (Q (1 : Int32) σ)) ∧ ((¬ x5 ≤ x6) → (vp_in x6 60 ∧ (vp_in ((((60 : Int32) * x3) + x4) + x6) 240 ∧ (∀ σ185 : Mem, σ185 = um σ 3 (((((60 : Int32) * x3) + x4) + x6)).toNatClampNeg (σ 4 (x6).toNatClampNeg) → (wX7_copy_157 Q n x3 x4 x5 (x6 + (1 : Int32)) σ185))))))
def wX7_copy_120 (Q : Int32 → Mem → Prop) : Nat → Int32 → Int32 → Int32 → Int32 → Int32 → Int32 → Mem → Prop
  | 0, _, _, _, _, _, _, _ => False
  | n + 1, x1, x2, x3, x4, x5, x6, σ => (((x5 ≤ x6) → (∃ N157, wX7_copy_157 Q N157 x3 x4 x5 (0 : Int32) σ)) ∧ ((¬ x5 ≤ x6) → (vp_in ((((60 : Int32) * x1) + x2) + x6) 240 ∧ (vp_in x6 60 ∧ (∀ σ147 : Mem, σ147 = um σ 4 (x6).toNatClampNeg (σ 3 (((((60 : Int32) * x1) + x2) + x6)).toNatClampNeg) → (wX7_copy_120 Q n x1 x2 x3 x4 x5 (x6 + (1 : Int32)) σ147))))))
def wX7_copy (x1 : Int32) (x2 : Int32) (x3 : Int32) (x4 : Int32) (x5 : Int32) (σ : Mem) (Q : Int32 → Mem → Prop) : Prop := (wX7_isSheet x1 σ (fun r1 σ1 => (((r1 = 0) → (Q (-2 : Int32) σ1)) ∧ ((¬ r1 = 0) → (wX7_isSheet x3 σ1 (fun r8 σ8 => (((¬ r8 = 0) → (vp_in x1 4 ∧ ((((σ8 1 (x1).toNatClampNeg) < 0) → (wX7_finds (1 : Int32) σ8 (fun r37 σ37 => (Q r37 σ37)))) ∧ ((¬ (σ8 1 (x1).toNatClampNeg) < 0) → (vp_in x3 4 ∧ (((0 ≤ (σ8 1 (x3).toNatClampNeg)) → (vp_in x1 4 ∧ (vp_in x3 4 ∧ ((((σ8 1 (x1).toNatClampNeg) = (σ8 1 (x3).toNatClampNeg)) → (((x2 < 0) → (wX7_finds (2 : Int32) σ8 (fun r113 σ113 => (Q r113 σ113)))) ∧ ((¬ x2 < 0) → (((x4 < 0) → (wX7_finds (2 : Int32) σ8 (fun r113 σ113 => (Q r113 σ113)))) ∧ ((¬ x4 < 0) → (((x5 < 0) → (wX7_finds (2 : Int32) σ8 (fun r113 σ113 => (Q r113 σ113)))) ∧ ((¬ x5 < 0) → (vp_in x1 4 ∧ ((((((σ8 2 (x1).toNatClampNeg)).toInt64) < (((x2).toInt64) + ((x5).toInt64))) → (wX7_finds (2 : Int32) σ8 (fun r113 σ113 => (Q r113 σ113)))) ∧ ((¬ (((σ8 2 (x1).toNatClampNeg)).toInt64) < (((x2).toInt64) + ((x5).toInt64))) → (vp_in x3 4 ∧ ((((((x4).toInt64) + ((x5).toInt64)) ≤ (((σ8 2 (x3).toNatClampNeg)).toInt64)) → (∃ N120, wX7_copy_120 Q N120 x1 x2 x3 x4 x5 (0 : Int32) σ8)) ∧ ((¬ (((x4).toInt64) + ((x5).toInt64)) ≤ (((σ8 2 (x3).toNatClampNeg)).toInt64)) → (wX7_finds (2 : Int32) σ8 (fun r113 σ113 => (Q r113 σ113)))))))))))))))) ∧ ((¬ (σ8 1 (x1).toNatClampNeg) = (σ8 1 (x3).toNatClampNeg)) → (wX7_finds (4 : Int32) σ8 (fun r58 σ58 => (Q r58 σ58)))))))) ∧ ((¬ 0 ≤ (σ8 1 (x3).toNatClampNeg)) → (wX7_finds (1 : Int32) σ8 (fun r37 σ37 => (Q r37 σ37)))))))))) ∧ ((r8 = 0) → (Q (-2 : Int32) σ8)))))))))
set_option maxHeartbeats 4000000 in
set_option maxRecDepth 100000 in
theorem kX7_copy_157 {p : Program} {l : Launch} {e : Env} {s : State} {m : MethodId} {args : Array Value} {below : List Frame} {meth : Method} {c : Code} {E : wE} (hE : wM E) (C : Cx p s m args c cX7_copy 7 RX7 E (wA E)) (hr : meth.sig.returnType = (some .int)) (hlk : meth.locks = false) {Q : Int32 → Mem → Prop} : ∀ (n : Nat) (x3 : Int32) (x4 : Int32) (x5 : Int32) (x6 : Int32) (σ : Mem) (H : Heap) (locs : List Loc) (ls : Array Slot), wd E (wA E) s σ H locs → lv_has ls 7 [(0, .ref (gE E 0)), (3, .int x3), (4, .int x4), (5, .int x5), (6, .int x6)] → wX7_copy_157 Q n x3 x4 x5 x6 σ → W p l e rX7_copy s m args below meth c H locs 0 0 (MQ below (wQi E Q) args s 0 0 (wA E)) (F0 m 157 ls []) := by
  have hx := C.1.1
  have hb := C.1.2.1
  intro n
  induction n with
  | zero =>
    intro x3 x4 x5 x6 σ  H locs ls hw hl h
    exact h.elim
  | succ n ih =>
    intro x3 x4 x5 x6 σ  H locs ls hw hl h
    rw [wX7_copy_157] at h
    refine lv_iload hx hb (dAt dX7_copy 92 rfl) (lv_at hl 4 rfl) ?_
    refine lv_iload hx hb (dAt dX7_copy 93 rfl) (lv_at hl 3 rfl) ?_
    refine lv_icmp_ge (tgt := 192) hx hb (dAt dX7_copy 94 rfl) (by decide) (fun c161 => ?_) (fun c161 => ?_)
    · replace h := h.1 c161
      refine lv_iconst (v := 1) hx hb (dAt dX7_copy 111 rfl) (by decide) ?_
      exact x_iret C hw hr hlk h (dAt dX7_copy 112 rfl)
    · replace h := h.2 c161
      refine lv_aload_n hx hb (dAt dX7_copy 95 rfl) rfl (lv_at hl 0 rfl) ?_
      refine x_getr C hw fl_X7_16 (hE.1 0) (nM hE (by decide)) rfl (dAt dX7_copy 96 rfl) ?_
      refine lv_bipush (v := 60) hx hb (dAt dX7_copy 97 rfl) (by decide) ?_
      refine lv_iload_n hx hb (dAt dX7_copy 98 rfl) rfl (lv_at hl 1 rfl) ?_
      refine lv_imul hx hb (dAt dX7_copy 99 rfl) ?_
      refine lv_iload hx hb (dAt dX7_copy 100 rfl) (lv_at hl 2 rfl) ?_
      refine lv_iadd hx hb (dAt dX7_copy 101 rfl) ?_
      refine lv_iload hx hb (dAt dX7_copy 102 rfl) (lv_at hl 4 rfl) ?_
      refine lv_iadd hx hb (dAt dX7_copy 103 rfl) ?_
      refine lv_aload_n hx hb (dAt dX7_copy 104 rfl) rfl (lv_at hl 0 rfl) ?_
      refine x_getr C hw fl_X7_19 (hE.1 0) (nM hE (by decide)) rfl (dAt dX7_copy 105 rfl) ?_
      refine lv_iload hx hb (dAt dX7_copy 106 rfl) (lv_at hl 4 rfl) ?_
      obtain ⟨z184, h⟩ := h
      refine x_ild C hw (hE.1 4) (nM hE (by decide)) z184 rfl (dAt dX7_copy 107 rfl) ?_
      obtain ⟨z185, h⟩ := h
      refine x_ist C hw (hE.1 3) (nM hE (by decide)) z185 rfl (dAt dX7_copy 108 rfl) (fun σ185 H locs eσ185 hw => ?_)
      replace h := h σ185 eσ185
      refine lv_iinc (v := (x6 + (1 : Int32))) (lv' := [(6, .int (x6 + (1 : Int32))), (0, .ref (gE E 0)), (3, .int x3), (4, .int x4), (5, .int x5)]) hx hb (dAt dX7_copy 109 rfl) hl (k := 4) rfl rfl (by decide) rfl (fun ls hl => ?_)
      refine lv_goto (tgt := 157) hx hb (dAt dX7_copy 110 rfl) (by decide) ?_
      exact ih x3 x4 x5 (x6 + (1 : Int32)) σ185  _ _ _ hw (lv_sub hl [1, 2, 3, 4, 0] rfl) h
set_option maxHeartbeats 4000000 in
set_option maxRecDepth 100000 in
theorem kX7_copy_120 {p : Program} {l : Launch} {e : Env} {s : State} {m : MethodId} {args : Array Value} {below : List Frame} {meth : Method} {c : Code} {E : wE} (hE : wM E) (C : Cx p s m args c cX7_copy 7 RX7 E (wA E)) (hr : meth.sig.returnType = (some .int)) (hlk : meth.locks = false) {Q : Int32 → Mem → Prop} : ∀ (n : Nat) (x1 : Int32) (x2 : Int32) (x3 : Int32) (x4 : Int32) (x5 : Int32) (x6 : Int32) (σ : Mem) (H : Heap) (locs : List Loc) (ls : Array Slot), wd E (wA E) s σ H locs → lv_has ls 7 [(0, .ref (gE E 0)), (1, .int x1), (2, .int x2), (3, .int x3), (4, .int x4), (5, .int x5), (6, .int x6)] → wX7_copy_120 Q n x1 x2 x3 x4 x5 x6 σ → W p l e rX7_copy s m args below meth c H locs 0 0 (MQ below (wQi E Q) args s 0 0 (wA E)) (F0 m 120 ls []) := by
  have hx := C.1.1
  have hb := C.1.2.1
  intro n
  induction n with
  | zero =>
    intro x1 x2 x3 x4 x5 x6 σ  H locs ls hw hl h
    exact h.elim
  | succ n ih =>
    intro x1 x2 x3 x4 x5 x6 σ  H locs ls hw hl h
    rw [wX7_copy_120] at h
    refine lv_iload hx hb (dAt dX7_copy 71 rfl) (lv_at hl 6 rfl) ?_
    refine lv_iload hx hb (dAt dX7_copy 72 rfl) (lv_at hl 5 rfl) ?_
    refine lv_icmp_ge (tgt := 154) hx hb (dAt dX7_copy 73 rfl) (by decide) (fun c124 => ?_) (fun c124 => ?_)
    · replace h := h.1 c124
      refine lv_iconst (v := 0) hx hb (dAt dX7_copy 90 rfl) (by decide) ?_
      refine lv_istore (lv' := [(6, .int (0 : Int32)), (0, .ref (gE E 0)), (1, .int x1), (2, .int x2), (3, .int x3), (4, .int x4), (5, .int x5)]) hx hb (dAt dX7_copy 91 rfl) hl (by decide) rfl (fun ls hl => ?_)
      obtain ⟨n157, h⟩ := h
      exact kX7_copy_157 hE C hr hlk n157 x3 x4 x5 (0 : Int32) σ  _ _ _ hw (lv_sub hl [1, 4, 5, 6, 0] rfl) h
    · replace h := h.2 c124
      refine lv_aload_n hx hb (dAt dX7_copy 74 rfl) rfl (lv_at hl 0 rfl) ?_
      refine x_getr C hw fl_X7_19 (hE.1 0) (nM hE (by decide)) rfl (dAt dX7_copy 75 rfl) ?_
      refine lv_iload hx hb (dAt dX7_copy 76 rfl) (lv_at hl 6 rfl) ?_
      refine lv_aload_n hx hb (dAt dX7_copy 77 rfl) rfl (lv_at hl 0 rfl) ?_
      refine x_getr C hw fl_X7_16 (hE.1 0) (nM hE (by decide)) rfl (dAt dX7_copy 78 rfl) ?_
      refine lv_bipush (v := 60) hx hb (dAt dX7_copy 79 rfl) (by decide) ?_
      refine lv_iload_n hx hb (dAt dX7_copy 80 rfl) rfl (lv_at hl 1 rfl) ?_
      refine lv_imul hx hb (dAt dX7_copy 81 rfl) ?_
      refine lv_iload_n hx hb (dAt dX7_copy 82 rfl) rfl (lv_at hl 2 rfl) ?_
      refine lv_iadd hx hb (dAt dX7_copy 83 rfl) ?_
      refine lv_iload hx hb (dAt dX7_copy 84 rfl) (lv_at hl 6 rfl) ?_
      refine lv_iadd hx hb (dAt dX7_copy 85 rfl) ?_
      obtain ⟨z146, h⟩ := h
      refine x_ild C hw (hE.1 3) (nM hE (by decide)) z146 rfl (dAt dX7_copy 86 rfl) ?_
      obtain ⟨z147, h⟩ := h
      refine x_ist C hw (hE.1 4) (nM hE (by decide)) z147 rfl (dAt dX7_copy 87 rfl) (fun σ147 H locs eσ147 hw => ?_)
      replace h := h σ147 eσ147
      refine lv_iinc (v := (x6 + (1 : Int32))) (lv' := [(6, .int (x6 + (1 : Int32))), (0, .ref (gE E 0)), (1, .int x1), (2, .int x2), (3, .int x3), (4, .int x4), (5, .int x5)]) hx hb (dAt dX7_copy 88 rfl) hl (k := 6) rfl rfl (by decide) rfl (fun ls hl => ?_)
      refine lv_goto (tgt := 120) hx hb (dAt dX7_copy 89 rfl) (by decide) ?_
      exact ih x1 x2 x3 x4 x5 (x6 + (1 : Int32)) σ147  _ _ _ hw (lv_sub hl [1, 2, 3, 4, 5, 6, 0] rfl) h
set_option maxHeartbeats 4000000 in
set_option maxRecDepth 100000 in
theorem kX7_copy (l : Launch) (E : wE) (hE : wM E) (x1 : Int32) (x2 : Int32) (x3 : Int32) (x4 : Int32) (x5 : Int32) (σ : Mem) (Q : Int32 → Mem → Prop) (h : wX7_copy x1 x2 x3 x4 x5 σ Q) : Met l yX7_copy (Cond.code yX7_copy cX7_copy 7 (some .int) :: TB) rX7_copy (wPc E σ [.ref (gE E 0), .int x1, .int x2, .int x3, .int x4, .int x5]) (wQi E Q) 0 0 (wA E) := by
  refine wMet (by decide) hE.2.2 (Nat.le_of_ble_eq_true rfl) ?_
  intro p e s m args below meth c ls C hr hlk hl hw
  have hx := C.1.1
  have hb := C.1.2.1
  replace C : Cx p s m args c cX7_copy 7 RX7 E (wA E) := C
  replace hl : lv_has ls 7 [(0, .ref (gE E 0)), (1, .int x1), (2, .int x2), (3, .int x3), (4, .int x4), (5, .int x5)] := hl
  unfold wX7_copy at h
  refine lv_iload_n hx hb (dAt dX7_copy 0 rfl) rfl (lv_at hl 1 rfl) ?_
  refine x_calli C hw (x_runS (As := [.int x1]) (rest := []) C hw (kX7_isSheet l E hE x1 σ _ h) mtX7_isSheet lk_X7_97 ⟨by decide, by decide⟩ ⟨rfl, rfl⟩ rfl hl.1 rfl (Nat.le_of_ble_eq_true rfl) (dAt dX7_copy 1 rfl) ⟨Nat.zero_le _, Nat.zero_le _⟩) (fun r1 σ1 H locs h hw => ?_)
  refine lv_if_eq (tgt := 14) hx hb (dAt dX7_copy 2 rfl) (by decide) (fun c4 => ?_) (fun c4 => ?_)
  · replace h := h.1 c4
    refine lv_bipush (v := -2) hx hb (dAt dX7_copy 6 rfl) (by decide) ?_
    exact x_iret C hw hr hlk h (dAt dX7_copy 7 rfl)
  · replace h := h.2 c4
    refine lv_iload_n hx hb (dAt dX7_copy 3 rfl) rfl (lv_at hl 3 rfl) ?_
    refine x_calli C hw (x_runS (As := [.int x3]) (rest := []) C hw (kX7_isSheet l E hE x3 σ1 _ h) mtX7_isSheet lk_X7_97 ⟨by decide, by decide⟩ ⟨rfl, rfl⟩ rfl hl.1 rfl (Nat.le_of_ble_eq_true rfl) (dAt dX7_copy 4 rfl) ⟨Nat.zero_le _, Nat.zero_le _⟩) (fun r8 σ8 H locs h hw => ?_)
    refine lv_if_ne (tgt := 17) hx hb (dAt dX7_copy 5 rfl) (by decide) (fun c11 => ?_) (fun c11 => ?_)
    · replace h := h.1 c11
      refine lv_aload_n hx hb (dAt dX7_copy 8 rfl) rfl (lv_at hl 0 rfl) ?_
      refine x_getr C hw fl_X7_7 (hE.1 0) (nM hE (by decide)) rfl (dAt dX7_copy 9 rfl) ?_
      refine lv_iload_n hx hb (dAt dX7_copy 10 rfl) rfl (lv_at hl 1 rfl) ?_
      obtain ⟨z22, h⟩ := h
      refine x_ild C hw (hE.1 1) (nM hE (by decide)) z22 rfl (dAt dX7_copy 11 rfl) ?_
      refine lv_if_lt (tgt := 35) hx hb (dAt dX7_copy 12 rfl) (by decide) (fun c23 => ?_) (fun c23 => ?_)
      · replace h := h.1 c23
        refine lv_aload_n hx hb (dAt dX7_copy 18 rfl) rfl (lv_at hl 0 rfl) ?_
        refine lv_iconst (v := 1) hx hb (dAt dX7_copy 19 rfl) (by decide) ?_
        refine x_calli C hw (x_runV (As := [.int (1 : Int32)]) (rest := []) C hw (kX7_finds l E hE (1 : Int32) σ8 _ h) mtX7_finds lk_X7_103 (hE.1 0) (nM hE (by decide)) rfl ⟨by decide, by decide⟩ ⟨rfl, rfl⟩ rfl hl.1 rfl (Nat.le_of_ble_eq_true rfl) (dAt dX7_copy 20 rfl) ⟨Nat.zero_le _, Nat.zero_le _⟩) (fun r37 σ37 H locs h hw => ?_)
        exact x_iret C hw hr hlk h (dAt dX7_copy 21 rfl)
      · replace h := h.2 c23
        refine lv_aload_n hx hb (dAt dX7_copy 13 rfl) rfl (lv_at hl 0 rfl) ?_
        refine x_getr C hw fl_X7_7 (hE.1 0) (nM hE (by decide)) rfl (dAt dX7_copy 14 rfl) ?_
        refine lv_iload_n hx hb (dAt dX7_copy 15 rfl) rfl (lv_at hl 3 rfl) ?_
        obtain ⟨z31, h⟩ := h
        refine x_ild C hw (hE.1 1) (nM hE (by decide)) z31 rfl (dAt dX7_copy 16 rfl) ?_
        refine lv_if_ge (tgt := 41) hx hb (dAt dX7_copy 17 rfl) (by decide) (fun c32 => ?_) (fun c32 => ?_)
        · replace h := h.1 c32
          refine lv_aload_n hx hb (dAt dX7_copy 22 rfl) rfl (lv_at hl 0 rfl) ?_
          refine x_getr C hw fl_X7_7 (hE.1 0) (nM hE (by decide)) rfl (dAt dX7_copy 23 rfl) ?_
          refine lv_iload_n hx hb (dAt dX7_copy 24 rfl) rfl (lv_at hl 1 rfl) ?_
          obtain ⟨z46, h⟩ := h
          refine x_ild C hw (hE.1 1) (nM hE (by decide)) z46 rfl (dAt dX7_copy 25 rfl) ?_
          refine lv_aload_n hx hb (dAt dX7_copy 26 rfl) rfl (lv_at hl 0 rfl) ?_
          refine x_getr C hw fl_X7_7 (hE.1 0) (nM hE (by decide)) rfl (dAt dX7_copy 27 rfl) ?_
          refine lv_iload_n hx hb (dAt dX7_copy 28 rfl) rfl (lv_at hl 3 rfl) ?_
          obtain ⟨z52, h⟩ := h
          refine x_ild C hw (hE.1 1) (nM hE (by decide)) z52 rfl (dAt dX7_copy 29 rfl) ?_
          refine lv_icmp_eq (tgt := 62) hx hb (dAt dX7_copy 30 rfl) (by decide) (fun c53 => ?_) (fun c53 => ?_)
          · replace h := h.1 c53
            refine lv_iload_n hx hb (dAt dX7_copy 35 rfl) rfl (lv_at hl 2 rfl) ?_
            refine lv_if_lt (tgt := 111) hx hb (dAt dX7_copy 36 rfl) (by decide) (fun c63 => ?_) (fun c63 => ?_)
            · replace h := h.1 c63
              refine lv_aload_n hx hb (dAt dX7_copy 65 rfl) rfl (lv_at hl 0 rfl) ?_
              refine lv_iconst (v := 2) hx hb (dAt dX7_copy 66 rfl) (by decide) ?_
              refine x_calli C hw (x_runV (As := [.int (2 : Int32)]) (rest := []) C hw (kX7_finds l E hE (2 : Int32) σ8 _ h) mtX7_finds lk_X7_103 (hE.1 0) (nM hE (by decide)) rfl ⟨by decide, by decide⟩ ⟨rfl, rfl⟩ rfl hl.1 rfl (Nat.le_of_ble_eq_true rfl) (dAt dX7_copy 67 rfl) ⟨Nat.zero_le _, Nat.zero_le _⟩) (fun r113 σ113 H locs h hw => ?_)
              exact x_iret C hw hr hlk h (dAt dX7_copy 68 rfl)
            · replace h := h.2 c63
              refine lv_iload hx hb (dAt dX7_copy 37 rfl) (lv_at hl 4 rfl) ?_
              refine lv_if_lt (tgt := 111) hx hb (dAt dX7_copy 38 rfl) (by decide) (fun c68 => ?_) (fun c68 => ?_)
              · replace h := h.1 c68
                refine lv_aload_n hx hb (dAt dX7_copy 65 rfl) rfl (lv_at hl 0 rfl) ?_
                refine lv_iconst (v := 2) hx hb (dAt dX7_copy 66 rfl) (by decide) ?_
                refine x_calli C hw (x_runV (As := [.int (2 : Int32)]) (rest := []) C hw (kX7_finds l E hE (2 : Int32) σ8 _ h) mtX7_finds lk_X7_103 (hE.1 0) (nM hE (by decide)) rfl ⟨by decide, by decide⟩ ⟨rfl, rfl⟩ rfl hl.1 rfl (Nat.le_of_ble_eq_true rfl) (dAt dX7_copy 67 rfl) ⟨Nat.zero_le _, Nat.zero_le _⟩) (fun r113 σ113 H locs h hw => ?_)
                exact x_iret C hw hr hlk h (dAt dX7_copy 68 rfl)
              · replace h := h.2 c68
                refine lv_iload hx hb (dAt dX7_copy 39 rfl) (lv_at hl 5 rfl) ?_
                refine lv_if_lt (tgt := 111) hx hb (dAt dX7_copy 40 rfl) (by decide) (fun c73 => ?_) (fun c73 => ?_)
                · replace h := h.1 c73
                  refine lv_aload_n hx hb (dAt dX7_copy 65 rfl) rfl (lv_at hl 0 rfl) ?_
                  refine lv_iconst (v := 2) hx hb (dAt dX7_copy 66 rfl) (by decide) ?_
                  refine x_calli C hw (x_runV (As := [.int (2 : Int32)]) (rest := []) C hw (kX7_finds l E hE (2 : Int32) σ8 _ h) mtX7_finds lk_X7_103 (hE.1 0) (nM hE (by decide)) rfl ⟨by decide, by decide⟩ ⟨rfl, rfl⟩ rfl hl.1 rfl (Nat.le_of_ble_eq_true rfl) (dAt dX7_copy 67 rfl) ⟨Nat.zero_le _, Nat.zero_le _⟩) (fun r113 σ113 H locs h hw => ?_)
                  exact x_iret C hw hr hlk h (dAt dX7_copy 68 rfl)
                · replace h := h.2 c73
                  refine lv_iload_n hx hb (dAt dX7_copy 41 rfl) rfl (lv_at hl 2 rfl) ?_
                  refine lv_i2l hx hb (dAt dX7_copy 42 rfl) rfl ?_
                  refine lv_iload hx hb (dAt dX7_copy 43 rfl) (lv_at hl 5 rfl) ?_
                  refine lv_i2l hx hb (dAt dX7_copy 44 rfl) rfl ?_
                  refine lv_ladd hx hb (dAt dX7_copy 45 rfl) ?_
                  refine lv_aload_n hx hb (dAt dX7_copy 46 rfl) rfl (lv_at hl 0 rfl) ?_
                  refine x_getr C hw fl_X7_13 (hE.1 0) (nM hE (by decide)) rfl (dAt dX7_copy 47 rfl) ?_
                  refine lv_iload_n hx hb (dAt dX7_copy 48 rfl) rfl (lv_at hl 1 rfl) ?_
                  obtain ⟨z87, h⟩ := h
                  refine x_ild C hw (hE.1 2) (nM hE (by decide)) z87 rfl (dAt dX7_copy 49 rfl) ?_
                  refine lv_i2l hx hb (dAt dX7_copy 50 rfl) rfl ?_
                  refine W.lcmp hx hb (dAt dX7_copy 51 rfl) ?_
                  refine lv_if_gt (tgt := 111) hx hb (dAt dX7_copy 52 rfl) (by decide) (fun c90 => ?_) (fun c90 => ?_)
                  · replace h := h.1 ((lg_cmp_gt _ _).mp c90)
                    refine lv_aload_n hx hb (dAt dX7_copy 65 rfl) rfl (lv_at hl 0 rfl) ?_
                    refine lv_iconst (v := 2) hx hb (dAt dX7_copy 66 rfl) (by decide) ?_
                    refine x_calli C hw (x_runV (As := [.int (2 : Int32)]) (rest := []) C hw (kX7_finds l E hE (2 : Int32) σ8 _ h) mtX7_finds lk_X7_103 (hE.1 0) (nM hE (by decide)) rfl ⟨by decide, by decide⟩ ⟨rfl, rfl⟩ rfl hl.1 rfl (Nat.le_of_ble_eq_true rfl) (dAt dX7_copy 67 rfl) ⟨Nat.zero_le _, Nat.zero_le _⟩) (fun r113 σ113 H locs h hw => ?_)
                    exact x_iret C hw hr hlk h (dAt dX7_copy 68 rfl)
                  · replace h := h.2 (fun z => c90 ((lg_cmp_gt _ _).mpr z))
                    refine lv_iload hx hb (dAt dX7_copy 53 rfl) (lv_at hl 4 rfl) ?_
                    refine lv_i2l hx hb (dAt dX7_copy 54 rfl) rfl ?_
                    refine lv_iload hx hb (dAt dX7_copy 55 rfl) (lv_at hl 5 rfl) ?_
                    refine lv_i2l hx hb (dAt dX7_copy 56 rfl) rfl ?_
                    refine lv_ladd hx hb (dAt dX7_copy 57 rfl) ?_
                    refine lv_aload_n hx hb (dAt dX7_copy 58 rfl) rfl (lv_at hl 0 rfl) ?_
                    refine x_getr C hw fl_X7_13 (hE.1 0) (nM hE (by decide)) rfl (dAt dX7_copy 59 rfl) ?_
                    refine lv_iload_n hx hb (dAt dX7_copy 60 rfl) rfl (lv_at hl 3 rfl) ?_
                    obtain ⟨z105, h⟩ := h
                    refine x_ild C hw (hE.1 2) (nM hE (by decide)) z105 rfl (dAt dX7_copy 61 rfl) ?_
                    refine lv_i2l hx hb (dAt dX7_copy 62 rfl) rfl ?_
                    refine W.lcmp hx hb (dAt dX7_copy 63 rfl) ?_
                    refine lv_if_le (tgt := 117) hx hb (dAt dX7_copy 64 rfl) (by decide) (fun c108 => ?_) (fun c108 => ?_)
                    · replace h := h.1 ((lg_cmp_le _ _).mp c108)
                      refine lv_iconst (v := 0) hx hb (dAt dX7_copy 69 rfl) (by decide) ?_
                      refine lv_istore (lv' := [(6, .int (0 : Int32)), (0, .ref (gE E 0)), (1, .int x1), (2, .int x2), (3, .int x3), (4, .int x4), (5, .int x5)]) hx hb (dAt dX7_copy 70 rfl) hl (by decide) rfl (fun ls hl => ?_)
                      obtain ⟨n120, h⟩ := h
                      exact kX7_copy_120 hE C hr hlk n120 x1 x2 x3 x4 x5 (0 : Int32) σ8  _ _ _ hw (lv_sub hl [1, 2, 3, 4, 5, 6, 0] rfl) h
                    · replace h := h.2 (fun z => c108 ((lg_cmp_le _ _).mpr z))
                      refine lv_aload_n hx hb (dAt dX7_copy 65 rfl) rfl (lv_at hl 0 rfl) ?_
                      refine lv_iconst (v := 2) hx hb (dAt dX7_copy 66 rfl) (by decide) ?_
                      refine x_calli C hw (x_runV (As := [.int (2 : Int32)]) (rest := []) C hw (kX7_finds l E hE (2 : Int32) σ8 _ h) mtX7_finds lk_X7_103 (hE.1 0) (nM hE (by decide)) rfl ⟨by decide, by decide⟩ ⟨rfl, rfl⟩ rfl hl.1 rfl (Nat.le_of_ble_eq_true rfl) (dAt dX7_copy 67 rfl) ⟨Nat.zero_le _, Nat.zero_le _⟩) (fun r113 σ113 H locs h hw => ?_)
                      exact x_iret C hw hr hlk h (dAt dX7_copy 68 rfl)
          · replace h := h.2 c53
            refine lv_aload_n hx hb (dAt dX7_copy 31 rfl) rfl (lv_at hl 0 rfl) ?_
            refine lv_iconst (v := 4) hx hb (dAt dX7_copy 32 rfl) (by decide) ?_
            refine x_calli C hw (x_runV (As := [.int (4 : Int32)]) (rest := []) C hw (kX7_finds l E hE (4 : Int32) σ8 _ h) mtX7_finds lk_X7_103 (hE.1 0) (nM hE (by decide)) rfl ⟨by decide, by decide⟩ ⟨rfl, rfl⟩ rfl hl.1 rfl (Nat.le_of_ble_eq_true rfl) (dAt dX7_copy 33 rfl) ⟨Nat.zero_le _, Nat.zero_le _⟩) (fun r58 σ58 H locs h hw => ?_)
            exact x_iret C hw hr hlk h (dAt dX7_copy 34 rfl)
        · replace h := h.2 c32
          refine lv_aload_n hx hb (dAt dX7_copy 18 rfl) rfl (lv_at hl 0 rfl) ?_
          refine lv_iconst (v := 1) hx hb (dAt dX7_copy 19 rfl) (by decide) ?_
          refine x_calli C hw (x_runV (As := [.int (1 : Int32)]) (rest := []) C hw (kX7_finds l E hE (1 : Int32) σ8 _ h) mtX7_finds lk_X7_103 (hE.1 0) (nM hE (by decide)) rfl ⟨by decide, by decide⟩ ⟨rfl, rfl⟩ rfl hl.1 rfl (Nat.le_of_ble_eq_true rfl) (dAt dX7_copy 20 rfl) ⟨Nat.zero_le _, Nat.zero_le _⟩) (fun r37 σ37 H locs h hw => ?_)
          exact x_iret C hw hr hlk h (dAt dX7_copy 21 rfl)
    · replace h := h.2 c11
      refine lv_bipush (v := -2) hx hb (dAt dX7_copy 6 rfl) (by decide) ?_
      exact x_iret C hw hr hlk h (dAt dX7_copy 7 rfl)
def tX7_type : List (Nat × Instr × Nat) := [(0, .iload_n 1, 1), (1, .invokestatic 116, 3), (4, .ifCond .eq 15, 3), (7, .iload_n 2, 1), (8, .i2l, 1), (9, .lconst 0, 1), (10, .ldc2_w 119, 3), (13, .invokestatic 88, 3), (16, .ifCond .ne 6, 3), (19, .bipush (-2), 2), (21, .ireturn, 1), (22, .aload_n 0, 1), (23, .getfield 25, 3), (26, .iload_n 1, 1), (27, .iaload, 1), (28, .iload_n 1, 1), (29, .ifCond .ne 8, 3), (32, .bipush 31, 2), (34, .goto 5, 3), (37, .bipush 24, 2), (39, .if_icmp .ne 6, 3), (42, .bipush (-4), 2), (44, .ireturn, 1), (45, .aload_n 0, 1), (46, .getfield 22, 3), (49, .bipush 32, 2), (51, .iload_n 1, 1), (52, .imul, 1), (53, .aload_n 0, 1), (54, .getfield 25, 3), (57, .iload_n 1, 1), (58, .iaload, 1), (59, .iadd, 1), (60, .iload_n 2, 1), (61, .iastore, 1), (62, .aload_n 0, 1), (63, .getfield 25, 3), (66, .iload_n 1, 1), (67, .dup2, 1), (68, .iaload, 1), (69, .iconst 1, 1), (70, .iadd, 1), (71, .iastore, 1), (72, .aload_n 0, 1), (73, .getfield 25, 3), (76, .iload_n 1, 1), (77, .iaload, 1), (78, .ireturn, 1)]
theorem dX7_type : dOk cX7_type tX7_type = true := by decide +kernel
abbrev rX7_type : Room := { frames := 2, cells := 0, slots := 0, locals := 45 }
def wX7_type (x1 : Int32) (x2 : Int32) (σ : Mem) (Q : Int32 → Mem → Prop) : Prop := (wX7_isTwo x1 σ (fun r1 σ1 => (((r1 = 0) → (Q (-2 : Int32) σ1)) ∧ ((¬ r1 = 0) → (wX7_in ((x2).toInt64) (0 : Int64) (255 : Int64) σ1 (fun r13 σ13 => (((¬ r13 = 0) → (vp_in x1 2 ∧ (((¬ (σ13 6 (x1).toNatClampNeg) = (if x1 = 0 then (31 : Int32) else (24 : Int32))) → (vp_in x1 2 ∧ (vp_in (((32 : Int32) * x1) + (σ13 6 (x1).toNatClampNeg)) 64 ∧ (∀ σ61 : Mem, σ61 = um σ13 5 ((((32 : Int32) * x1) + (σ13 6 (x1).toNatClampNeg))).toNatClampNeg x2 → (vp_in x1 2 ∧ (vp_in x1 2 ∧ (∀ σ71 : Mem, σ71 = um σ61 6 (x1).toNatClampNeg ((σ61 6 (x1).toNatClampNeg) + (1 : Int32)) → (vp_in x1 2 ∧ (Q (σ71 6 (x1).toNatClampNeg) σ71))))))))) ∧ (((σ13 6 (x1).toNatClampNeg) = (if x1 = 0 then (31 : Int32) else (24 : Int32))) → (Q (-4 : Int32) σ13))))) ∧ ((r13 = 0) → (Q (-2 : Int32) σ13)))))))))
set_option maxHeartbeats 4000000 in
set_option maxRecDepth 100000 in
theorem kX7_type (l : Launch) (E : wE) (hE : wM E) (x1 : Int32) (x2 : Int32) (σ : Mem) (Q : Int32 → Mem → Prop) (h : wX7_type x1 x2 σ Q) : Met l yX7_type (Cond.code yX7_type cX7_type 3 (some .int) :: TB) rX7_type (wPc E σ [.ref (gE E 0), .int x1, .int x2]) (wQi E Q) 0 0 (wA E) := by
  refine wMet (by decide) hE.2.2 (Nat.le_of_ble_eq_true rfl) ?_
  intro p e s m args below meth c ls C hr hlk hl hw
  have hx := C.1.1
  have hb := C.1.2.1
  replace C : Cx p s m args c cX7_type 3 RX7 E (wA E) := C
  replace hl : lv_has ls 3 [(0, .ref (gE E 0)), (1, .int x1), (2, .int x2)] := hl
  unfold wX7_type at h
  refine lv_iload_n hx hb (dAt dX7_type 0 rfl) rfl (lv_at hl 1 rfl) ?_
  refine x_calli C hw (x_runS (As := [.int x1]) (rest := []) C hw (kX7_isTwo l E hE x1 σ _ h) mtX7_isTwo lk_X7_116 ⟨by decide, by decide⟩ ⟨rfl, rfl⟩ rfl hl.1 rfl (Nat.le_of_ble_eq_true rfl) (dAt dX7_type 1 rfl) ⟨Nat.zero_le _, Nat.zero_le _⟩) (fun r1 σ1 H locs h hw => ?_)
  refine lv_if_eq (tgt := 19) hx hb (dAt dX7_type 2 rfl) (by decide) (fun c4 => ?_) (fun c4 => ?_)
  · replace h := h.1 c4
    refine lv_bipush (v := -2) hx hb (dAt dX7_type 9 rfl) (by decide) ?_
    exact x_iret C hw hr hlk h (dAt dX7_type 10 rfl)
  · replace h := h.2 c4
    refine lv_iload_n hx hb (dAt dX7_type 3 rfl) rfl (lv_at hl 2 rfl) ?_
    refine lv_i2l hx hb (dAt dX7_type 4 rfl) rfl ?_
    refine lv_lconst (v := 0) hx hb (dAt dX7_type 5 rfl) (by decide) ?_
    refine lv_ldc2 (v := 255) hx hb C.1.2.2.2.1 (C.1.2.2.2.2 _ ck_X7_119) (dAt dX7_type 6 rfl) ?_
    refine x_calli C hw (x_runS (As := [.long ((x2).toInt64), .long (0 : Int64), .long (255 : Int64)]) (rest := []) C hw (kX7_in l E hE ((x2).toInt64) (0 : Int64) (255 : Int64) σ1 _ h) mtX7_in lk_X7_88 ⟨by decide, by decide⟩ ⟨rfl, rfl⟩ rfl hl.1 rfl (Nat.le_of_ble_eq_true rfl) (dAt dX7_type 7 rfl) ⟨Nat.zero_le _, Nat.zero_le _⟩) (fun r13 σ13 H locs h hw => ?_)
    refine lv_if_ne (tgt := 22) hx hb (dAt dX7_type 8 rfl) (by decide) (fun c16 => ?_) (fun c16 => ?_)
    · replace h := h.1 c16
      refine lv_aload_n hx hb (dAt dX7_type 11 rfl) rfl (lv_at hl 0 rfl) ?_
      refine x_getr C hw fl_X7_25 (hE.1 0) (nM hE (by decide)) rfl (dAt dX7_type 12 rfl) ?_
      refine lv_iload_n hx hb (dAt dX7_type 13 rfl) rfl (lv_at hl 1 rfl) ?_
      obtain ⟨z27, h⟩ := h
      refine x_ild C hw (hE.1 6) (nM hE (by decide)) z27 rfl (dAt dX7_type 14 rfl) ?_
      refine lv_iload_n hx hb (dAt dX7_type 15 rfl) rfl (lv_at hl 1 rfl) ?_
      refine x_dia (ls := ls) (pcJ := 39) (cnd := x1 = 0) (a := (31 : Int32)) (b := (24 : Int32)) ([.int (σ13 6 (x1).toNatClampNeg)]) ?_ (fun ht29 hf29 => ?_)
      · refine lv_icmp_ne (tgt := 45) hx hb (dAt dX7_type 20 rfl) (by decide) (fun c39 => ?_) (fun c39 => ?_)
        · replace h := h.1 c39
          refine lv_aload_n hx hb (dAt dX7_type 23 rfl) rfl (lv_at hl 0 rfl) ?_
          refine x_getr C hw fl_X7_22 (hE.1 0) (nM hE (by decide)) rfl (dAt dX7_type 24 rfl) ?_
          refine lv_bipush (v := 32) hx hb (dAt dX7_type 25 rfl) (by decide) ?_
          refine lv_iload_n hx hb (dAt dX7_type 26 rfl) rfl (lv_at hl 1 rfl) ?_
          refine lv_imul hx hb (dAt dX7_type 27 rfl) ?_
          refine lv_aload_n hx hb (dAt dX7_type 28 rfl) rfl (lv_at hl 0 rfl) ?_
          refine x_getr C hw fl_X7_25 (hE.1 0) (nM hE (by decide)) rfl (dAt dX7_type 29 rfl) ?_
          refine lv_iload_n hx hb (dAt dX7_type 30 rfl) rfl (lv_at hl 1 rfl) ?_
          obtain ⟨z58, h⟩ := h
          refine x_ild C hw (hE.1 6) (nM hE (by decide)) z58 rfl (dAt dX7_type 31 rfl) ?_
          refine lv_iadd hx hb (dAt dX7_type 32 rfl) ?_
          refine lv_iload_n hx hb (dAt dX7_type 33 rfl) rfl (lv_at hl 2 rfl) ?_
          obtain ⟨z61, h⟩ := h
          refine x_ist C hw (hE.1 5) (nM hE (by decide)) z61 rfl (dAt dX7_type 34 rfl) (fun σ61 H locs eσ61 hw => ?_)
          replace h := h σ61 eσ61
          refine lv_aload_n hx hb (dAt dX7_type 35 rfl) rfl (lv_at hl 0 rfl) ?_
          refine x_getr C hw fl_X7_25 (hE.1 0) (nM hE (by decide)) rfl (dAt dX7_type 36 rfl) ?_
          refine lv_iload_n hx hb (dAt dX7_type 37 rfl) rfl (lv_at hl 1 rfl) ?_
          refine lv_dup2_11 hx hb (dAt dX7_type 38 rfl) rfl rfl ?_
          obtain ⟨z68, h⟩ := h
          refine x_ild C hw (hE.1 6) (nM hE (by decide)) z68 rfl (dAt dX7_type 39 rfl) ?_
          refine lv_iconst (v := 1) hx hb (dAt dX7_type 40 rfl) (by decide) ?_
          refine lv_iadd hx hb (dAt dX7_type 41 rfl) ?_
          obtain ⟨z71, h⟩ := h
          refine x_ist C hw (hE.1 6) (nM hE (by decide)) z71 rfl (dAt dX7_type 42 rfl) (fun σ71 H locs eσ71 hw => ?_)
          replace h := h σ71 eσ71
          refine lv_aload_n hx hb (dAt dX7_type 43 rfl) rfl (lv_at hl 0 rfl) ?_
          refine x_getr C hw fl_X7_25 (hE.1 0) (nM hE (by decide)) rfl (dAt dX7_type 44 rfl) ?_
          refine lv_iload_n hx hb (dAt dX7_type 45 rfl) rfl (lv_at hl 1 rfl) ?_
          obtain ⟨z77, h⟩ := h
          refine x_ild C hw (hE.1 6) (nM hE (by decide)) z77 rfl (dAt dX7_type 46 rfl) ?_
          exact x_iret C hw hr hlk h (dAt dX7_type 47 rfl)
        · replace h := h.2 c39
          refine lv_bipush (v := -4) hx hb (dAt dX7_type 21 rfl) (by decide) ?_
          exact x_iret C hw hr hlk h (dAt dX7_type 22 rfl)
      · refine lv_if_ne (tgt := 37) hx hb (dAt dX7_type 16 rfl) (by decide) (fun c29 => ?_) (fun c29 => ?_)
        · refine lv_bipush (v := 24) hx hb (dAt dX7_type 19 rfl) (by decide) ?_
          exact hf29 c29
        · refine lv_bipush (v := 31) hx hb (dAt dX7_type 17 rfl) (by decide) ?_
          refine lv_goto (tgt := 39) hx hb (dAt dX7_type 18 rfl) (by decide) ?_
          exact ht29 c29
    · replace h := h.2 c16
      refine lv_bipush (v := -2) hx hb (dAt dX7_type 9 rfl) (by decide) ?_
      exact x_iret C hw hr hlk h (dAt dX7_type 10 rfl)
def tX7_wipe : List (Nat × Instr × Nat) := [(0, .iload_n 1, 1), (1, .invokestatic 116, 3), (4, .ifCond .ne 6, 3), (7, .bipush (-2), 2), (9, .ireturn, 1), (10, .aload_n 0, 1), (11, .getfield 25, 3), (14, .iload_n 1, 1), (15, .iaload, 1), (16, .istore_n 2, 1), (17, .aload_n 0, 1), (18, .getfield 25, 3), (21, .iload_n 1, 1), (22, .iconst 0, 1), (23, .iastore, 1), (24, .iload_n 2, 1), (25, .ireturn, 1)]
theorem dX7_wipe : dOk cX7_wipe tX7_wipe = true := by decide +kernel
abbrev rX7_wipe : Room := { frames := 2, cells := 0, slots := 0, locals := 45 }
def wX7_wipe (x1 : Int32) (σ : Mem) (Q : Int32 → Mem → Prop) : Prop := (wX7_isTwo x1 σ (fun r1 σ1 => (((¬ r1 = 0) → (vp_in x1 2 ∧ (∀ x2_16 : Int32, x2_16 = (σ1 6 (x1).toNatClampNeg) → (vp_in x1 2 ∧ (∀ σ23 : Mem, σ23 = um σ1 6 (x1).toNatClampNeg (0 : Int32) → (Q x2_16 σ23)))))) ∧ ((r1 = 0) → (Q (-2 : Int32) σ1)))))
set_option maxHeartbeats 4000000 in
set_option maxRecDepth 100000 in
theorem kX7_wipe (l : Launch) (E : wE) (hE : wM E) (x1 : Int32) (σ : Mem) (Q : Int32 → Mem → Prop) (h : wX7_wipe x1 σ Q) : Met l yX7_wipe (Cond.code yX7_wipe cX7_wipe 3 (some .int) :: TB) rX7_wipe (wPc E σ [.ref (gE E 0), .int x1]) (wQi E Q) 0 0 (wA E) := by
  refine wMet (by decide) hE.2.2 (Nat.le_of_ble_eq_true rfl) ?_
  intro p e s m args below meth c ls C hr hlk hl hw
  have hx := C.1.1
  have hb := C.1.2.1
  replace C : Cx p s m args c cX7_wipe 3 RX7 E (wA E) := C
  replace hl : lv_has ls 3 [(0, .ref (gE E 0)), (1, .int x1)] := hl
  unfold wX7_wipe at h
  refine lv_iload_n hx hb (dAt dX7_wipe 0 rfl) rfl (lv_at hl 1 rfl) ?_
  refine x_calli C hw (x_runS (As := [.int x1]) (rest := []) C hw (kX7_isTwo l E hE x1 σ _ h) mtX7_isTwo lk_X7_116 ⟨by decide, by decide⟩ ⟨rfl, rfl⟩ rfl hl.1 rfl (Nat.le_of_ble_eq_true rfl) (dAt dX7_wipe 1 rfl) ⟨Nat.zero_le _, Nat.zero_le _⟩) (fun r1 σ1 H locs h hw => ?_)
  refine lv_if_ne (tgt := 10) hx hb (dAt dX7_wipe 2 rfl) (by decide) (fun c4 => ?_) (fun c4 => ?_)
  · replace h := h.1 c4
    refine lv_aload_n hx hb (dAt dX7_wipe 5 rfl) rfl (lv_at hl 0 rfl) ?_
    refine x_getr C hw fl_X7_25 (hE.1 0) (nM hE (by decide)) rfl (dAt dX7_wipe 6 rfl) ?_
    refine lv_iload_n hx hb (dAt dX7_wipe 7 rfl) rfl (lv_at hl 1 rfl) ?_
    obtain ⟨z15, h⟩ := h
    refine x_ild C hw (hE.1 6) (nM hE (by decide)) z15 rfl (dAt dX7_wipe 8 rfl) ?_
    refine lv_topi (fun x2_16 ex2_16 => ?_)
    replace h := h x2_16 ex2_16
    refine lv_istore_n (lv' := [(2, .int x2_16), (0, .ref (gE E 0)), (1, .int x1)]) hx hb (dAt dX7_wipe 9 rfl) rfl hl (by decide) rfl (fun ls hl => ?_)
    refine lv_aload_n hx hb (dAt dX7_wipe 10 rfl) rfl (lv_at hl 1 rfl) ?_
    refine x_getr C hw fl_X7_25 (hE.1 0) (nM hE (by decide)) rfl (dAt dX7_wipe 11 rfl) ?_
    refine lv_iload_n hx hb (dAt dX7_wipe 12 rfl) rfl (lv_at hl 2 rfl) ?_
    refine lv_iconst (v := 0) hx hb (dAt dX7_wipe 13 rfl) (by decide) ?_
    obtain ⟨z23, h⟩ := h
    refine x_ist C hw (hE.1 6) (nM hE (by decide)) z23 rfl (dAt dX7_wipe 14 rfl) (fun σ23 H locs eσ23 hw => ?_)
    replace h := h σ23 eσ23
    refine lv_iload_n hx hb (dAt dX7_wipe 15 rfl) rfl (lv_at hl 0 rfl) ?_
    exact x_iret C hw hr hlk h (dAt dX7_wipe 16 rfl)
  · replace h := h.2 c4
    refine lv_bipush (v := -2) hx hb (dAt dX7_wipe 3 rfl) (by decide) ?_
    exact x_iret C hw hr hlk h (dAt dX7_wipe 4 rfl)
def tX7_undo : List (Nat × Instr × Nat) := [(0, .iload_n 1, 1), (1, .invokestatic 116, 3), (4, .ifCond .ne 6, 3), (7, .bipush (-2), 2), (9, .ireturn, 1), (10, .aload_n 0, 1), (11, .getfield 25, 3), (14, .iload_n 1, 1), (15, .iaload, 1), (16, .ifCond .ne 6, 3), (19, .bipush (-3), 2), (21, .ireturn, 1), (22, .aload_n 0, 1), (23, .getfield 25, 3), (26, .iload_n 1, 1), (27, .dup2, 1), (28, .iaload, 1), (29, .iconst 1, 1), (30, .isub, 1), (31, .iastore, 1), (32, .aload_n 0, 1), (33, .getfield 25, 3), (36, .iload_n 1, 1), (37, .iaload, 1), (38, .ireturn, 1)]
theorem dX7_undo : dOk cX7_undo tX7_undo = true := by decide +kernel
abbrev rX7_undo : Room := { frames := 2, cells := 0, slots := 0, locals := 45 }
def wX7_undo (x1 : Int32) (σ : Mem) (Q : Int32 → Mem → Prop) : Prop := (wX7_isTwo x1 σ (fun r1 σ1 => (((¬ r1 = 0) → (vp_in x1 2 ∧ (((¬ (σ1 6 (x1).toNatClampNeg) = 0) → (vp_in x1 2 ∧ (vp_in x1 2 ∧ (∀ σ31 : Mem, σ31 = um σ1 6 (x1).toNatClampNeg ((σ1 6 (x1).toNatClampNeg) - (1 : Int32)) → (vp_in x1 2 ∧ (Q (σ31 6 (x1).toNatClampNeg) σ31)))))) ∧ (((σ1 6 (x1).toNatClampNeg) = 0) → (Q (-3 : Int32) σ1))))) ∧ ((r1 = 0) → (Q (-2 : Int32) σ1)))))
set_option maxHeartbeats 4000000 in
set_option maxRecDepth 100000 in
theorem kX7_undo (l : Launch) (E : wE) (hE : wM E) (x1 : Int32) (σ : Mem) (Q : Int32 → Mem → Prop) (h : wX7_undo x1 σ Q) : Met l yX7_undo (Cond.code yX7_undo cX7_undo 2 (some .int) :: TB) rX7_undo (wPc E σ [.ref (gE E 0), .int x1]) (wQi E Q) 0 0 (wA E) := by
  refine wMet (by decide) hE.2.2 (Nat.le_of_ble_eq_true rfl) ?_
  intro p e s m args below meth c ls C hr hlk hl hw
  have hx := C.1.1
  have hb := C.1.2.1
  replace C : Cx p s m args c cX7_undo 2 RX7 E (wA E) := C
  replace hl : lv_has ls 2 [(0, .ref (gE E 0)), (1, .int x1)] := hl
  unfold wX7_undo at h
  refine lv_iload_n hx hb (dAt dX7_undo 0 rfl) rfl (lv_at hl 1 rfl) ?_
  refine x_calli C hw (x_runS (As := [.int x1]) (rest := []) C hw (kX7_isTwo l E hE x1 σ _ h) mtX7_isTwo lk_X7_116 ⟨by decide, by decide⟩ ⟨rfl, rfl⟩ rfl hl.1 rfl (Nat.le_of_ble_eq_true rfl) (dAt dX7_undo 1 rfl) ⟨Nat.zero_le _, Nat.zero_le _⟩) (fun r1 σ1 H locs h hw => ?_)
  refine lv_if_ne (tgt := 10) hx hb (dAt dX7_undo 2 rfl) (by decide) (fun c4 => ?_) (fun c4 => ?_)
  · replace h := h.1 c4
    refine lv_aload_n hx hb (dAt dX7_undo 5 rfl) rfl (lv_at hl 0 rfl) ?_
    refine x_getr C hw fl_X7_25 (hE.1 0) (nM hE (by decide)) rfl (dAt dX7_undo 6 rfl) ?_
    refine lv_iload_n hx hb (dAt dX7_undo 7 rfl) rfl (lv_at hl 1 rfl) ?_
    obtain ⟨z15, h⟩ := h
    refine x_ild C hw (hE.1 6) (nM hE (by decide)) z15 rfl (dAt dX7_undo 8 rfl) ?_
    refine lv_if_ne (tgt := 22) hx hb (dAt dX7_undo 9 rfl) (by decide) (fun c16 => ?_) (fun c16 => ?_)
    · replace h := h.1 c16
      refine lv_aload_n hx hb (dAt dX7_undo 12 rfl) rfl (lv_at hl 0 rfl) ?_
      refine x_getr C hw fl_X7_25 (hE.1 0) (nM hE (by decide)) rfl (dAt dX7_undo 13 rfl) ?_
      refine lv_iload_n hx hb (dAt dX7_undo 14 rfl) rfl (lv_at hl 1 rfl) ?_
      refine lv_dup2_11 hx hb (dAt dX7_undo 15 rfl) rfl rfl ?_
      obtain ⟨z28, h⟩ := h
      refine x_ild C hw (hE.1 6) (nM hE (by decide)) z28 rfl (dAt dX7_undo 16 rfl) ?_
      refine lv_iconst (v := 1) hx hb (dAt dX7_undo 17 rfl) (by decide) ?_
      refine lv_isub hx hb (dAt dX7_undo 18 rfl) ?_
      obtain ⟨z31, h⟩ := h
      refine x_ist C hw (hE.1 6) (nM hE (by decide)) z31 rfl (dAt dX7_undo 19 rfl) (fun σ31 H locs eσ31 hw => ?_)
      replace h := h σ31 eσ31
      refine lv_aload_n hx hb (dAt dX7_undo 20 rfl) rfl (lv_at hl 0 rfl) ?_
      refine x_getr C hw fl_X7_25 (hE.1 0) (nM hE (by decide)) rfl (dAt dX7_undo 21 rfl) ?_
      refine lv_iload_n hx hb (dAt dX7_undo 22 rfl) rfl (lv_at hl 1 rfl) ?_
      obtain ⟨z37, h⟩ := h
      refine x_ild C hw (hE.1 6) (nM hE (by decide)) z37 rfl (dAt dX7_undo 23 rfl) ?_
      exact x_iret C hw hr hlk h (dAt dX7_undo 24 rfl)
    · replace h := h.2 c16
      refine lv_bipush (v := -3) hx hb (dAt dX7_undo 10 rfl) (by decide) ?_
      exact x_iret C hw hr hlk h (dAt dX7_undo 11 rfl)
  · replace h := h.2 c4
    refine lv_bipush (v := -2) hx hb (dAt dX7_undo 3 rfl) (by decide) ?_
    exact x_iret C hw hr hlk h (dAt dX7_undo 4 rfl)
def tX7_dancerOf : List (Nat × Instr × Nat) := [(0, .iload_n 0, 1), (1, .tableswitch 98 0 2 #[27, 51, 74], 27), (28, .iload_n 1, 1), (29, .i2l, 1), (30, .ldc2_w 121, 3), (33, .ldc2_w 123, 3), (36, .invokestatic 88, 3), (39, .ifCond .eq 10, 3), (42, .iload_n 1, 1), (43, .bipush 97, 2), (45, .isub, 1), (46, .goto 5, 3), (49, .bipush (-9), 2), (51, .ireturn, 1), (52, .iload_n 1, 1), (53, .bipush 114, 2), (55, .if_icmp .ne 7, 3), (58, .iconst 0, 1), (59, .goto 15, 3), (62, .iload_n 1, 1), (63, .bipush 108, 2), (65, .if_icmp .ne 7, 3), (68, .iconst 1, 1), (69, .goto 5, 3), (72, .bipush (-9), 2), (74, .ireturn, 1), (75, .iload_n 1, 1), (76, .i2l, 1), (77, .ldc2_w 125, 3), (80, .ldc2_w 127, 3), (83, .invokestatic 88, 3), (86, .ifCond .eq 10, 3), (89, .iload_n 1, 1), (90, .bipush 48, 2), (92, .isub, 1), (93, .goto 5, 3), (96, .bipush (-9), 2), (98, .ireturn, 1), (99, .iload_n 1, 1), (100, .bipush 59, 2), (102, .if_icmp .ne 7, 3), (105, .iconst 0, 1), (106, .goto 5, 3), (109, .bipush (-9), 2), (111, .ireturn, 1)]
theorem dX7_dancerOf : dOk cX7_dancerOf tX7_dancerOf = true := by decide +kernel
abbrev rX7_dancerOf : Room := { frames := 1, cells := 0, slots := 0, locals := 25 }
def wX7_dancerOf (x0 : Int32) (x1 : Int32) (σ : Mem) (Q : Int32 → Mem → Prop) : Prop := ((x0 = (0 : Int32) → (wX7_in ((x1).toInt64) (97 : Int64) (108 : Int64) σ (fun r36 σ36 => (Q (if r36 = 0 then (-9 : Int32) else (x1 - (97 : Int32))) σ36)))) ∧ (x0 = (1 : Int32) → (Q (if x1 = (114 : Int32) then (0 : Int32) else (if x1 = (108 : Int32) then (1 : Int32) else (-9 : Int32))) σ)) ∧ (x0 = (2 : Int32) → (wX7_in ((x1).toInt64) (48 : Int64) (57 : Int64) σ (fun r83 σ83 => (Q (if r83 = 0 then (-9 : Int32) else (x1 - (48 : Int32))) σ83)))) ∧ ((x0).toInt < 0 ∨ 2 < (x0).toInt → (Q (if x1 = (59 : Int32) then (0 : Int32) else (-9 : Int32)) σ)))
set_option maxHeartbeats 4000000 in
set_option maxRecDepth 100000 in
theorem kX7_dancerOf (l : Launch) (E : wE) (hE : wM E) (x0 : Int32) (x1 : Int32) (σ : Mem) (Q : Int32 → Mem → Prop) (h : wX7_dancerOf x0 x1 σ Q) : Met l yX7_dancerOf (Cond.code yX7_dancerOf cX7_dancerOf 2 (some .int) :: TB) rX7_dancerOf (wPc E σ [.int x0, .int x1]) (wQi E Q) 0 0 (wA E) := by
  refine wMet (by decide) hE.2.2 (Nat.le_of_ble_eq_true rfl) ?_
  intro p e s m args below meth c ls C hr hlk hl hw
  have hx := C.1.1
  have hb := C.1.2.1
  replace C : Cx p s m args c cX7_dancerOf 2 RX7 E (wA E) := C
  replace hl : lv_has ls 2 [(0, .int x0), (1, .int x1)] := hl
  unfold wX7_dancerOf at h
  refine lv_iload_n hx hb (dAt dX7_dancerOf 0 rfl) rfl (lv_at hl 0 rfl) ?_
  rcases swT x0 0 3 (by decide) with ⟨j1, hj1, ej1⟩ | ej1
  · match j1, hj1, ej1 with
    | 0, _, ej1 =>
      have ej1 : x0 = (0 : Int32) := ej1
      replace h := h.1 ej1
      refine lv_tableIn (off := 27) (tgt := 28) hx hb (dAt dX7_dancerOf 1 rfl) (by rw [ej1]; decide) (by rw [ej1]; decide) (by rw [ej1]; rfl) (by decide) ?_
      refine lv_iload_n hx hb (dAt dX7_dancerOf 2 rfl) rfl (lv_at hl 1 rfl) ?_
      refine lv_i2l hx hb (dAt dX7_dancerOf 3 rfl) rfl ?_
      refine lv_ldc2 (v := 97) hx hb C.1.2.2.2.1 (C.1.2.2.2.2 _ ck_X7_121) (dAt dX7_dancerOf 4 rfl) ?_
      refine lv_ldc2 (v := 108) hx hb C.1.2.2.2.1 (C.1.2.2.2.2 _ ck_X7_123) (dAt dX7_dancerOf 5 rfl) ?_
      refine x_calli C hw (x_runS (As := [.long ((x1).toInt64), .long (97 : Int64), .long (108 : Int64)]) (rest := []) C hw (kX7_in l E hE ((x1).toInt64) (97 : Int64) (108 : Int64) σ _ h) mtX7_in lk_X7_88 ⟨by decide, by decide⟩ ⟨rfl, rfl⟩ rfl hl.1 rfl (Nat.le_of_ble_eq_true rfl) (dAt dX7_dancerOf 6 rfl) ⟨Nat.zero_le _, Nat.zero_le _⟩) (fun r36 σ36 H locs h hw => ?_)
      refine x_dia (ls := ls) (pcJ := 51) (cnd := r36 = 0) (a := (-9 : Int32)) (b := (x1 - (97 : Int32))) ([]) ?_ (fun ht39 hf39 => ?_)
      · exact x_iret C hw hr hlk h (dAt dX7_dancerOf 13 rfl)
      · refine lv_if_eq (tgt := 49) hx hb (dAt dX7_dancerOf 7 rfl) (by decide) (fun c39 => ?_) (fun c39 => ?_)
        · refine lv_bipush (v := -9) hx hb (dAt dX7_dancerOf 12 rfl) (by decide) ?_
          exact ht39 c39
        · refine lv_iload_n hx hb (dAt dX7_dancerOf 8 rfl) rfl (lv_at hl 1 rfl) ?_
          refine lv_bipush (v := 97) hx hb (dAt dX7_dancerOf 9 rfl) (by decide) ?_
          refine lv_isub hx hb (dAt dX7_dancerOf 10 rfl) ?_
          refine lv_goto (tgt := 51) hx hb (dAt dX7_dancerOf 11 rfl) (by decide) ?_
          exact hf39 c39
    | 1, _, ej1 =>
      have ej1 : x0 = (1 : Int32) := ej1
      replace h := h.2.1 ej1
      refine lv_tableIn (off := 51) (tgt := 52) hx hb (dAt dX7_dancerOf 1 rfl) (by rw [ej1]; decide) (by rw [ej1]; decide) (by rw [ej1]; rfl) (by decide) ?_
      refine lv_iload_n hx hb (dAt dX7_dancerOf 14 rfl) rfl (lv_at hl 1 rfl) ?_
      refine lv_bipush (v := 114) hx hb (dAt dX7_dancerOf 15 rfl) (by decide) ?_
      refine x_dia (ls := ls) (pcJ := 74) (cnd := x1 = (114 : Int32)) (a := (0 : Int32)) (b := (if x1 = (108 : Int32) then (1 : Int32) else (-9 : Int32))) ([]) ?_ (fun ht55 hf55 => ?_)
      · exact x_iret C hw hr hlk h (dAt dX7_dancerOf 25 rfl)
      · refine lv_icmp_ne (tgt := 62) hx hb (dAt dX7_dancerOf 16 rfl) (by decide) (fun c55 => ?_) (fun c55 => ?_)
        · refine lv_iload_n hx hb (dAt dX7_dancerOf 19 rfl) rfl (lv_at hl 1 rfl) ?_
          refine lv_bipush (v := 108) hx hb (dAt dX7_dancerOf 20 rfl) (by decide) ?_
          refine x_dia (ls := ls) _ (hf55 c55) (fun ht55_55t hf55_55t => ?_)
          refine lv_icmp_ne (tgt := 72) hx hb (dAt dX7_dancerOf 21 rfl) (by decide) (fun c65 => ?_) (fun c65 => ?_)
          · refine lv_bipush (v := -9) hx hb (dAt dX7_dancerOf 24 rfl) (by decide) ?_
            exact hf55_55t c65
          · refine lv_iconst (v := 1) hx hb (dAt dX7_dancerOf 22 rfl) (by decide) ?_
            refine lv_goto (tgt := 74) hx hb (dAt dX7_dancerOf 23 rfl) (by decide) ?_
            exact ht55_55t c65
        · refine lv_iconst (v := 0) hx hb (dAt dX7_dancerOf 17 rfl) (by decide) ?_
          refine lv_goto (tgt := 74) hx hb (dAt dX7_dancerOf 18 rfl) (by decide) ?_
          exact ht55 c55
    | 2, _, ej1 =>
      have ej1 : x0 = (2 : Int32) := ej1
      replace h := h.2.2.1 ej1
      refine lv_tableIn (off := 74) (tgt := 75) hx hb (dAt dX7_dancerOf 1 rfl) (by rw [ej1]; decide) (by rw [ej1]; decide) (by rw [ej1]; rfl) (by decide) ?_
      refine lv_iload_n hx hb (dAt dX7_dancerOf 26 rfl) rfl (lv_at hl 1 rfl) ?_
      refine lv_i2l hx hb (dAt dX7_dancerOf 27 rfl) rfl ?_
      refine lv_ldc2 (v := 48) hx hb C.1.2.2.2.1 (C.1.2.2.2.2 _ ck_X7_125) (dAt dX7_dancerOf 28 rfl) ?_
      refine lv_ldc2 (v := 57) hx hb C.1.2.2.2.1 (C.1.2.2.2.2 _ ck_X7_127) (dAt dX7_dancerOf 29 rfl) ?_
      refine x_calli C hw (x_runS (As := [.long ((x1).toInt64), .long (48 : Int64), .long (57 : Int64)]) (rest := []) C hw (kX7_in l E hE ((x1).toInt64) (48 : Int64) (57 : Int64) σ _ h) mtX7_in lk_X7_88 ⟨by decide, by decide⟩ ⟨rfl, rfl⟩ rfl hl.1 rfl (Nat.le_of_ble_eq_true rfl) (dAt dX7_dancerOf 30 rfl) ⟨Nat.zero_le _, Nat.zero_le _⟩) (fun r83 σ83 H locs h hw => ?_)
      refine x_dia (ls := ls) (pcJ := 98) (cnd := r83 = 0) (a := (-9 : Int32)) (b := (x1 - (48 : Int32))) ([]) ?_ (fun ht86 hf86 => ?_)
      · exact x_iret C hw hr hlk h (dAt dX7_dancerOf 37 rfl)
      · refine lv_if_eq (tgt := 96) hx hb (dAt dX7_dancerOf 31 rfl) (by decide) (fun c86 => ?_) (fun c86 => ?_)
        · refine lv_bipush (v := -9) hx hb (dAt dX7_dancerOf 36 rfl) (by decide) ?_
          exact ht86 c86
        · refine lv_iload_n hx hb (dAt dX7_dancerOf 32 rfl) rfl (lv_at hl 1 rfl) ?_
          refine lv_bipush (v := 48) hx hb (dAt dX7_dancerOf 33 rfl) (by decide) ?_
          refine lv_isub hx hb (dAt dX7_dancerOf 34 rfl) ?_
          refine lv_goto (tgt := 98) hx hb (dAt dX7_dancerOf 35 rfl) (by decide) ?_
          exact hf86 c86
    | j + 3, hj, _ => exact absurd hj (by omega)
  · replace h := h.2.2.2 ej1
    refine lv_tableOut (tgt := 99) hx hb (dAt dX7_dancerOf 1 rfl) ej1 (by decide) ?_
    refine lv_iload_n hx hb (dAt dX7_dancerOf 38 rfl) rfl (lv_at hl 1 rfl) ?_
    refine lv_bipush (v := 59) hx hb (dAt dX7_dancerOf 39 rfl) (by decide) ?_
    refine x_dia (ls := ls) (pcJ := 111) (cnd := x1 = (59 : Int32)) (a := (0 : Int32)) (b := (-9 : Int32)) ([]) ?_ (fun ht102 hf102 => ?_)
    · exact x_iret C hw hr hlk h (dAt dX7_dancerOf 44 rfl)
    · refine lv_icmp_ne (tgt := 109) hx hb (dAt dX7_dancerOf 40 rfl) (by decide) (fun c102 => ?_) (fun c102 => ?_)
      · refine lv_bipush (v := -9) hx hb (dAt dX7_dancerOf 43 rfl) (by decide) ?_
        exact hf102 c102
      · refine lv_iconst (v := 0) hx hb (dAt dX7_dancerOf 41 rfl) (by decide) ?_
        refine lv_goto (tgt := 111) hx hb (dAt dX7_dancerOf 42 rfl) (by decide) ?_
        exact ht102 c102
def tX7_isTaken : List (Nat × Instr × Nat) := [(0, .iconst 0, 1), (1, .istore_n 3, 1), (2, .iconst 0, 1), (3, .istore 4, 2), (5, .iload 4, 2), (7, .iload_n 1, 1), (8, .if_icmp .ge 32, 3), (11, .iload_n 3, 1), (12, .ifCond .ne 16, 3), (15, .aload_n 0, 1), (16, .getfield 28, 3), (19, .iconst 3, 1), (20, .iload 4, 2), (22, .imul, 1), (23, .iaload, 1), (24, .iload_n 2, 1), (25, .if_icmp .ne 7, 3), (28, .iconst 1, 1), (29, .goto 4, 3), (32, .iconst 0, 1), (33, .istore_n 3, 1), (34, .iinc 4 1, 3), (37, .goto (-32), 3), (40, .iload_n 3, 1), (41, .ireturn, 1)]
theorem dX7_isTaken : dOk cX7_isTaken tX7_isTaken = true := by decide +kernel
abbrev rX7_isTaken : Room := { frames := 0, cells := 0, slots := 0, locals := 0 }
def wX7_isTaken_5 (Q : Int32 → Mem → Prop) : Nat → Int32 → Int32 → Int32 → Int32 → Mem → Prop
  | 0, _, _, _, _, _ => False
  | n + 1, x1, x2, x3, x4, σ => (((x1 ≤ x4) → (bz x3 ∧ Q x3 σ)) ∧ ((¬ x1 ≤ x4) → (((¬ x3 = 0) → (wX7_isTaken_5 Q n x1 x2 (1 : Int32) (x4 + (1 : Int32)) σ)) ∧ ((x3 = 0) → (vp_in ((3 : Int32) * x4) 24 ∧ (((¬ (σ 7 (((3 : Int32) * x4)).toNatClampNeg) = x2) → (wX7_isTaken_5 Q n x1 x2 (0 : Int32) (x4 + (1 : Int32)) σ)) ∧ (((σ 7 (((3 : Int32) * x4)).toNatClampNeg) = x2) → (wX7_isTaken_5 Q n x1 x2 (1 : Int32) (x4 + (1 : Int32)) σ))))))))
def wX7_isTaken (x1 : Int32) (x2 : Int32) (σ : Mem) (Q : Int32 → Mem → Prop) : Prop := (∃ N5, wX7_isTaken_5 Q N5 x1 x2 (0 : Int32) (0 : Int32) σ)
set_option maxHeartbeats 4000000 in
set_option maxRecDepth 100000 in
theorem kX7_isTaken_5 {p : Program} {l : Launch} {e : Env} {s : State} {m : MethodId} {args : Array Value} {below : List Frame} {meth : Method} {c : Code} {E : wE} (hE : wM E) (C : Cx p s m args c cX7_isTaken 5 RX7 E (wA E)) (hr : meth.sig.returnType = (some .boolean)) (hlk : meth.locks = false) {Q : Int32 → Mem → Prop} : ∀ (n : Nat) (x1 : Int32) (x2 : Int32) (x3 : Int32) (x4 : Int32) (σ : Mem) (H : Heap) (locs : List Loc) (ls : Array Slot), wd E (wA E) s σ H locs → lv_has ls 5 [(0, .ref (gE E 0)), (1, .int x1), (2, .int x2), (3, .int x3), (4, .int x4)] → wX7_isTaken_5 Q n x1 x2 x3 x4 σ → W p l e rX7_isTaken s m args below meth c H locs 0 0 (MQ below (wQi E Q) args s 0 0 (wA E)) (F0 m 5 ls []) := by
  have hx := C.1.1
  have hb := C.1.2.1
  intro n
  induction n with
  | zero =>
    intro x1 x2 x3 x4 σ  H locs ls hw hl h
    exact h.elim
  | succ n ih =>
    intro x1 x2 x3 x4 σ  H locs ls hw hl h
    rw [wX7_isTaken_5] at h
    refine lv_iload hx hb (dAt dX7_isTaken 4 rfl) (lv_at hl 4 rfl) ?_
    refine lv_iload_n hx hb (dAt dX7_isTaken 5 rfl) rfl (lv_at hl 1 rfl) ?_
    refine lv_icmp_ge (tgt := 40) hx hb (dAt dX7_isTaken 6 rfl) (by decide) (fun c8 => ?_) (fun c8 => ?_)
    · replace h := h.1 c8
      refine lv_iload_n hx hb (dAt dX7_isTaken 23 rfl) rfl (lv_at hl 3 rfl) ?_
      exact x_zret C hw hr hlk h.1 h.2 (dAt dX7_isTaken 24 rfl)
    · replace h := h.2 c8
      refine lv_iload_n hx hb (dAt dX7_isTaken 7 rfl) rfl (lv_at hl 3 rfl) ?_
      refine lv_if_ne (tgt := 28) hx hb (dAt dX7_isTaken 8 rfl) (by decide) (fun c12 => ?_) (fun c12 => ?_)
      · replace h := h.1 c12
        refine lv_iconst (v := 1) hx hb (dAt dX7_isTaken 17 rfl) (by decide) ?_
        refine lv_goto (tgt := 33) hx hb (dAt dX7_isTaken 18 rfl) (by decide) ?_
        refine lv_istore_n (lv' := [(3, .int (1 : Int32)), (0, .ref (gE E 0)), (1, .int x1), (2, .int x2), (4, .int x4)]) hx hb (dAt dX7_isTaken 20 rfl) rfl hl (by decide) rfl (fun ls hl => ?_)
        refine lv_iinc (v := (x4 + (1 : Int32))) (lv' := [(4, .int (x4 + (1 : Int32))), (3, .int (1 : Int32)), (0, .ref (gE E 0)), (1, .int x1), (2, .int x2)]) hx hb (dAt dX7_isTaken 21 rfl) hl (k := 4) rfl rfl (by decide) rfl (fun ls hl => ?_)
        refine lv_goto (tgt := 5) hx hb (dAt dX7_isTaken 22 rfl) (by decide) ?_
        exact ih x1 x2 (1 : Int32) (x4 + (1 : Int32)) σ  _ _ _ hw (lv_sub hl [2, 3, 4, 1, 0] rfl) h
      · replace h := h.2 c12
        refine lv_aload_n hx hb (dAt dX7_isTaken 9 rfl) rfl (lv_at hl 0 rfl) ?_
        refine x_getr C hw fl_X7_28 (hE.1 0) (nM hE (by decide)) rfl (dAt dX7_isTaken 10 rfl) ?_
        refine lv_iconst (v := 3) hx hb (dAt dX7_isTaken 11 rfl) (by decide) ?_
        refine lv_iload hx hb (dAt dX7_isTaken 12 rfl) (lv_at hl 4 rfl) ?_
        refine lv_imul hx hb (dAt dX7_isTaken 13 rfl) ?_
        obtain ⟨z23, h⟩ := h
        refine x_ild C hw (hE.1 7) (nM hE (by decide)) z23 rfl (dAt dX7_isTaken 14 rfl) ?_
        refine lv_iload_n hx hb (dAt dX7_isTaken 15 rfl) rfl (lv_at hl 2 rfl) ?_
        refine lv_icmp_ne (tgt := 32) hx hb (dAt dX7_isTaken 16 rfl) (by decide) (fun c25 => ?_) (fun c25 => ?_)
        · replace h := h.1 c25
          refine lv_iconst (v := 0) hx hb (dAt dX7_isTaken 19 rfl) (by decide) ?_
          refine lv_istore_n (lv' := [(3, .int (0 : Int32)), (0, .ref (gE E 0)), (1, .int x1), (2, .int x2), (4, .int x4)]) hx hb (dAt dX7_isTaken 20 rfl) rfl hl (by decide) rfl (fun ls hl => ?_)
          refine lv_iinc (v := (x4 + (1 : Int32))) (lv' := [(4, .int (x4 + (1 : Int32))), (3, .int (0 : Int32)), (0, .ref (gE E 0)), (1, .int x1), (2, .int x2)]) hx hb (dAt dX7_isTaken 21 rfl) hl (k := 4) rfl rfl (by decide) rfl (fun ls hl => ?_)
          refine lv_goto (tgt := 5) hx hb (dAt dX7_isTaken 22 rfl) (by decide) ?_
          exact ih x1 x2 (0 : Int32) (x4 + (1 : Int32)) σ  _ _ _ hw (lv_sub hl [2, 3, 4, 1, 0] rfl) h
        · replace h := h.2 c25
          refine lv_iconst (v := 1) hx hb (dAt dX7_isTaken 17 rfl) (by decide) ?_
          refine lv_goto (tgt := 33) hx hb (dAt dX7_isTaken 18 rfl) (by decide) ?_
          refine lv_istore_n (lv' := [(3, .int (1 : Int32)), (0, .ref (gE E 0)), (1, .int x1), (2, .int x2), (4, .int x4)]) hx hb (dAt dX7_isTaken 20 rfl) rfl hl (by decide) rfl (fun ls hl => ?_)
          refine lv_iinc (v := (x4 + (1 : Int32))) (lv' := [(4, .int (x4 + (1 : Int32))), (3, .int (1 : Int32)), (0, .ref (gE E 0)), (1, .int x1), (2, .int x2)]) hx hb (dAt dX7_isTaken 21 rfl) hl (k := 4) rfl rfl (by decide) rfl (fun ls hl => ?_)
          refine lv_goto (tgt := 5) hx hb (dAt dX7_isTaken 22 rfl) (by decide) ?_
          exact ih x1 x2 (1 : Int32) (x4 + (1 : Int32)) σ  _ _ _ hw (lv_sub hl [2, 3, 4, 1, 0] rfl) h
set_option maxHeartbeats 4000000 in
set_option maxRecDepth 100000 in
theorem kX7_isTaken (l : Launch) (E : wE) (hE : wM E) (x1 : Int32) (x2 : Int32) (σ : Mem) (Q : Int32 → Mem → Prop) (h : wX7_isTaken x1 x2 σ Q) : Met l yX7_isTaken (Cond.code yX7_isTaken cX7_isTaken 5 (some .boolean) :: TB) rX7_isTaken (wPc E σ [.ref (gE E 0), .int x1, .int x2]) (wQi E Q) 0 0 (wA E) := by
  refine wMet (by decide) hE.2.2 (Nat.le_of_ble_eq_true rfl) ?_
  intro p e s m args below meth c ls C hr hlk hl hw
  have hx := C.1.1
  have hb := C.1.2.1
  replace C : Cx p s m args c cX7_isTaken 5 RX7 E (wA E) := C
  replace hl : lv_has ls 5 [(0, .ref (gE E 0)), (1, .int x1), (2, .int x2)] := hl
  unfold wX7_isTaken at h
  refine lv_iconst (v := 0) hx hb (dAt dX7_isTaken 0 rfl) (by decide) ?_
  refine lv_istore_n (lv' := [(3, .int (0 : Int32)), (0, .ref (gE E 0)), (1, .int x1), (2, .int x2)]) hx hb (dAt dX7_isTaken 1 rfl) rfl hl (by decide) rfl (fun ls hl => ?_)
  refine lv_iconst (v := 0) hx hb (dAt dX7_isTaken 2 rfl) (by decide) ?_
  refine lv_istore (lv' := [(4, .int (0 : Int32)), (3, .int (0 : Int32)), (0, .ref (gE E 0)), (1, .int x1), (2, .int x2)]) hx hb (dAt dX7_isTaken 3 rfl) hl (by decide) rfl (fun ls hl => ?_)
  obtain ⟨n5, h⟩ := h
  exact kX7_isTaken_5 hE C hr hlk n5 x1 x2 (0 : Int32) (0 : Int32) σ  _ _ _ hw (lv_sub hl [2, 3, 4, 1, 0] rfl) h
def tX7_readsDancers : List (Nat × Instr × Nat) := [(0, .aload_n 0, 1), (1, .iconst 0, 1), (2, .putfield 129, 3), (5, .aload_n 0, 1), (6, .getfield 25, 3), (9, .iconst 0, 1), (10, .iaload, 1), (11, .istore_n 1, 1), (12, .iconst 0, 1), (13, .istore_n 2, 1), (14, .iload_n 2, 1), (15, .iload_n 1, 1), (16, .if_icmp .ge 93, 3), (19, .iload_n 2, 1), (20, .iconst 4, 1), (21, .irem, 1), (22, .istore_n 3, 1), (23, .iload_n 3, 1), (24, .aload_n 0, 1), (25, .getfield 22, 3), (28, .iload_n 2, 1), (29, .iaload, 1), (30, .invokestatic 132, 3), (33, .istore 4, 2), (35, .iload 4, 2), (37, .bipush (-9), 2), (39, .if_icmp .eq 19, 3), (42, .iload_n 3, 1), (43, .ifCond .ne 22, 3), (46, .aload_n 0, 1), (47, .iload_n 2, 1), (48, .iconst 4, 1), (49, .idiv, 1), (50, .iload 4, 2), (52, .invokevirtual 135, 3), (55, .ifCond .eq 10, 3), (58, .aload_n 0, 1), (59, .iconst 0, 1), (60, .putfield 129, 3), (63, .iload_n 2, 1), (64, .ireturn, 1), (65, .iload_n 3, 1), (66, .iconst 3, 1), (67, .if_icmp .ge 17, 3), (70, .aload_n 0, 1), (71, .getfield 28, 3), (74, .iconst 3, 1), (75, .iload_n 2, 1), (76, .iconst 4, 1), (77, .idiv, 1), (78, .imul, 1), (79, .iload_n 3, 1), (80, .iadd, 1), (81, .iload 4, 2), (83, .iastore, 1), (84, .aload_n 0, 1), (85, .dup, 1), (86, .getfield 129, 3), (89, .iload_n 3, 1), (90, .iconst 2, 1), (91, .if_icmp .ne 7, 3), (94, .iconst 1, 1), (95, .goto 4, 3), (98, .iconst 0, 1), (99, .iadd, 1), (100, .putfield 129, 3), (103, .iinc 2 1, 3), (106, .goto (-92), 3), (109, .iload_n 1, 1), (110, .ifCond .le 17, 3), (113, .iload_n 1, 1), (114, .iconst 4, 1), (115, .irem, 1), (116, .iconst 3, 1), (117, .if_icmp .eq 10, 3), (120, .aload_n 0, 1), (121, .iconst 0, 1), (122, .putfield 129, 3), (125, .iload_n 1, 1), (126, .ireturn, 1), (127, .iconst (-1), 1), (128, .ireturn, 1)]
theorem dX7_readsDancers : dOk cX7_readsDancers tX7_readsDancers = true := by decide +kernel
abbrev rX7_readsDancers : Room := { frames := 2, cells := 0, slots := 0, locals := 46 }
def wX7_readsDancers_109 (Q : Int32 → Mem → Prop) (x1 : Int32) (σ : Mem) : Prop := (((x1 ≤ 0) → (Q (-1 : Int32) σ)) ∧ ((¬ x1 ≤ 0) → ((((x1 - x1 / (4 : Int32) * (4 : Int32)) = (3 : Int32)) → (Q (-1 : Int32) σ)) ∧ ((¬ (x1 - x1 / (4 : Int32) * (4 : Int32)) = (3 : Int32)) → (∀ σ122 : Mem, σ122 = um σ 0 7 (0 : Int32) → (Q x1 σ122))))))
def wX7_readsDancers_58 (Q : Int32 → Mem → Prop) (x2 : Int32) (σ : Mem) : Prop := (∀ σ60 : Mem, σ60 = um σ 0 7 (0 : Int32) → (Q x2 σ60))
def wX7_readsDancers_84 (K14 : Int32 → Int32 → Mem → Prop) (Q : Int32 → Mem → Prop) (x1 : Int32) (x2 : Int32) (x3 : Int32) (σ : Mem) : Prop := (∀ σ100 : Mem, σ100 = um σ 0 7 ((σ 0 7) + (if x3 = (2 : Int32) then (1 : Int32) else (0 : Int32))) → (K14 x1 (x2 + (1 : Int32)) σ100))
def wX7_readsDancers_65 (K14 : Int32 → Int32 → Mem → Prop) (Q : Int32 → Mem → Prop) (x1 : Int32) (x2 : Int32) (x3 : Int32) (x4 : Int32) (σ : Mem) : Prop := ((((3 : Int32) ≤ x3) → (wX7_readsDancers_84 K14 Q x1 x2 x3 σ)) ∧ ((¬ (3 : Int32) ≤ x3) → (vp_in (((3 : Int32) * (x2 / (4 : Int32))) + x3) 24 ∧ (∀ σ83 : Mem, σ83 = um σ 7 ((((3 : Int32) * (x2 / (4 : Int32))) + x3)).toNatClampNeg x4 → (wX7_readsDancers_84 K14 Q x1 x2 x3 σ83)))))
def wX7_readsDancers_14 (Q : Int32 → Mem → Prop) : Nat → Int32 → Int32 → Mem → Prop
  | 0, _, _, _ => False
  | n + 1, x1, x2, σ => (((x1 ≤ x2) → (wX7_readsDancers_109 Q x1 σ)) ∧ ((¬ x1 ≤ x2) → (∀ x3_22 : Int32, x3_22 = (x2 - x2 / (4 : Int32) * (4 : Int32)) → (vp_in x2 64 ∧ (wX7_dancerOf x3_22 (σ 5 (x2).toNatClampNeg) σ (fun r30 σ30 => (((r30 = (-9 : Int32)) → (wX7_readsDancers_58 Q x2 σ30)) ∧ ((¬ r30 = (-9 : Int32)) → (((¬ x3_22 = 0) → (wX7_readsDancers_65 (fun x1 x2 ρ => wX7_readsDancers_14 Q n x1 x2 ρ) Q x1 x2 x3_22 r30 σ30)) ∧ ((x3_22 = 0) → (wX7_isTaken (x2 / (4 : Int32)) r30 σ30 (fun r52 σ52 => (((r52 = 0) → (wX7_readsDancers_65 (fun x1 x2 ρ => wX7_readsDancers_14 Q n x1 x2 ρ) Q x1 x2 x3_22 r30 σ52)) ∧ ((¬ r52 = 0) → (wX7_readsDancers_58 Q x2 σ52)))))))))))))))
def wX7_readsDancers (σ : Mem) (Q : Int32 → Mem → Prop) : Prop := (∀ σ2 : Mem, σ2 = um σ 0 7 (0 : Int32) → (∀ x1_11 : Int32, x1_11 = (σ2 6 0) → (∃ N14, wX7_readsDancers_14 Q N14 x1_11 (0 : Int32) σ2)))
set_option maxHeartbeats 4000000 in
set_option maxRecDepth 100000 in
theorem kX7_readsDancers_109 {p : Program} {l : Launch} {e : Env} {s : State} {m : MethodId} {args : Array Value} {below : List Frame} {meth : Method} {c : Code} {E : wE} (hE : wM E) (C : Cx p s m args c cX7_readsDancers 5 RX7 E (wA E)) (hr : meth.sig.returnType = (some .int)) (hlk : meth.locks = false) {Q : Int32 → Mem → Prop} : ∀ (x1 : Int32) (σ : Mem) (H : Heap) (locs : List Loc) (ls : Array Slot), wd E (wA E) s σ H locs → lv_has ls 5 [(0, .ref (gE E 0)), (1, .int x1)] → wX7_readsDancers_109 Q x1 σ → W p l e rX7_readsDancers s m args below meth c H locs 0 0 (MQ below (wQi E Q) args s 0 0 (wA E)) (F0 m 109 ls []) := by
  have hx := C.1.1
  have hb := C.1.2.1
  intro x1 σ  H locs ls hw hl h
  unfold wX7_readsDancers_109 at h
  refine lv_iload_n hx hb (dAt dX7_readsDancers 68 rfl) rfl (lv_at hl 1 rfl) ?_
  refine lv_if_le (tgt := 127) hx hb (dAt dX7_readsDancers 69 rfl) (by decide) (fun c110 => ?_) (fun c110 => ?_)
  · replace h := h.1 c110
    refine lv_iconst (v := -1) hx hb (dAt dX7_readsDancers 80 rfl) (by decide) ?_
    exact x_iret C hw hr hlk h (dAt dX7_readsDancers 81 rfl)
  · replace h := h.2 c110
    refine lv_iload_n hx hb (dAt dX7_readsDancers 70 rfl) rfl (lv_at hl 1 rfl) ?_
    refine lv_iconst (v := 4) hx hb (dAt dX7_readsDancers 71 rfl) (by decide) ?_
    refine lv_irem hx hb (dAt dX7_readsDancers 72 rfl) (by decide) ?_
    refine lv_iconst (v := 3) hx hb (dAt dX7_readsDancers 73 rfl) (by decide) ?_
    refine lv_icmp_eq (tgt := 127) hx hb (dAt dX7_readsDancers 74 rfl) (by decide) (fun c117 => ?_) (fun c117 => ?_)
    · replace h := h.1 c117
      refine lv_iconst (v := -1) hx hb (dAt dX7_readsDancers 80 rfl) (by decide) ?_
      exact x_iret C hw hr hlk h (dAt dX7_readsDancers 81 rfl)
    · replace h := h.2 c117
      refine lv_aload_n hx hb (dAt dX7_readsDancers 75 rfl) rfl (lv_at hl 0 rfl) ?_
      refine lv_iconst (v := 0) hx hb (dAt dX7_readsDancers 76 rfl) (by decide) ?_
      refine x_pf C hw fl_X7_129 (hE.1 0) (nM hE (by decide)) rfl rfl rfl (dAt dX7_readsDancers 77 rfl) (fun σ122 H locs eσ122 hw => ?_)
      replace h := h σ122 eσ122
      refine lv_iload_n hx hb (dAt dX7_readsDancers 78 rfl) rfl (lv_at hl 1 rfl) ?_
      exact x_iret C hw hr hlk h (dAt dX7_readsDancers 79 rfl)
set_option maxHeartbeats 4000000 in
set_option maxRecDepth 100000 in
theorem kX7_readsDancers_58 {p : Program} {l : Launch} {e : Env} {s : State} {m : MethodId} {args : Array Value} {below : List Frame} {meth : Method} {c : Code} {E : wE} (hE : wM E) (C : Cx p s m args c cX7_readsDancers 5 RX7 E (wA E)) (hr : meth.sig.returnType = (some .int)) (hlk : meth.locks = false) {Q : Int32 → Mem → Prop} : ∀ (x2 : Int32) (σ : Mem) (H : Heap) (locs : List Loc) (ls : Array Slot), wd E (wA E) s σ H locs → lv_has ls 5 [(0, .ref (gE E 0)), (2, .int x2)] → wX7_readsDancers_58 Q x2 σ → W p l e rX7_readsDancers s m args below meth c H locs 0 0 (MQ below (wQi E Q) args s 0 0 (wA E)) (F0 m 58 ls []) := by
  have hx := C.1.1
  have hb := C.1.2.1
  intro x2 σ  H locs ls hw hl h
  unfold wX7_readsDancers_58 at h
  refine lv_aload_n hx hb (dAt dX7_readsDancers 36 rfl) rfl (lv_at hl 0 rfl) ?_
  refine lv_iconst (v := 0) hx hb (dAt dX7_readsDancers 37 rfl) (by decide) ?_
  refine x_pf C hw fl_X7_129 (hE.1 0) (nM hE (by decide)) rfl rfl rfl (dAt dX7_readsDancers 38 rfl) (fun σ60 H locs eσ60 hw => ?_)
  replace h := h σ60 eσ60
  refine lv_iload_n hx hb (dAt dX7_readsDancers 39 rfl) rfl (lv_at hl 1 rfl) ?_
  exact x_iret C hw hr hlk h (dAt dX7_readsDancers 40 rfl)
set_option maxHeartbeats 4000000 in
set_option maxRecDepth 100000 in
theorem kX7_readsDancers_84 {p : Program} {l : Launch} {e : Env} {s : State} {m : MethodId} {args : Array Value} {below : List Frame} {meth : Method} {c : Code} {E : wE} (hE : wM E) (C : Cx p s m args c cX7_readsDancers 5 RX7 E (wA E)) (hr : meth.sig.returnType = (some .int)) (hlk : meth.locks = false) {Q : Int32 → Mem → Prop} {K14 : Int32 → Int32 → Mem → Prop} (hK14 : ∀ (x1 : Int32) (x2 : Int32) (σ : Mem) (H : Heap) (locs : List Loc) (ls : Array Slot), wd E (wA E) s σ H locs → lv_has ls 5 [(0, .ref (gE E 0)), (1, .int x1), (2, .int x2)] → K14 x1 x2 σ → W p l e rX7_readsDancers s m args below meth c H locs 0 0 (MQ below (wQi E Q) args s 0 0 (wA E)) (F0 m 14 ls [])) : ∀ (x1 : Int32) (x2 : Int32) (x3 : Int32) (σ : Mem) (H : Heap) (locs : List Loc) (ls : Array Slot), wd E (wA E) s σ H locs → lv_has ls 5 [(0, .ref (gE E 0)), (1, .int x1), (2, .int x2), (3, .int x3)] → wX7_readsDancers_84 K14 Q x1 x2 x3 σ → W p l e rX7_readsDancers s m args below meth c H locs 0 0 (MQ below (wQi E Q) args s 0 0 (wA E)) (F0 m 84 ls []) := by
  have hx := C.1.1
  have hb := C.1.2.1
  intro x1 x2 x3 σ  H locs ls hw hl h
  unfold wX7_readsDancers_84 at h
  refine lv_aload_n hx hb (dAt dX7_readsDancers 55 rfl) rfl (lv_at hl 0 rfl) ?_
  refine lv_dup hx hb (dAt dX7_readsDancers 56 rfl) rfl ?_
  refine x_geti C hw fl_X7_129 (hE.1 0) (nM hE (by decide)) rfl (dAt dX7_readsDancers 57 rfl) ?_
  refine lv_iload_n hx hb (dAt dX7_readsDancers 58 rfl) rfl (lv_at hl 3 rfl) ?_
  refine lv_iconst (v := 2) hx hb (dAt dX7_readsDancers 59 rfl) (by decide) ?_
  refine x_dia (ls := ls) (pcJ := 99) (cnd := x3 = (2 : Int32)) (a := (1 : Int32)) (b := (0 : Int32)) ([.int (σ 0 7), .ref (gE E 0)]) ?_ (fun ht91 hf91 => ?_)
  · refine lv_iadd hx hb (dAt dX7_readsDancers 64 rfl) ?_
    refine x_pf C hw fl_X7_129 (hE.1 0) (nM hE (by decide)) rfl rfl rfl (dAt dX7_readsDancers 65 rfl) (fun σ100 H locs eσ100 hw => ?_)
    replace h := h σ100 eσ100
    refine lv_iinc (v := (x2 + (1 : Int32))) (lv' := [(2, .int (x2 + (1 : Int32))), (0, .ref (gE E 0)), (1, .int x1), (3, .int x3)]) hx hb (dAt dX7_readsDancers 66 rfl) hl (k := 2) rfl rfl (by decide) rfl (fun ls hl => ?_)
    refine lv_goto (tgt := 14) hx hb (dAt dX7_readsDancers 67 rfl) (by decide) ?_
    exact hK14 x1 (x2 + (1 : Int32)) σ100  _ _ _ hw (lv_sub hl [1, 2, 0] rfl) h
  · refine lv_icmp_ne (tgt := 98) hx hb (dAt dX7_readsDancers 60 rfl) (by decide) (fun c91 => ?_) (fun c91 => ?_)
    · refine lv_iconst (v := 0) hx hb (dAt dX7_readsDancers 63 rfl) (by decide) ?_
      exact hf91 c91
    · refine lv_iconst (v := 1) hx hb (dAt dX7_readsDancers 61 rfl) (by decide) ?_
      refine lv_goto (tgt := 99) hx hb (dAt dX7_readsDancers 62 rfl) (by decide) ?_
      exact ht91 c91
set_option maxHeartbeats 4000000 in
set_option maxRecDepth 100000 in
theorem kX7_readsDancers_65 {p : Program} {l : Launch} {e : Env} {s : State} {m : MethodId} {args : Array Value} {below : List Frame} {meth : Method} {c : Code} {E : wE} (hE : wM E) (C : Cx p s m args c cX7_readsDancers 5 RX7 E (wA E)) (hr : meth.sig.returnType = (some .int)) (hlk : meth.locks = false) {Q : Int32 → Mem → Prop} {K14 : Int32 → Int32 → Mem → Prop} (hK14 : ∀ (x1 : Int32) (x2 : Int32) (σ : Mem) (H : Heap) (locs : List Loc) (ls : Array Slot), wd E (wA E) s σ H locs → lv_has ls 5 [(0, .ref (gE E 0)), (1, .int x1), (2, .int x2)] → K14 x1 x2 σ → W p l e rX7_readsDancers s m args below meth c H locs 0 0 (MQ below (wQi E Q) args s 0 0 (wA E)) (F0 m 14 ls [])) : ∀ (x1 : Int32) (x2 : Int32) (x3 : Int32) (x4 : Int32) (σ : Mem) (H : Heap) (locs : List Loc) (ls : Array Slot), wd E (wA E) s σ H locs → lv_has ls 5 [(0, .ref (gE E 0)), (1, .int x1), (2, .int x2), (3, .int x3), (4, .int x4)] → wX7_readsDancers_65 K14 Q x1 x2 x3 x4 σ → W p l e rX7_readsDancers s m args below meth c H locs 0 0 (MQ below (wQi E Q) args s 0 0 (wA E)) (F0 m 65 ls []) := by
  have hx := C.1.1
  have hb := C.1.2.1
  intro x1 x2 x3 x4 σ  H locs ls hw hl h
  unfold wX7_readsDancers_65 at h
  refine lv_iload_n hx hb (dAt dX7_readsDancers 41 rfl) rfl (lv_at hl 3 rfl) ?_
  refine lv_iconst (v := 3) hx hb (dAt dX7_readsDancers 42 rfl) (by decide) ?_
  refine lv_icmp_ge (tgt := 84) hx hb (dAt dX7_readsDancers 43 rfl) (by decide) (fun c67 => ?_) (fun c67 => ?_)
  · replace h := h.1 c67
    exact kX7_readsDancers_84 hE C hr hlk hK14 x1 x2 x3 σ  _ _ _ hw (lv_sub hl [0, 1, 2, 3] rfl) h
  · replace h := h.2 c67
    refine lv_aload_n hx hb (dAt dX7_readsDancers 44 rfl) rfl (lv_at hl 0 rfl) ?_
    refine x_getr C hw fl_X7_28 (hE.1 0) (nM hE (by decide)) rfl (dAt dX7_readsDancers 45 rfl) ?_
    refine lv_iconst (v := 3) hx hb (dAt dX7_readsDancers 46 rfl) (by decide) ?_
    refine lv_iload_n hx hb (dAt dX7_readsDancers 47 rfl) rfl (lv_at hl 2 rfl) ?_
    refine lv_iconst (v := 4) hx hb (dAt dX7_readsDancers 48 rfl) (by decide) ?_
    refine lv_idiv hx hb (dAt dX7_readsDancers 49 rfl) (by decide) ?_
    refine lv_imul hx hb (dAt dX7_readsDancers 50 rfl) ?_
    refine lv_iload_n hx hb (dAt dX7_readsDancers 51 rfl) rfl (lv_at hl 3 rfl) ?_
    refine lv_iadd hx hb (dAt dX7_readsDancers 52 rfl) ?_
    refine lv_iload hx hb (dAt dX7_readsDancers 53 rfl) (lv_at hl 4 rfl) ?_
    obtain ⟨z83, h⟩ := h
    refine x_ist C hw (hE.1 7) (nM hE (by decide)) z83 rfl (dAt dX7_readsDancers 54 rfl) (fun σ83 H locs eσ83 hw => ?_)
    replace h := h σ83 eσ83
    exact kX7_readsDancers_84 hE C hr hlk hK14 x1 x2 x3 σ83  _ _ _ hw (lv_sub hl [0, 1, 2, 3] rfl) h
set_option maxHeartbeats 4000000 in
set_option maxRecDepth 100000 in
theorem kX7_readsDancers_14 {p : Program} {l : Launch} {e : Env} {s : State} {m : MethodId} {args : Array Value} {below : List Frame} {meth : Method} {c : Code} {E : wE} (hE : wM E) (C : Cx p s m args c cX7_readsDancers 5 RX7 E (wA E)) (hr : meth.sig.returnType = (some .int)) (hlk : meth.locks = false) {Q : Int32 → Mem → Prop} : ∀ (n : Nat) (x1 : Int32) (x2 : Int32) (σ : Mem) (H : Heap) (locs : List Loc) (ls : Array Slot), wd E (wA E) s σ H locs → lv_has ls 5 [(0, .ref (gE E 0)), (1, .int x1), (2, .int x2)] → wX7_readsDancers_14 Q n x1 x2 σ → W p l e rX7_readsDancers s m args below meth c H locs 0 0 (MQ below (wQi E Q) args s 0 0 (wA E)) (F0 m 14 ls []) := by
  have hx := C.1.1
  have hb := C.1.2.1
  intro n
  induction n with
  | zero =>
    intro x1 x2 σ  H locs ls hw hl h
    exact h.elim
  | succ n ih =>
    intro x1 x2 σ  H locs ls hw hl h
    rw [wX7_readsDancers_14] at h
    refine lv_iload_n hx hb (dAt dX7_readsDancers 10 rfl) rfl (lv_at hl 2 rfl) ?_
    refine lv_iload_n hx hb (dAt dX7_readsDancers 11 rfl) rfl (lv_at hl 1 rfl) ?_
    refine lv_icmp_ge (tgt := 109) hx hb (dAt dX7_readsDancers 12 rfl) (by decide) (fun c16 => ?_) (fun c16 => ?_)
    · replace h := h.1 c16
      exact kX7_readsDancers_109 hE C hr hlk x1 σ  _ _ _ hw (lv_sub hl [0, 1] rfl) h
    · replace h := h.2 c16
      refine lv_iload_n hx hb (dAt dX7_readsDancers 13 rfl) rfl (lv_at hl 2 rfl) ?_
      refine lv_iconst (v := 4) hx hb (dAt dX7_readsDancers 14 rfl) (by decide) ?_
      refine lv_irem hx hb (dAt dX7_readsDancers 15 rfl) (by decide) ?_
      refine lv_topi (fun x3_22 ex3_22 => ?_)
      replace h := h x3_22 ex3_22
      refine lv_istore_n (lv' := [(3, .int x3_22), (0, .ref (gE E 0)), (1, .int x1), (2, .int x2)]) hx hb (dAt dX7_readsDancers 16 rfl) rfl hl (by decide) rfl (fun ls hl => ?_)
      refine lv_iload_n hx hb (dAt dX7_readsDancers 17 rfl) rfl (lv_at hl 0 rfl) ?_
      refine lv_aload_n hx hb (dAt dX7_readsDancers 18 rfl) rfl (lv_at hl 1 rfl) ?_
      refine x_getr C hw fl_X7_22 (hE.1 0) (nM hE (by decide)) rfl (dAt dX7_readsDancers 19 rfl) ?_
      refine lv_iload_n hx hb (dAt dX7_readsDancers 20 rfl) rfl (lv_at hl 3 rfl) ?_
      obtain ⟨z29, h⟩ := h
      refine x_ild C hw (hE.1 5) (nM hE (by decide)) z29 rfl (dAt dX7_readsDancers 21 rfl) ?_
      refine x_calli C hw (x_runS (As := [.int x3_22, .int (σ 5 (x2).toNatClampNeg)]) (rest := []) C hw (kX7_dancerOf l E hE x3_22 (σ 5 (x2).toNatClampNeg) σ _ h) mtX7_dancerOf lk_X7_132 ⟨by decide, by decide⟩ ⟨rfl, rfl⟩ rfl hl.1 rfl (Nat.le_of_ble_eq_true rfl) (dAt dX7_readsDancers 22 rfl) ⟨Nat.zero_le _, Nat.zero_le _⟩) (fun r30 σ30 H locs h hw => ?_)
      refine lv_istore (lv' := [(4, .int r30), (3, .int x3_22), (0, .ref (gE E 0)), (1, .int x1), (2, .int x2)]) hx hb (dAt dX7_readsDancers 23 rfl) hl (by decide) rfl (fun ls hl => ?_)
      refine lv_iload hx hb (dAt dX7_readsDancers 24 rfl) (lv_at hl 0 rfl) ?_
      refine lv_bipush (v := -9) hx hb (dAt dX7_readsDancers 25 rfl) (by decide) ?_
      refine lv_icmp_eq (tgt := 58) hx hb (dAt dX7_readsDancers 26 rfl) (by decide) (fun c39 => ?_) (fun c39 => ?_)
      · replace h := h.1 c39
        exact kX7_readsDancers_58 hE C hr hlk x2 σ30  _ _ _ hw (lv_sub hl [2, 4] rfl) h
      · replace h := h.2 c39
        refine lv_iload_n hx hb (dAt dX7_readsDancers 27 rfl) rfl (lv_at hl 1 rfl) ?_
        refine lv_if_ne (tgt := 65) hx hb (dAt dX7_readsDancers 28 rfl) (by decide) (fun c43 => ?_) (fun c43 => ?_)
        · replace h := h.1 c43
          exact kX7_readsDancers_65 hE C hr hlk ih x1 x2 x3_22 r30 σ30  _ _ _ hw (lv_sub hl [2, 3, 4, 1, 0] rfl) h
        · replace h := h.2 c43
          refine lv_aload_n hx hb (dAt dX7_readsDancers 29 rfl) rfl (lv_at hl 2 rfl) ?_
          refine lv_iload_n hx hb (dAt dX7_readsDancers 30 rfl) rfl (lv_at hl 4 rfl) ?_
          refine lv_iconst (v := 4) hx hb (dAt dX7_readsDancers 31 rfl) (by decide) ?_
          refine lv_idiv hx hb (dAt dX7_readsDancers 32 rfl) (by decide) ?_
          refine lv_iload hx hb (dAt dX7_readsDancers 33 rfl) (lv_at hl 0 rfl) ?_
          refine x_calli C hw (x_runV (As := [.int (x2 / (4 : Int32)), .int r30]) (rest := []) C hw (kX7_isTaken l E hE (x2 / (4 : Int32)) r30 σ30 _ h) mtX7_isTaken lk_X7_135 (hE.1 0) (nM hE (by decide)) rfl ⟨by decide, by decide⟩ ⟨rfl, rfl⟩ rfl hl.1 rfl (Nat.le_of_ble_eq_true rfl) (dAt dX7_readsDancers 34 rfl) ⟨Nat.zero_le _, Nat.zero_le _⟩) (fun r52 σ52 H locs h hw => ?_)
          refine lv_if_eq (tgt := 65) hx hb (dAt dX7_readsDancers 35 rfl) (by decide) (fun c55 => ?_) (fun c55 => ?_)
          · replace h := h.1 c55
            exact kX7_readsDancers_65 hE C hr hlk ih x1 x2 x3_22 r30 σ52  _ _ _ hw (lv_sub hl [2, 3, 4, 1, 0] rfl) h
          · replace h := h.2 c55
            exact kX7_readsDancers_58 hE C hr hlk x2 σ52  _ _ _ hw (lv_sub hl [2, 4] rfl) h
set_option maxHeartbeats 4000000 in
set_option maxRecDepth 100000 in
theorem kX7_readsDancers (l : Launch) (E : wE) (hE : wM E) (σ : Mem) (Q : Int32 → Mem → Prop) (h : wX7_readsDancers  σ Q) : Met l yX7_readsDancers (Cond.code yX7_readsDancers cX7_readsDancers 5 (some .int) :: TB) rX7_readsDancers (wPc E σ [.ref (gE E 0)]) (wQi E Q) 0 0 (wA E) := by
  refine wMet (by decide) hE.2.2 (Nat.le_of_ble_eq_true rfl) ?_
  intro p e s m args below meth c ls C hr hlk hl hw
  have hx := C.1.1
  have hb := C.1.2.1
  replace C : Cx p s m args c cX7_readsDancers 5 RX7 E (wA E) := C
  replace hl : lv_has ls 5 [(0, .ref (gE E 0))] := hl
  unfold wX7_readsDancers at h
  refine lv_aload_n hx hb (dAt dX7_readsDancers 0 rfl) rfl (lv_at hl 0 rfl) ?_
  refine lv_iconst (v := 0) hx hb (dAt dX7_readsDancers 1 rfl) (by decide) ?_
  refine x_pf C hw fl_X7_129 (hE.1 0) (nM hE (by decide)) rfl rfl rfl (dAt dX7_readsDancers 2 rfl) (fun σ2 H locs eσ2 hw => ?_)
  replace h := h σ2 eσ2
  refine lv_aload_n hx hb (dAt dX7_readsDancers 3 rfl) rfl (lv_at hl 0 rfl) ?_
  refine x_getr C hw fl_X7_25 (hE.1 0) (nM hE (by decide)) rfl (dAt dX7_readsDancers 4 rfl) ?_
  refine lv_iconst (v := 0) hx hb (dAt dX7_readsDancers 5 rfl) (by decide) ?_
  refine x_ild C hw (hE.1 6) (nM hE (by decide)) (vin rfl) rfl (dAt dX7_readsDancers 6 rfl) ?_
  refine lv_topi (fun x1_11 ex1_11 => ?_)
  replace h := h x1_11 ex1_11
  refine lv_istore_n (lv' := [(1, .int x1_11), (0, .ref (gE E 0))]) hx hb (dAt dX7_readsDancers 7 rfl) rfl hl (by decide) rfl (fun ls hl => ?_)
  refine lv_iconst (v := 0) hx hb (dAt dX7_readsDancers 8 rfl) (by decide) ?_
  refine lv_istore_n (lv' := [(2, .int (0 : Int32)), (1, .int x1_11), (0, .ref (gE E 0))]) hx hb (dAt dX7_readsDancers 9 rfl) rfl hl (by decide) rfl (fun ls hl => ?_)
  obtain ⟨n14, h⟩ := h
  exact kX7_readsDancers_14 hE C hr hlk n14 x1_11 (0 : Int32) σ2  _ _ _ hw (lv_sub hl [2, 1, 0] rfl) h
def tX7_still : List (Nat × Instr × Nat) := [(0, .aload_n 0, 1), (1, .iconst 0, 1), (2, .putfield 139, 3), (5, .iconst 0, 1), (6, .istore_n 1, 1), (7, .iload_n 1, 1), (8, .bipush 24, 2), (10, .if_icmp .ge 16, 3), (13, .aload_n 0, 1), (14, .getfield 31, 3), (17, .iload_n 1, 1), (18, .iconst 2, 1), (19, .iastore, 1), (20, .iinc 1 1, 3), (23, .goto (-16), 3), (26, .return_, 1)]
theorem dX7_still : dOk cX7_still tX7_still = true := by decide +kernel
abbrev rX7_still : Room := { frames := 0, cells := 0, slots := 0, locals := 0 }
def wX7_still_7 (Q : Mem → Prop) : Nat → Int32 → Mem → Prop
  | 0, _, _ => False
  | n + 1, x1, σ => ((((24 : Int32) ≤ x1) → (Q σ)) ∧ ((¬ (24 : Int32) ≤ x1) → (vp_in x1 24 ∧ (∀ σ19 : Mem, σ19 = um σ 8 (x1).toNatClampNeg (2 : Int32) → (wX7_still_7 Q n (x1 + (1 : Int32)) σ19)))))
def wX7_still (σ : Mem) (Q : Mem → Prop) : Prop := (∀ σ2 : Mem, σ2 = um σ 0 9 (0 : Int32) → (∃ N7, wX7_still_7 Q N7 (0 : Int32) σ2))
set_option maxHeartbeats 4000000 in
set_option maxRecDepth 100000 in
theorem kX7_still_7 {p : Program} {l : Launch} {e : Env} {s : State} {m : MethodId} {args : Array Value} {below : List Frame} {meth : Method} {c : Code} {E : wE} (hE : wM E) (C : Cx p s m args c cX7_still 2 RX7 E (wA E)) (hr : meth.sig.returnType = none) (hlk : meth.locks = false) {Q : Mem → Prop} : ∀ (n : Nat) (x1 : Int32) (σ : Mem) (H : Heap) (locs : List Loc) (ls : Array Slot), wd E (wA E) s σ H locs → lv_has ls 2 [(0, .ref (gE E 0)), (1, .int x1)] → wX7_still_7 Q n x1 σ → W p l e rX7_still s m args below meth c H locs 0 0 (MQ below (wQv E Q) args s 0 0 (wA E)) (F0 m 7 ls []) := by
  have hx := C.1.1
  have hb := C.1.2.1
  intro n
  induction n with
  | zero =>
    intro x1 σ  H locs ls hw hl h
    exact h.elim
  | succ n ih =>
    intro x1 σ  H locs ls hw hl h
    rw [wX7_still_7] at h
    refine lv_iload_n hx hb (dAt dX7_still 5 rfl) rfl (lv_at hl 1 rfl) ?_
    refine lv_bipush (v := 24) hx hb (dAt dX7_still 6 rfl) (by decide) ?_
    refine lv_icmp_ge (tgt := 26) hx hb (dAt dX7_still 7 rfl) (by decide) (fun c10 => ?_) (fun c10 => ?_)
    · replace h := h.1 c10
      exact x_vret C hw hr hlk h (dAt dX7_still 15 rfl)
    · replace h := h.2 c10
      refine lv_aload_n hx hb (dAt dX7_still 8 rfl) rfl (lv_at hl 0 rfl) ?_
      refine x_getr C hw fl_X7_31 (hE.1 0) (nM hE (by decide)) rfl (dAt dX7_still 9 rfl) ?_
      refine lv_iload_n hx hb (dAt dX7_still 10 rfl) rfl (lv_at hl 1 rfl) ?_
      refine lv_iconst (v := 2) hx hb (dAt dX7_still 11 rfl) (by decide) ?_
      obtain ⟨z19, h⟩ := h
      refine x_ist C hw (hE.1 8) (nM hE (by decide)) z19 rfl (dAt dX7_still 12 rfl) (fun σ19 H locs eσ19 hw => ?_)
      replace h := h σ19 eσ19
      refine lv_iinc (v := (x1 + (1 : Int32))) (lv' := [(1, .int (x1 + (1 : Int32))), (0, .ref (gE E 0))]) hx hb (dAt dX7_still 13 rfl) hl (k := 1) rfl rfl (by decide) rfl (fun ls hl => ?_)
      refine lv_goto (tgt := 7) hx hb (dAt dX7_still 14 rfl) (by decide) ?_
      exact ih (x1 + (1 : Int32)) σ19  _ _ _ hw (lv_sub hl [1, 0] rfl) h
set_option maxHeartbeats 4000000 in
set_option maxRecDepth 100000 in
theorem kX7_still (l : Launch) (E : wE) (hE : wM E) (σ : Mem) (Q : Mem → Prop) (h : wX7_still  σ Q) : Met l yX7_still (Cond.code yX7_still cX7_still 2 none :: TB) rX7_still (wPc E σ [.ref (gE E 0)]) (wQv E Q) 0 0 (wA E) := by
  refine wMet (by decide) hE.2.2 (Nat.le_of_ble_eq_true rfl) ?_
  intro p e s m args below meth c ls C hr hlk hl hw
  have hx := C.1.1
  have hb := C.1.2.1
  replace C : Cx p s m args c cX7_still 2 RX7 E (wA E) := C
  replace hl : lv_has ls 2 [(0, .ref (gE E 0))] := hl
  unfold wX7_still at h
  refine lv_aload_n hx hb (dAt dX7_still 0 rfl) rfl (lv_at hl 0 rfl) ?_
  refine lv_iconst (v := 0) hx hb (dAt dX7_still 1 rfl) (by decide) ?_
  refine x_pf C hw fl_X7_139 (hE.1 0) (nM hE (by decide)) rfl rfl rfl (dAt dX7_still 2 rfl) (fun σ2 H locs eσ2 hw => ?_)
  replace h := h σ2 eσ2
  refine lv_iconst (v := 0) hx hb (dAt dX7_still 3 rfl) (by decide) ?_
  refine lv_istore_n (lv' := [(1, .int (0 : Int32)), (0, .ref (gE E 0))]) hx hb (dAt dX7_still 4 rfl) rfl hl (by decide) rfl (fun ls hl => ?_)
  obtain ⟨n7, h⟩ := h
  exact kX7_still_7 hE C hr hlk n7 (0 : Int32) σ2  _ _ _ hw (lv_sub hl [1, 0] rfl) h
def tX7_readsSteps : List (Nat × Instr × Nat) := [(0, .aload_n 0, 1), (1, .invokevirtual 142, 3), (4, .iconst 0, 1), (5, .istore_n 1, 1), (6, .iload_n 1, 1), (7, .aload_n 0, 1), (8, .getfield 25, 3), (11, .iconst 1, 1), (12, .iaload, 1), (13, .if_icmp .ge 81, 3), (16, .aload_n 0, 1), (17, .getfield 22, 3), (20, .bipush 32, 2), (22, .iload_n 1, 1), (23, .iadd, 1), (24, .iaload, 1), (25, .istore_n 2, 1), (26, .iload_n 2, 1), (27, .bipush 111, 2), (29, .if_icmp .ne 7, 3), (32, .iconst 0, 1), (33, .goto 35, 3), (36, .iload_n 2, 1), (37, .bipush 117, 2), (39, .if_icmp .ne 7, 3), (42, .iconst 1, 1), (43, .goto 25, 3), (46, .iload_n 2, 1), (47, .bipush 115, 2), (49, .if_icmp .ne 7, 3), (52, .iconst 2, 1), (53, .goto 15, 3), (56, .iload_n 2, 1), (57, .bipush 116, 2), (59, .if_icmp .ne 7, 3), (62, .iconst 3, 1), (63, .goto 5, 3), (66, .bipush (-9), 2), (68, .istore_n 3, 1), (69, .iload_n 3, 1), (70, .bipush (-9), 2), (72, .if_icmp .ne 9, 3), (75, .aload_n 0, 1), (76, .invokevirtual 142, 3), (79, .iload_n 1, 1), (80, .ireturn, 1), (81, .aload_n 0, 1), (82, .getfield 31, 3), (85, .iload_n 1, 1), (86, .iload_n 3, 1), (87, .iastore, 1), (88, .iinc 1 1, 3), (91, .goto (-85), 3), (94, .aload_n 0, 1), (95, .aload_n 0, 1), (96, .getfield 25, 3), (99, .iconst 1, 1), (100, .iaload, 1), (101, .putfield 139, 3), (104, .iconst (-1), 1), (105, .ireturn, 1)]
theorem dX7_readsSteps : dOk cX7_readsSteps tX7_readsSteps = true := by decide +kernel
abbrev rX7_readsSteps : Room := { frames := 1, cells := 0, slots := 0, locals := 21 }
def wX7_readsSteps_94 (Q : Int32 → Mem → Prop) (σ : Mem) : Prop := (∀ σ101 : Mem, σ101 = um σ 0 9 (σ 6 1) → (Q (-1 : Int32) σ101))
def wX7_readsSteps_6 (Q : Int32 → Mem → Prop) : Nat → Int32 → Mem → Prop
  | 0, _, _ => False
  | n + 1, x1, σ => ((((σ 6 1) ≤ x1) → (wX7_readsSteps_94 Q σ)) ∧ ((¬ (σ 6 1) ≤ x1) → (vp_in ((32 : Int32) + x1) 64 ∧ (∀ x2_25 : Int32, x2_25 = (σ 5 (((32 : Int32) + x1)).toNatClampNeg) → (∀ x3_68 : Int32, x3_68 = (if x2_25 = (111 : Int32) then (0 : Int32) else (if x2_25 = (117 : Int32) then (1 : Int32) else (if x2_25 = (115 : Int32) then (2 : Int32) else (if x2_25 = (116 : Int32) then (3 : Int32) else (-9 : Int32))))) → (((¬ x3_68 = (-9 : Int32)) → (vp_in x1 24 ∧ (∀ σ87 : Mem, σ87 = um σ 8 (x1).toNatClampNeg x3_68 → (wX7_readsSteps_6 Q n (x1 + (1 : Int32)) σ87)))) ∧ ((x3_68 = (-9 : Int32)) → (wX7_still  σ (fun σ76 => (Q x1 σ76))))))))))
def wX7_readsSteps (σ : Mem) (Q : Int32 → Mem → Prop) : Prop := (wX7_still  σ (fun σ1 => (∃ N6, wX7_readsSteps_6 Q N6 (0 : Int32) σ1)))
set_option maxHeartbeats 4000000 in
set_option maxRecDepth 100000 in
theorem kX7_readsSteps_94 {p : Program} {l : Launch} {e : Env} {s : State} {m : MethodId} {args : Array Value} {below : List Frame} {meth : Method} {c : Code} {E : wE} (hE : wM E) (C : Cx p s m args c cX7_readsSteps 4 RX7 E (wA E)) (hr : meth.sig.returnType = (some .int)) (hlk : meth.locks = false) {Q : Int32 → Mem → Prop} : ∀ (σ : Mem) (H : Heap) (locs : List Loc) (ls : Array Slot), wd E (wA E) s σ H locs → lv_has ls 4 [(0, .ref (gE E 0))] → wX7_readsSteps_94 Q σ → W p l e rX7_readsSteps s m args below meth c H locs 0 0 (MQ below (wQi E Q) args s 0 0 (wA E)) (F0 m 94 ls []) := by
  have hx := C.1.1
  have hb := C.1.2.1
  intro σ  H locs ls hw hl h
  unfold wX7_readsSteps_94 at h
  refine lv_aload_n hx hb (dAt dX7_readsSteps 53 rfl) rfl (lv_at hl 0 rfl) ?_
  refine lv_aload_n hx hb (dAt dX7_readsSteps 54 rfl) rfl (lv_at hl 0 rfl) ?_
  refine x_getr C hw fl_X7_25 (hE.1 0) (nM hE (by decide)) rfl (dAt dX7_readsSteps 55 rfl) ?_
  refine lv_iconst (v := 1) hx hb (dAt dX7_readsSteps 56 rfl) (by decide) ?_
  refine x_ild C hw (hE.1 6) (nM hE (by decide)) (vin rfl) rfl (dAt dX7_readsSteps 57 rfl) ?_
  refine x_pf C hw fl_X7_139 (hE.1 0) (nM hE (by decide)) rfl rfl rfl (dAt dX7_readsSteps 58 rfl) (fun σ101 H locs eσ101 hw => ?_)
  replace h := h σ101 eσ101
  refine lv_iconst (v := -1) hx hb (dAt dX7_readsSteps 59 rfl) (by decide) ?_
  exact x_iret C hw hr hlk h (dAt dX7_readsSteps 60 rfl)
set_option maxHeartbeats 4000000 in
set_option maxRecDepth 100000 in
theorem kX7_readsSteps_6 {p : Program} {l : Launch} {e : Env} {s : State} {m : MethodId} {args : Array Value} {below : List Frame} {meth : Method} {c : Code} {E : wE} (hE : wM E) (C : Cx p s m args c cX7_readsSteps 4 RX7 E (wA E)) (hr : meth.sig.returnType = (some .int)) (hlk : meth.locks = false) {Q : Int32 → Mem → Prop} : ∀ (n : Nat) (x1 : Int32) (σ : Mem) (H : Heap) (locs : List Loc) (ls : Array Slot), wd E (wA E) s σ H locs → lv_has ls 4 [(0, .ref (gE E 0)), (1, .int x1)] → wX7_readsSteps_6 Q n x1 σ → W p l e rX7_readsSteps s m args below meth c H locs 0 0 (MQ below (wQi E Q) args s 0 0 (wA E)) (F0 m 6 ls []) := by
  have hx := C.1.1
  have hb := C.1.2.1
  intro n
  induction n with
  | zero =>
    intro x1 σ  H locs ls hw hl h
    exact h.elim
  | succ n ih =>
    intro x1 σ  H locs ls hw hl h
    rw [wX7_readsSteps_6] at h
    refine lv_iload_n hx hb (dAt dX7_readsSteps 4 rfl) rfl (lv_at hl 1 rfl) ?_
    refine lv_aload_n hx hb (dAt dX7_readsSteps 5 rfl) rfl (lv_at hl 0 rfl) ?_
    refine x_getr C hw fl_X7_25 (hE.1 0) (nM hE (by decide)) rfl (dAt dX7_readsSteps 6 rfl) ?_
    refine lv_iconst (v := 1) hx hb (dAt dX7_readsSteps 7 rfl) (by decide) ?_
    refine x_ild C hw (hE.1 6) (nM hE (by decide)) (vin rfl) rfl (dAt dX7_readsSteps 8 rfl) ?_
    refine lv_icmp_ge (tgt := 94) hx hb (dAt dX7_readsSteps 9 rfl) (by decide) (fun c13 => ?_) (fun c13 => ?_)
    · replace h := h.1 c13
      exact kX7_readsSteps_94 hE C hr hlk σ  _ _ _ hw (lv_sub hl [0] rfl) h
    · replace h := h.2 c13
      refine lv_aload_n hx hb (dAt dX7_readsSteps 10 rfl) rfl (lv_at hl 0 rfl) ?_
      refine x_getr C hw fl_X7_22 (hE.1 0) (nM hE (by decide)) rfl (dAt dX7_readsSteps 11 rfl) ?_
      refine lv_bipush (v := 32) hx hb (dAt dX7_readsSteps 12 rfl) (by decide) ?_
      refine lv_iload_n hx hb (dAt dX7_readsSteps 13 rfl) rfl (lv_at hl 1 rfl) ?_
      refine lv_iadd hx hb (dAt dX7_readsSteps 14 rfl) ?_
      obtain ⟨z24, h⟩ := h
      refine x_ild C hw (hE.1 5) (nM hE (by decide)) z24 rfl (dAt dX7_readsSteps 15 rfl) ?_
      refine lv_topi (fun x2_25 ex2_25 => ?_)
      replace h := h x2_25 ex2_25
      refine lv_istore_n (lv' := [(2, .int x2_25), (0, .ref (gE E 0)), (1, .int x1)]) hx hb (dAt dX7_readsSteps 16 rfl) rfl hl (by decide) rfl (fun ls hl => ?_)
      refine lv_iload_n hx hb (dAt dX7_readsSteps 17 rfl) rfl (lv_at hl 0 rfl) ?_
      refine lv_bipush (v := 111) hx hb (dAt dX7_readsSteps 18 rfl) (by decide) ?_
      refine x_dia (ls := ls) (pcJ := 68) (cnd := x2_25 = (111 : Int32)) (a := (0 : Int32)) (b := (if x2_25 = (117 : Int32) then (1 : Int32) else (if x2_25 = (115 : Int32) then (2 : Int32) else (if x2_25 = (116 : Int32) then (3 : Int32) else (-9 : Int32))))) ([]) ?_ (fun ht29 hf29 => ?_)
      · refine lv_topi (fun x3_68 ex3_68 => ?_)
        replace h := h x3_68 ex3_68
        refine lv_istore_n (lv' := [(3, .int x3_68), (2, .int x2_25), (0, .ref (gE E 0)), (1, .int x1)]) hx hb (dAt dX7_readsSteps 38 rfl) rfl hl (by decide) rfl (fun ls hl => ?_)
        refine lv_iload_n hx hb (dAt dX7_readsSteps 39 rfl) rfl (lv_at hl 0 rfl) ?_
        refine lv_bipush (v := -9) hx hb (dAt dX7_readsSteps 40 rfl) (by decide) ?_
        refine lv_icmp_ne (tgt := 81) hx hb (dAt dX7_readsSteps 41 rfl) (by decide) (fun c72 => ?_) (fun c72 => ?_)
        · replace h := h.1 c72
          refine lv_aload_n hx hb (dAt dX7_readsSteps 46 rfl) rfl (lv_at hl 2 rfl) ?_
          refine x_getr C hw fl_X7_31 (hE.1 0) (nM hE (by decide)) rfl (dAt dX7_readsSteps 47 rfl) ?_
          refine lv_iload_n hx hb (dAt dX7_readsSteps 48 rfl) rfl (lv_at hl 3 rfl) ?_
          refine lv_iload_n hx hb (dAt dX7_readsSteps 49 rfl) rfl (lv_at hl 0 rfl) ?_
          obtain ⟨z87, h⟩ := h
          refine x_ist C hw (hE.1 8) (nM hE (by decide)) z87 rfl (dAt dX7_readsSteps 50 rfl) (fun σ87 H locs eσ87 hw => ?_)
          replace h := h σ87 eσ87
          refine lv_iinc (v := (x1 + (1 : Int32))) (lv' := [(1, .int (x1 + (1 : Int32))), (3, .int x3_68), (2, .int x2_25), (0, .ref (gE E 0))]) hx hb (dAt dX7_readsSteps 51 rfl) hl (k := 3) rfl rfl (by decide) rfl (fun ls hl => ?_)
          refine lv_goto (tgt := 6) hx hb (dAt dX7_readsSteps 52 rfl) (by decide) ?_
          exact ih (x1 + (1 : Int32)) σ87  _ _ _ hw (lv_sub hl [3, 0] rfl) h
        · replace h := h.2 c72
          refine lv_aload_n hx hb (dAt dX7_readsSteps 42 rfl) rfl (lv_at hl 2 rfl) ?_
          refine x_callv C hw (x_runV (As := []) (rest := []) C hw (kX7_still l E hE  σ _ h) mtX7_still lk_X7_142 (hE.1 0) (nM hE (by decide)) rfl ⟨by decide, by decide⟩ ⟨rfl, rfl⟩ rfl hl.1 rfl (Nat.le_of_ble_eq_true rfl) (dAt dX7_readsSteps 43 rfl) ⟨Nat.zero_le _, Nat.zero_le _⟩) (fun σ76 H locs h hw => ?_)
          refine lv_iload_n hx hb (dAt dX7_readsSteps 44 rfl) rfl (lv_at hl 3 rfl) ?_
          exact x_iret C hw hr hlk h (dAt dX7_readsSteps 45 rfl)
      · refine lv_icmp_ne (tgt := 36) hx hb (dAt dX7_readsSteps 19 rfl) (by decide) (fun c29 => ?_) (fun c29 => ?_)
        · refine lv_iload_n hx hb (dAt dX7_readsSteps 22 rfl) rfl (lv_at hl 0 rfl) ?_
          refine lv_bipush (v := 117) hx hb (dAt dX7_readsSteps 23 rfl) (by decide) ?_
          refine x_dia (ls := ls) _ (hf29 c29) (fun ht29_29t hf29_29t => ?_)
          refine lv_icmp_ne (tgt := 46) hx hb (dAt dX7_readsSteps 24 rfl) (by decide) (fun c39 => ?_) (fun c39 => ?_)
          · refine lv_iload_n hx hb (dAt dX7_readsSteps 27 rfl) rfl (lv_at hl 0 rfl) ?_
            refine lv_bipush (v := 115) hx hb (dAt dX7_readsSteps 28 rfl) (by decide) ?_
            refine x_dia (ls := ls) _ (hf29_29t c39) (fun ht29_29t_39t hf29_29t_39t => ?_)
            refine lv_icmp_ne (tgt := 56) hx hb (dAt dX7_readsSteps 29 rfl) (by decide) (fun c49 => ?_) (fun c49 => ?_)
            · refine lv_iload_n hx hb (dAt dX7_readsSteps 32 rfl) rfl (lv_at hl 0 rfl) ?_
              refine lv_bipush (v := 116) hx hb (dAt dX7_readsSteps 33 rfl) (by decide) ?_
              refine x_dia (ls := ls) _ (hf29_29t_39t c49) (fun ht29_29t_39t_49t hf29_29t_39t_49t => ?_)
              refine lv_icmp_ne (tgt := 66) hx hb (dAt dX7_readsSteps 34 rfl) (by decide) (fun c59 => ?_) (fun c59 => ?_)
              · refine lv_bipush (v := -9) hx hb (dAt dX7_readsSteps 37 rfl) (by decide) ?_
                exact hf29_29t_39t_49t c59
              · refine lv_iconst (v := 3) hx hb (dAt dX7_readsSteps 35 rfl) (by decide) ?_
                refine lv_goto (tgt := 68) hx hb (dAt dX7_readsSteps 36 rfl) (by decide) ?_
                exact ht29_29t_39t_49t c59
            · refine lv_iconst (v := 2) hx hb (dAt dX7_readsSteps 30 rfl) (by decide) ?_
              refine lv_goto (tgt := 68) hx hb (dAt dX7_readsSteps 31 rfl) (by decide) ?_
              exact ht29_29t_39t c49
          · refine lv_iconst (v := 1) hx hb (dAt dX7_readsSteps 25 rfl) (by decide) ?_
            refine lv_goto (tgt := 68) hx hb (dAt dX7_readsSteps 26 rfl) (by decide) ?_
            exact ht29_29t c39
        · refine lv_iconst (v := 0) hx hb (dAt dX7_readsSteps 20 rfl) (by decide) ?_
          refine lv_goto (tgt := 68) hx hb (dAt dX7_readsSteps 21 rfl) (by decide) ?_
          exact ht29 c29
set_option maxHeartbeats 4000000 in
set_option maxRecDepth 100000 in
theorem kX7_readsSteps (l : Launch) (E : wE) (hE : wM E) (σ : Mem) (Q : Int32 → Mem → Prop) (h : wX7_readsSteps  σ Q) : Met l yX7_readsSteps (Cond.code yX7_readsSteps cX7_readsSteps 4 (some .int) :: TB) rX7_readsSteps (wPc E σ [.ref (gE E 0)]) (wQi E Q) 0 0 (wA E) := by
  refine wMet (by decide) hE.2.2 (Nat.le_of_ble_eq_true rfl) ?_
  intro p e s m args below meth c ls C hr hlk hl hw
  have hx := C.1.1
  have hb := C.1.2.1
  replace C : Cx p s m args c cX7_readsSteps 4 RX7 E (wA E) := C
  replace hl : lv_has ls 4 [(0, .ref (gE E 0))] := hl
  unfold wX7_readsSteps at h
  refine lv_aload_n hx hb (dAt dX7_readsSteps 0 rfl) rfl (lv_at hl 0 rfl) ?_
  refine x_callv C hw (x_runV (As := []) (rest := []) C hw (kX7_still l E hE  σ _ h) mtX7_still lk_X7_142 (hE.1 0) (nM hE (by decide)) rfl ⟨by decide, by decide⟩ ⟨rfl, rfl⟩ rfl hl.1 rfl (Nat.le_of_ble_eq_true rfl) (dAt dX7_readsSteps 1 rfl) ⟨Nat.zero_le _, Nat.zero_le _⟩) (fun σ1 H locs h hw => ?_)
  refine lv_iconst (v := 0) hx hb (dAt dX7_readsSteps 2 rfl) (by decide) ?_
  refine lv_istore_n (lv' := [(1, .int (0 : Int32)), (0, .ref (gE E 0))]) hx hb (dAt dX7_readsSteps 3 rfl) rfl hl (by decide) rfl (fun ls hl => ?_)
  obtain ⟨n6, h⟩ := h
  exact kX7_readsSteps_6 hE C hr hlk n6 (0 : Int32) σ1  _ _ _ hw (lv_sub hl [1, 0] rfl) h
def tX7_readsText : List (Nat × Instr × Nat) := [(0, .iload_n 1, 1), (1, .ifCond .ne 10, 3), (4, .aload_n 0, 1), (5, .invokevirtual 145, 3), (8, .goto 7, 3), (11, .aload_n 0, 1), (12, .invokevirtual 149, 3), (15, .ireturn, 1)]
theorem dX7_readsText : dOk cX7_readsText tX7_readsText = true := by decide +kernel
abbrev rX7_readsText : Room := { frames := 3, cells := 0, slots := 0, locals := 70 }
def wX7_readsText (x1 : Int32) (σ : Mem) (Q : Int32 → Mem → Prop) : Prop := (((¬ x1 = 0) → (wX7_readsSteps  σ (fun r12 σ12 => (Q r12 σ12)))) ∧ ((x1 = 0) → (wX7_readsDancers  σ (fun r5 σ5 => (Q r5 σ5)))))
set_option maxHeartbeats 4000000 in
set_option maxRecDepth 100000 in
theorem kX7_readsText (l : Launch) (E : wE) (hE : wM E) (x1 : Int32) (σ : Mem) (Q : Int32 → Mem → Prop) (h : wX7_readsText x1 σ Q) : Met l yX7_readsText (Cond.code yX7_readsText cX7_readsText 2 (some .int) :: TB) rX7_readsText (wPc E σ [.ref (gE E 0), .int x1]) (wQi E Q) 0 0 (wA E) := by
  refine wMet (by decide) hE.2.2 (Nat.le_of_ble_eq_true rfl) ?_
  intro p e s m args below meth c ls C hr hlk hl hw
  have hx := C.1.1
  have hb := C.1.2.1
  replace C : Cx p s m args c cX7_readsText 2 RX7 E (wA E) := C
  replace hl : lv_has ls 2 [(0, .ref (gE E 0)), (1, .int x1)] := hl
  unfold wX7_readsText at h
  refine lv_iload_n hx hb (dAt dX7_readsText 0 rfl) rfl (lv_at hl 1 rfl) ?_
  refine lv_if_ne (tgt := 11) hx hb (dAt dX7_readsText 1 rfl) (by decide) (fun c1 => ?_) (fun c1 => ?_)
  · replace h := h.1 c1
    refine lv_aload_n hx hb (dAt dX7_readsText 5 rfl) rfl (lv_at hl 0 rfl) ?_
    refine x_calli C hw (x_runV (As := []) (rest := []) C hw (kX7_readsSteps l E hE  σ _ h) mtX7_readsSteps lk_X7_149 (hE.1 0) (nM hE (by decide)) rfl ⟨by decide, by decide⟩ ⟨rfl, rfl⟩ rfl hl.1 rfl (Nat.le_of_ble_eq_true rfl) (dAt dX7_readsText 6 rfl) ⟨Nat.zero_le _, Nat.zero_le _⟩) (fun r12 σ12 H locs h hw => ?_)
    exact x_iret C hw hr hlk h (dAt dX7_readsText 7 rfl)
  · replace h := h.2 c1
    refine lv_aload_n hx hb (dAt dX7_readsText 2 rfl) rfl (lv_at hl 0 rfl) ?_
    refine x_calli C hw (x_runV (As := []) (rest := []) C hw (kX7_readsDancers l E hE  σ _ h) mtX7_readsDancers lk_X7_145 (hE.1 0) (nM hE (by decide)) rfl ⟨by decide, by decide⟩ ⟨rfl, rfl⟩ rfl hl.1 rfl (Nat.le_of_ble_eq_true rfl) (dAt dX7_readsText 3 rfl) ⟨Nat.zero_le _, Nat.zero_le _⟩) (fun r5 σ5 H locs h hw => ?_)
    refine lv_goto (tgt := 15) hx hb (dAt dX7_readsText 4 rfl) (by decide) ?_
    exact x_iret C hw hr hlk h (dAt dX7_readsText 7 rfl)
def tX7_fault : List (Nat × Instr × Nat) := [(0, .iload_n 1, 1), (1, .invokestatic 116, 3), (4, .ifCond .eq 11, 3), (7, .aload_n 0, 1), (8, .iload_n 1, 1), (9, .invokevirtual 152, 3), (12, .goto 5, 3), (15, .bipush (-2), 2), (17, .ireturn, 1)]
theorem dX7_fault : dOk cX7_fault tX7_fault = true := by decide +kernel
abbrev rX7_fault : Room := { frames := 4, cells := 0, slots := 0, locals := 91 }
def wX7_fault (x1 : Int32) (σ : Mem) (Q : Int32 → Mem → Prop) : Prop := (wX7_isTwo x1 σ (fun r1 σ1 => (((r1 = 0) → (Q (-2 : Int32) σ1)) ∧ ((¬ r1 = 0) → (wX7_readsText x1 σ1 (fun r9 σ9 => (Q r9 σ9)))))))
set_option maxHeartbeats 4000000 in
set_option maxRecDepth 100000 in
theorem kX7_fault (l : Launch) (E : wE) (hE : wM E) (x1 : Int32) (σ : Mem) (Q : Int32 → Mem → Prop) (h : wX7_fault x1 σ Q) : Met l yX7_fault (Cond.code yX7_fault cX7_fault 2 (some .int) :: TB) rX7_fault (wPc E σ [.ref (gE E 0), .int x1]) (wQi E Q) 0 0 (wA E) := by
  refine wMet (by decide) hE.2.2 (Nat.le_of_ble_eq_true rfl) ?_
  intro p e s m args below meth c ls C hr hlk hl hw
  have hx := C.1.1
  have hb := C.1.2.1
  replace C : Cx p s m args c cX7_fault 2 RX7 E (wA E) := C
  replace hl : lv_has ls 2 [(0, .ref (gE E 0)), (1, .int x1)] := hl
  unfold wX7_fault at h
  refine lv_iload_n hx hb (dAt dX7_fault 0 rfl) rfl (lv_at hl 1 rfl) ?_
  refine x_calli C hw (x_runS (As := [.int x1]) (rest := []) C hw (kX7_isTwo l E hE x1 σ _ h) mtX7_isTwo lk_X7_116 ⟨by decide, by decide⟩ ⟨rfl, rfl⟩ rfl hl.1 rfl (Nat.le_of_ble_eq_true rfl) (dAt dX7_fault 1 rfl) ⟨Nat.zero_le _, Nat.zero_le _⟩) (fun r1 σ1 H locs h hw => ?_)
  refine lv_if_eq (tgt := 15) hx hb (dAt dX7_fault 2 rfl) (by decide) (fun c4 => ?_) (fun c4 => ?_)
  · replace h := h.1 c4
    refine lv_bipush (v := -2) hx hb (dAt dX7_fault 7 rfl) (by decide) ?_
    exact x_iret C hw hr hlk h (dAt dX7_fault 8 rfl)
  · replace h := h.2 c4
    refine lv_aload_n hx hb (dAt dX7_fault 3 rfl) rfl (lv_at hl 0 rfl) ?_
    refine lv_iload_n hx hb (dAt dX7_fault 4 rfl) rfl (lv_at hl 1 rfl) ?_
    refine x_calli C hw (x_runV (As := [.int x1]) (rest := []) C hw (kX7_readsText l E hE x1 σ1 _ h) mtX7_readsText lk_X7_152 (hE.1 0) (nM hE (by decide)) rfl ⟨by decide, by decide⟩ ⟨rfl, rfl⟩ rfl hl.1 rfl (Nat.le_of_ble_eq_true rfl) (dAt dX7_fault 5 rfl) ⟨Nat.zero_le _, Nat.zero_le _⟩) (fun r9 σ9 H locs h hw => ?_)
    refine lv_goto (tgt := 17) hx hb (dAt dX7_fault 6 rfl) (by decide) ?_
    exact x_iret C hw hr hlk h (dAt dX7_fault 8 rfl)
def tX7_isBeat : List (Nat × Instr × Nat) := [(0, .iload_n 0, 1), (1, .i2l, 1), (2, .lconst 0, 1), (3, .ldc2_w 155, 3), (6, .invokestatic 88, 3), (9, .ireturn, 1)]
theorem dX7_isBeat : dOk cX7_isBeat tX7_isBeat = true := by decide +kernel
abbrev rX7_isBeat : Room := { frames := 1, cells := 0, slots := 0, locals := 25 }
def wX7_isBeat (x0 : Int32) (σ : Mem) (Q : Int32 → Mem → Prop) : Prop := (wX7_in ((x0).toInt64) (0 : Int64) (23 : Int64) σ (fun r6 σ6 => (bz r6 ∧ Q r6 σ6)))
set_option maxHeartbeats 4000000 in
set_option maxRecDepth 100000 in
theorem kX7_isBeat (l : Launch) (E : wE) (hE : wM E) (x0 : Int32) (σ : Mem) (Q : Int32 → Mem → Prop) (h : wX7_isBeat x0 σ Q) : Met l yX7_isBeat (Cond.code yX7_isBeat cX7_isBeat 1 (some .boolean) :: TB) rX7_isBeat (wPc E σ [.int x0]) (wQi E Q) 0 0 (wA E) := by
  refine wMet (by decide) hE.2.2 (Nat.le_of_ble_eq_true rfl) ?_
  intro p e s m args below meth c ls C hr hlk hl hw
  have hx := C.1.1
  have hb := C.1.2.1
  replace C : Cx p s m args c cX7_isBeat 1 RX7 E (wA E) := C
  replace hl : lv_has ls 1 [(0, .int x0)] := hl
  unfold wX7_isBeat at h
  refine lv_iload_n hx hb (dAt dX7_isBeat 0 rfl) rfl (lv_at hl 0 rfl) ?_
  refine lv_i2l hx hb (dAt dX7_isBeat 1 rfl) rfl ?_
  refine lv_lconst (v := 0) hx hb (dAt dX7_isBeat 2 rfl) (by decide) ?_
  refine lv_ldc2 (v := 23) hx hb C.1.2.2.2.1 (C.1.2.2.2.2 _ ck_X7_155) (dAt dX7_isBeat 3 rfl) ?_
  refine x_calli C hw (x_runS (As := [.long ((x0).toInt64), .long (0 : Int64), .long (23 : Int64)]) (rest := []) C hw (kX7_in l E hE ((x0).toInt64) (0 : Int64) (23 : Int64) σ _ h) mtX7_in lk_X7_88 ⟨by decide, by decide⟩ ⟨rfl, rfl⟩ rfl hl.1 rfl (Nat.le_of_ble_eq_true rfl) (dAt dX7_isBeat 4 rfl) ⟨Nat.zero_le _, Nat.zero_le _⟩) (fun r6 σ6 H locs h hw => ?_)
  exact x_zret C hw hr hlk h.1 h.2 (dAt dX7_isBeat 5 rfl)
def tX7_isDancer : List (Nat × Instr × Nat) := [(0, .iload_n 1, 1), (1, .i2l, 1), (2, .lconst 0, 1), (3, .aload_n 0, 1), (4, .getfield 129, 3), (7, .iconst 1, 1), (8, .isub, 1), (9, .i2l, 1), (10, .invokestatic 88, 3), (13, .ireturn, 1)]
theorem dX7_isDancer : dOk cX7_isDancer tX7_isDancer = true := by decide +kernel
abbrev rX7_isDancer : Room := { frames := 1, cells := 0, slots := 0, locals := 25 }
def wX7_isDancer (x1 : Int32) (σ : Mem) (Q : Int32 → Mem → Prop) : Prop := (wX7_in ((x1).toInt64) (0 : Int64) ((((σ 0 7) - (1 : Int32))).toInt64) σ (fun r10 σ10 => (bz r10 ∧ Q r10 σ10)))
set_option maxHeartbeats 4000000 in
set_option maxRecDepth 100000 in
theorem kX7_isDancer (l : Launch) (E : wE) (hE : wM E) (x1 : Int32) (σ : Mem) (Q : Int32 → Mem → Prop) (h : wX7_isDancer x1 σ Q) : Met l yX7_isDancer (Cond.code yX7_isDancer cX7_isDancer 2 (some .boolean) :: TB) rX7_isDancer (wPc E σ [.ref (gE E 0), .int x1]) (wQi E Q) 0 0 (wA E) := by
  refine wMet (by decide) hE.2.2 (Nat.le_of_ble_eq_true rfl) ?_
  intro p e s m args below meth c ls C hr hlk hl hw
  have hx := C.1.1
  have hb := C.1.2.1
  replace C : Cx p s m args c cX7_isDancer 2 RX7 E (wA E) := C
  replace hl : lv_has ls 2 [(0, .ref (gE E 0)), (1, .int x1)] := hl
  unfold wX7_isDancer at h
  refine lv_iload_n hx hb (dAt dX7_isDancer 0 rfl) rfl (lv_at hl 1 rfl) ?_
  refine lv_i2l hx hb (dAt dX7_isDancer 1 rfl) rfl ?_
  refine lv_lconst (v := 0) hx hb (dAt dX7_isDancer 2 rfl) (by decide) ?_
  refine lv_aload_n hx hb (dAt dX7_isDancer 3 rfl) rfl (lv_at hl 0 rfl) ?_
  refine x_geti C hw fl_X7_129 (hE.1 0) (nM hE (by decide)) rfl (dAt dX7_isDancer 4 rfl) ?_
  refine lv_iconst (v := 1) hx hb (dAt dX7_isDancer 5 rfl) (by decide) ?_
  refine lv_isub hx hb (dAt dX7_isDancer 6 rfl) ?_
  refine lv_i2l hx hb (dAt dX7_isDancer 7 rfl) rfl ?_
  refine x_calli C hw (x_runS (As := [.long ((x1).toInt64), .long (0 : Int64), .long ((((σ 0 7) - (1 : Int32))).toInt64)]) (rest := []) C hw (kX7_in l E hE ((x1).toInt64) (0 : Int64) ((((σ 0 7) - (1 : Int32))).toInt64) σ _ h) mtX7_in lk_X7_88 ⟨by decide, by decide⟩ ⟨rfl, rfl⟩ rfl hl.1 rfl (Nat.le_of_ble_eq_true rfl) (dAt dX7_isDancer 8 rfl) ⟨Nat.zero_le _, Nat.zero_le _⟩) (fun r10 σ10 H locs h hw => ?_)
  exact x_zret C hw hr hlk h.1 h.2 (dAt dX7_isDancer 9 rfl)
def tX7_dancer : List (Nat × Instr × Nat) := [(0, .aload_n 0, 1), (1, .invokevirtual 145, 3), (4, .pop, 1), (5, .aload_n 0, 1), (6, .iload_n 1, 1), (7, .invokevirtual 157, 3), (10, .ifCond .eq 28, 3), (13, .iload_n 2, 1), (14, .i2l, 1), (15, .lconst 0, 1), (16, .ldc2_w 101, 3), (19, .invokestatic 88, 3), (22, .ifCond .eq 16, 3), (25, .aload_n 0, 1), (26, .getfield 28, 3), (29, .iconst 3, 1), (30, .iload_n 1, 1), (31, .imul, 1), (32, .iload_n 2, 1), (33, .iadd, 1), (34, .iaload, 1), (35, .goto 5, 3), (38, .bipush (-2), 2), (40, .ireturn, 1)]
theorem dX7_dancer : dOk cX7_dancer tX7_dancer = true := by decide +kernel
abbrev rX7_dancer : Room := { frames := 3, cells := 0, slots := 0, locals := 70 }
def wX7_dancer (x1 : Int32) (x2 : Int32) (σ : Mem) (Q : Int32 → Mem → Prop) : Prop := (wX7_readsDancers  σ (fun r1 σ1 => (wX7_isDancer x1 σ1 (fun r7 σ7 => (((r7 = 0) → (Q (-2 : Int32) σ7)) ∧ ((¬ r7 = 0) → (wX7_in ((x2).toInt64) (0 : Int64) (2 : Int64) σ7 (fun r19 σ19 => (((r19 = 0) → (Q (-2 : Int32) σ19)) ∧ ((¬ r19 = 0) → (vp_in (((3 : Int32) * x1) + x2) 24 ∧ (Q (σ19 7 ((((3 : Int32) * x1) + x2)).toNatClampNeg) σ19))))))))))))
set_option maxHeartbeats 4000000 in
set_option maxRecDepth 100000 in
theorem kX7_dancer (l : Launch) (E : wE) (hE : wM E) (x1 : Int32) (x2 : Int32) (σ : Mem) (Q : Int32 → Mem → Prop) (h : wX7_dancer x1 x2 σ Q) : Met l yX7_dancer (Cond.code yX7_dancer cX7_dancer 3 (some .int) :: TB) rX7_dancer (wPc E σ [.ref (gE E 0), .int x1, .int x2]) (wQi E Q) 0 0 (wA E) := by
  refine wMet (by decide) hE.2.2 (Nat.le_of_ble_eq_true rfl) ?_
  intro p e s m args below meth c ls C hr hlk hl hw
  have hx := C.1.1
  have hb := C.1.2.1
  replace C : Cx p s m args c cX7_dancer 3 RX7 E (wA E) := C
  replace hl : lv_has ls 3 [(0, .ref (gE E 0)), (1, .int x1), (2, .int x2)] := hl
  unfold wX7_dancer at h
  refine lv_aload_n hx hb (dAt dX7_dancer 0 rfl) rfl (lv_at hl 0 rfl) ?_
  refine x_calli C hw (x_runV (As := []) (rest := []) C hw (kX7_readsDancers l E hE  σ _ h) mtX7_readsDancers lk_X7_145 (hE.1 0) (nM hE (by decide)) rfl ⟨by decide, by decide⟩ ⟨rfl, rfl⟩ rfl hl.1 rfl (Nat.le_of_ble_eq_true rfl) (dAt dX7_dancer 1 rfl) ⟨Nat.zero_le _, Nat.zero_le _⟩) (fun r1 σ1 H locs h hw => ?_)
  refine lv_pop hx hb (dAt dX7_dancer 2 rfl) rfl ?_
  refine lv_aload_n hx hb (dAt dX7_dancer 3 rfl) rfl (lv_at hl 0 rfl) ?_
  refine lv_iload_n hx hb (dAt dX7_dancer 4 rfl) rfl (lv_at hl 1 rfl) ?_
  refine x_calli C hw (x_runV (As := [.int x1]) (rest := []) C hw (kX7_isDancer l E hE x1 σ1 _ h) mtX7_isDancer lk_X7_157 (hE.1 0) (nM hE (by decide)) rfl ⟨by decide, by decide⟩ ⟨rfl, rfl⟩ rfl hl.1 rfl (Nat.le_of_ble_eq_true rfl) (dAt dX7_dancer 5 rfl) ⟨Nat.zero_le _, Nat.zero_le _⟩) (fun r7 σ7 H locs h hw => ?_)
  refine lv_if_eq (tgt := 38) hx hb (dAt dX7_dancer 6 rfl) (by decide) (fun c10 => ?_) (fun c10 => ?_)
  · replace h := h.1 c10
    refine lv_bipush (v := -2) hx hb (dAt dX7_dancer 22 rfl) (by decide) ?_
    exact x_iret C hw hr hlk h (dAt dX7_dancer 23 rfl)
  · replace h := h.2 c10
    refine lv_iload_n hx hb (dAt dX7_dancer 7 rfl) rfl (lv_at hl 2 rfl) ?_
    refine lv_i2l hx hb (dAt dX7_dancer 8 rfl) rfl ?_
    refine lv_lconst (v := 0) hx hb (dAt dX7_dancer 9 rfl) (by decide) ?_
    refine lv_ldc2 (v := 2) hx hb C.1.2.2.2.1 (C.1.2.2.2.2 _ ck_X7_101) (dAt dX7_dancer 10 rfl) ?_
    refine x_calli C hw (x_runS (As := [.long ((x2).toInt64), .long (0 : Int64), .long (2 : Int64)]) (rest := []) C hw (kX7_in l E hE ((x2).toInt64) (0 : Int64) (2 : Int64) σ7 _ h) mtX7_in lk_X7_88 ⟨by decide, by decide⟩ ⟨rfl, rfl⟩ rfl hl.1 rfl (Nat.le_of_ble_eq_true rfl) (dAt dX7_dancer 11 rfl) ⟨Nat.zero_le _, Nat.zero_le _⟩) (fun r19 σ19 H locs h hw => ?_)
    refine lv_if_eq (tgt := 38) hx hb (dAt dX7_dancer 12 rfl) (by decide) (fun c22 => ?_) (fun c22 => ?_)
    · replace h := h.1 c22
      refine lv_bipush (v := -2) hx hb (dAt dX7_dancer 22 rfl) (by decide) ?_
      exact x_iret C hw hr hlk h (dAt dX7_dancer 23 rfl)
    · replace h := h.2 c22
      refine lv_aload_n hx hb (dAt dX7_dancer 13 rfl) rfl (lv_at hl 0 rfl) ?_
      refine x_getr C hw fl_X7_28 (hE.1 0) (nM hE (by decide)) rfl (dAt dX7_dancer 14 rfl) ?_
      refine lv_iconst (v := 3) hx hb (dAt dX7_dancer 15 rfl) (by decide) ?_
      refine lv_iload_n hx hb (dAt dX7_dancer 16 rfl) rfl (lv_at hl 1 rfl) ?_
      refine lv_imul hx hb (dAt dX7_dancer 17 rfl) ?_
      refine lv_iload_n hx hb (dAt dX7_dancer 18 rfl) rfl (lv_at hl 2 rfl) ?_
      refine lv_iadd hx hb (dAt dX7_dancer 19 rfl) ?_
      obtain ⟨z34, h⟩ := h
      refine x_ild C hw (hE.1 7) (nM hE (by decide)) z34 rfl (dAt dX7_dancer 20 rfl) ?_
      refine lv_goto (tgt := 40) hx hb (dAt dX7_dancer 21 rfl) (by decide) ?_
      exact x_iret C hw hr hlk h (dAt dX7_dancer 23 rfl)
def tX7_steps : List (Nat × Instr × Nat) := [(0, .aload_n 0, 1), (1, .invokevirtual 149, 3), (4, .pop, 1), (5, .iload_n 1, 1), (6, .invokestatic 160, 3), (9, .ifCond .eq 12, 3), (12, .aload_n 0, 1), (13, .getfield 31, 3), (16, .iload_n 1, 1), (17, .iaload, 1), (18, .goto 5, 3), (21, .bipush (-2), 2), (23, .ireturn, 1)]
theorem dX7_steps : dOk cX7_steps tX7_steps = true := by decide +kernel
abbrev rX7_steps : Room := { frames := 2, cells := 0, slots := 0, locals := 45 }
def wX7_steps (x1 : Int32) (σ : Mem) (Q : Int32 → Mem → Prop) : Prop := (wX7_readsSteps  σ (fun r1 σ1 => (wX7_isBeat x1 σ1 (fun r6 σ6 => (((r6 = 0) → (Q (-2 : Int32) σ6)) ∧ ((¬ r6 = 0) → (vp_in x1 24 ∧ (Q (σ6 8 (x1).toNatClampNeg) σ6))))))))
set_option maxHeartbeats 4000000 in
set_option maxRecDepth 100000 in
theorem kX7_steps (l : Launch) (E : wE) (hE : wM E) (x1 : Int32) (σ : Mem) (Q : Int32 → Mem → Prop) (h : wX7_steps x1 σ Q) : Met l yX7_steps (Cond.code yX7_steps cX7_steps 2 (some .int) :: TB) rX7_steps (wPc E σ [.ref (gE E 0), .int x1]) (wQi E Q) 0 0 (wA E) := by
  refine wMet (by decide) hE.2.2 (Nat.le_of_ble_eq_true rfl) ?_
  intro p e s m args below meth c ls C hr hlk hl hw
  have hx := C.1.1
  have hb := C.1.2.1
  replace C : Cx p s m args c cX7_steps 2 RX7 E (wA E) := C
  replace hl : lv_has ls 2 [(0, .ref (gE E 0)), (1, .int x1)] := hl
  unfold wX7_steps at h
  refine lv_aload_n hx hb (dAt dX7_steps 0 rfl) rfl (lv_at hl 0 rfl) ?_
  refine x_calli C hw (x_runV (As := []) (rest := []) C hw (kX7_readsSteps l E hE  σ _ h) mtX7_readsSteps lk_X7_149 (hE.1 0) (nM hE (by decide)) rfl ⟨by decide, by decide⟩ ⟨rfl, rfl⟩ rfl hl.1 rfl (Nat.le_of_ble_eq_true rfl) (dAt dX7_steps 1 rfl) ⟨Nat.zero_le _, Nat.zero_le _⟩) (fun r1 σ1 H locs h hw => ?_)
  refine lv_pop hx hb (dAt dX7_steps 2 rfl) rfl ?_
  refine lv_iload_n hx hb (dAt dX7_steps 3 rfl) rfl (lv_at hl 1 rfl) ?_
  refine x_calli C hw (x_runS (As := [.int x1]) (rest := []) C hw (kX7_isBeat l E hE x1 σ1 _ h) mtX7_isBeat lk_X7_160 ⟨by decide, by decide⟩ ⟨rfl, rfl⟩ rfl hl.1 rfl (Nat.le_of_ble_eq_true rfl) (dAt dX7_steps 4 rfl) ⟨Nat.zero_le _, Nat.zero_le _⟩) (fun r6 σ6 H locs h hw => ?_)
  refine lv_if_eq (tgt := 21) hx hb (dAt dX7_steps 5 rfl) (by decide) (fun c9 => ?_) (fun c9 => ?_)
  · replace h := h.1 c9
    refine lv_bipush (v := -2) hx hb (dAt dX7_steps 11 rfl) (by decide) ?_
    exact x_iret C hw hr hlk h (dAt dX7_steps 12 rfl)
  · replace h := h.2 c9
    refine lv_aload_n hx hb (dAt dX7_steps 6 rfl) rfl (lv_at hl 0 rfl) ?_
    refine x_getr C hw fl_X7_31 (hE.1 0) (nM hE (by decide)) rfl (dAt dX7_steps 7 rfl) ?_
    refine lv_iload_n hx hb (dAt dX7_steps 8 rfl) rfl (lv_at hl 1 rfl) ?_
    obtain ⟨z17, h⟩ := h
    refine x_ild C hw (hE.1 8) (nM hE (by decide)) z17 rfl (dAt dX7_steps 9 rfl) ?_
    refine lv_goto (tgt := 23) hx hb (dAt dX7_steps 10 rfl) (by decide) ?_
    exact x_iret C hw hr hlk h (dAt dX7_steps 12 rfl)
def tX7_ribbons : List (Nat × Instr × Nat) := [(0, .iload_n 1, 1), (1, .i2l, 1), (2, .ldc2_w 101, 3), (5, .ldc2_w 163, 3), (8, .invokestatic 88, 3), (11, .ifCond .ne 6, 3), (14, .bipush (-2), 2), (16, .ireturn, 1), (17, .aload_n 0, 1), (18, .getfield 82, 3), (21, .istore_n 2, 1), (22, .aload_n 0, 1), (23, .iload_n 1, 1), (24, .putfield 82, 3), (27, .iload_n 2, 1), (28, .ireturn, 1)]
theorem dX7_ribbons : dOk cX7_ribbons tX7_ribbons = true := by decide +kernel
abbrev rX7_ribbons : Room := { frames := 1, cells := 0, slots := 0, locals := 25 }
def wX7_ribbons (x1 : Int32) (σ : Mem) (Q : Int32 → Mem → Prop) : Prop := (wX7_in ((x1).toInt64) (2 : Int64) (30 : Int64) σ (fun r8 σ8 => (((¬ r8 = 0) → (∀ x2_21 : Int32, x2_21 = (σ8 0 11) → (∀ σ24 : Mem, σ24 = um σ8 0 11 x1 → (Q x2_21 σ24)))) ∧ ((r8 = 0) → (Q (-2 : Int32) σ8)))))
set_option maxHeartbeats 4000000 in
set_option maxRecDepth 100000 in
theorem kX7_ribbons (l : Launch) (E : wE) (hE : wM E) (x1 : Int32) (σ : Mem) (Q : Int32 → Mem → Prop) (h : wX7_ribbons x1 σ Q) : Met l yX7_ribbons (Cond.code yX7_ribbons cX7_ribbons 3 (some .int) :: TB) rX7_ribbons (wPc E σ [.ref (gE E 0), .int x1]) (wQi E Q) 0 0 (wA E) := by
  refine wMet (by decide) hE.2.2 (Nat.le_of_ble_eq_true rfl) ?_
  intro p e s m args below meth c ls C hr hlk hl hw
  have hx := C.1.1
  have hb := C.1.2.1
  replace C : Cx p s m args c cX7_ribbons 3 RX7 E (wA E) := C
  replace hl : lv_has ls 3 [(0, .ref (gE E 0)), (1, .int x1)] := hl
  unfold wX7_ribbons at h
  refine lv_iload_n hx hb (dAt dX7_ribbons 0 rfl) rfl (lv_at hl 1 rfl) ?_
  refine lv_i2l hx hb (dAt dX7_ribbons 1 rfl) rfl ?_
  refine lv_ldc2 (v := 2) hx hb C.1.2.2.2.1 (C.1.2.2.2.2 _ ck_X7_101) (dAt dX7_ribbons 2 rfl) ?_
  refine lv_ldc2 (v := 30) hx hb C.1.2.2.2.1 (C.1.2.2.2.2 _ ck_X7_163) (dAt dX7_ribbons 3 rfl) ?_
  refine x_calli C hw (x_runS (As := [.long ((x1).toInt64), .long (2 : Int64), .long (30 : Int64)]) (rest := []) C hw (kX7_in l E hE ((x1).toInt64) (2 : Int64) (30 : Int64) σ _ h) mtX7_in lk_X7_88 ⟨by decide, by decide⟩ ⟨rfl, rfl⟩ rfl hl.1 rfl (Nat.le_of_ble_eq_true rfl) (dAt dX7_ribbons 4 rfl) ⟨Nat.zero_le _, Nat.zero_le _⟩) (fun r8 σ8 H locs h hw => ?_)
  refine lv_if_ne (tgt := 17) hx hb (dAt dX7_ribbons 5 rfl) (by decide) (fun c11 => ?_) (fun c11 => ?_)
  · replace h := h.1 c11
    refine lv_aload_n hx hb (dAt dX7_ribbons 8 rfl) rfl (lv_at hl 0 rfl) ?_
    refine x_geti C hw fl_X7_82 (hE.1 0) (nM hE (by decide)) rfl (dAt dX7_ribbons 9 rfl) ?_
    refine lv_topi (fun x2_21 ex2_21 => ?_)
    replace h := h x2_21 ex2_21
    refine lv_istore_n (lv' := [(2, .int x2_21), (0, .ref (gE E 0)), (1, .int x1)]) hx hb (dAt dX7_ribbons 10 rfl) rfl hl (by decide) rfl (fun ls hl => ?_)
    refine lv_aload_n hx hb (dAt dX7_ribbons 11 rfl) rfl (lv_at hl 1 rfl) ?_
    refine lv_iload_n hx hb (dAt dX7_ribbons 12 rfl) rfl (lv_at hl 2 rfl) ?_
    refine x_pf C hw fl_X7_82 (hE.1 0) (nM hE (by decide)) rfl rfl rfl (dAt dX7_ribbons 13 rfl) (fun σ24 H locs eσ24 hw => ?_)
    replace h := h σ24 eσ24
    refine lv_iload_n hx hb (dAt dX7_ribbons 14 rfl) rfl (lv_at hl 0 rfl) ?_
    exact x_iret C hw hr hlk h (dAt dX7_ribbons 15 rfl)
  · replace h := h.2 c11
    refine lv_bipush (v := -2) hx hb (dAt dX7_ribbons 6 rfl) (by decide) ?_
    exact x_iret C hw hr hlk h (dAt dX7_ribbons 7 rfl)
def tX7_event : List (Nat × Instr × Nat) := [(0, .iload_n 1, 1), (1, .i2l, 1), (2, .lconst 0, 1), (3, .ldc2_w 101, 3), (6, .invokestatic 88, 3), (9, .ifCond .eq 22, 3), (12, .iload_n 2, 1), (13, .invokestatic 160, 3), (16, .ifCond .eq 15, 3), (19, .iload_n 3, 1), (20, .i2l, 1), (21, .lconst 0, 1), (22, .ldc2_w 165, 3), (25, .invokestatic 88, 3), (28, .ifCond .ne 6, 3), (31, .bipush (-2), 2), (33, .ireturn, 1), (34, .aload_n 0, 1), (35, .getfield 167, 3), (38, .bipush 8, 2), (40, .if_icmp .ne 6, 3), (43, .bipush (-4), 2), (45, .ireturn, 1), (46, .aload_n 0, 1), (47, .getfield 34, 3), (50, .iconst 3, 1), (51, .aload_n 0, 1), (52, .getfield 167, 3), (55, .imul, 1), (56, .iload_n 1, 1), (57, .iastore, 1), (58, .aload_n 0, 1), (59, .getfield 34, 3), (62, .iconst 3, 1), (63, .aload_n 0, 1), (64, .getfield 167, 3), (67, .imul, 1), (68, .iconst 1, 1), (69, .iadd, 1), (70, .iload_n 2, 1), (71, .iastore, 1), (72, .aload_n 0, 1), (73, .getfield 34, 3), (76, .iconst 3, 1), (77, .aload_n 0, 1), (78, .getfield 167, 3), (81, .imul, 1), (82, .iconst 2, 1), (83, .iadd, 1), (84, .iload_n 3, 1), (85, .iastore, 1), (86, .aload_n 0, 1), (87, .dup, 1), (88, .getfield 167, 3), (91, .iconst 1, 1), (92, .iadd, 1), (93, .putfield 167, 3), (96, .aload_n 0, 1), (97, .getfield 167, 3), (100, .ireturn, 1)]
theorem dX7_event : dOk cX7_event tX7_event = true := by decide +kernel
abbrev rX7_event : Room := { frames := 2, cells := 0, slots := 0, locals := 45 }
def wX7_event (x1 : Int32) (x2 : Int32) (x3 : Int32) (σ : Mem) (Q : Int32 → Mem → Prop) : Prop := (wX7_in ((x1).toInt64) (0 : Int64) (2 : Int64) σ (fun r6 σ6 => (((r6 = 0) → (Q (-2 : Int32) σ6)) ∧ ((¬ r6 = 0) → (wX7_isBeat x2 σ6 (fun r13 σ13 => (((r13 = 0) → (Q (-2 : Int32) σ13)) ∧ ((¬ r13 = 0) → (wX7_in ((x3).toInt64) (0 : Int64) (7 : Int64) σ13 (fun r25 σ25 => (((¬ r25 = 0) → (((¬ (σ25 0 12) = (8 : Int32)) → (vp_in ((3 : Int32) * (σ25 0 12)) 24 ∧ (∀ σ57 : Mem, σ57 = um σ25 9 (((3 : Int32) * (σ25 0 12))).toNatClampNeg x1 → (vp_in (((3 : Int32) * (σ57 0 12)) + (1 : Int32)) 24 ∧ (∀ σ71 : Mem, σ71 = um σ57 9 ((((3 : Int32) * (σ57 0 12)) + (1 : Int32))).toNatClampNeg x2 → (vp_in (((3 : Int32) * (σ71 0 12)) + (2 : Int32)) 24 ∧ (∀ σ85 : Mem, σ85 = um σ71 9 ((((3 : Int32) * (σ71 0 12)) + (2 : Int32))).toNatClampNeg x3 → (∀ σ93 : Mem, σ93 = um σ85 0 12 ((σ85 0 12) + (1 : Int32)) → (Q (σ93 0 12) σ93))))))))) ∧ (((σ25 0 12) = (8 : Int32)) → (Q (-4 : Int32) σ25)))) ∧ ((r25 = 0) → (Q (-2 : Int32) σ25)))))))))))))
set_option maxHeartbeats 4000000 in
set_option maxRecDepth 100000 in
theorem kX7_event (l : Launch) (E : wE) (hE : wM E) (x1 : Int32) (x2 : Int32) (x3 : Int32) (σ : Mem) (Q : Int32 → Mem → Prop) (h : wX7_event x1 x2 x3 σ Q) : Met l yX7_event (Cond.code yX7_event cX7_event 4 (some .int) :: TB) rX7_event (wPc E σ [.ref (gE E 0), .int x1, .int x2, .int x3]) (wQi E Q) 0 0 (wA E) := by
  refine wMet (by decide) hE.2.2 (Nat.le_of_ble_eq_true rfl) ?_
  intro p e s m args below meth c ls C hr hlk hl hw
  have hx := C.1.1
  have hb := C.1.2.1
  replace C : Cx p s m args c cX7_event 4 RX7 E (wA E) := C
  replace hl : lv_has ls 4 [(0, .ref (gE E 0)), (1, .int x1), (2, .int x2), (3, .int x3)] := hl
  unfold wX7_event at h
  refine lv_iload_n hx hb (dAt dX7_event 0 rfl) rfl (lv_at hl 1 rfl) ?_
  refine lv_i2l hx hb (dAt dX7_event 1 rfl) rfl ?_
  refine lv_lconst (v := 0) hx hb (dAt dX7_event 2 rfl) (by decide) ?_
  refine lv_ldc2 (v := 2) hx hb C.1.2.2.2.1 (C.1.2.2.2.2 _ ck_X7_101) (dAt dX7_event 3 rfl) ?_
  refine x_calli C hw (x_runS (As := [.long ((x1).toInt64), .long (0 : Int64), .long (2 : Int64)]) (rest := []) C hw (kX7_in l E hE ((x1).toInt64) (0 : Int64) (2 : Int64) σ _ h) mtX7_in lk_X7_88 ⟨by decide, by decide⟩ ⟨rfl, rfl⟩ rfl hl.1 rfl (Nat.le_of_ble_eq_true rfl) (dAt dX7_event 4 rfl) ⟨Nat.zero_le _, Nat.zero_le _⟩) (fun r6 σ6 H locs h hw => ?_)
  refine lv_if_eq (tgt := 31) hx hb (dAt dX7_event 5 rfl) (by decide) (fun c9 => ?_) (fun c9 => ?_)
  · replace h := h.1 c9
    refine lv_bipush (v := -2) hx hb (dAt dX7_event 15 rfl) (by decide) ?_
    exact x_iret C hw hr hlk h (dAt dX7_event 16 rfl)
  · replace h := h.2 c9
    refine lv_iload_n hx hb (dAt dX7_event 6 rfl) rfl (lv_at hl 2 rfl) ?_
    refine x_calli C hw (x_runS (As := [.int x2]) (rest := []) C hw (kX7_isBeat l E hE x2 σ6 _ h) mtX7_isBeat lk_X7_160 ⟨by decide, by decide⟩ ⟨rfl, rfl⟩ rfl hl.1 rfl (Nat.le_of_ble_eq_true rfl) (dAt dX7_event 7 rfl) ⟨Nat.zero_le _, Nat.zero_le _⟩) (fun r13 σ13 H locs h hw => ?_)
    refine lv_if_eq (tgt := 31) hx hb (dAt dX7_event 8 rfl) (by decide) (fun c16 => ?_) (fun c16 => ?_)
    · replace h := h.1 c16
      refine lv_bipush (v := -2) hx hb (dAt dX7_event 15 rfl) (by decide) ?_
      exact x_iret C hw hr hlk h (dAt dX7_event 16 rfl)
    · replace h := h.2 c16
      refine lv_iload_n hx hb (dAt dX7_event 9 rfl) rfl (lv_at hl 3 rfl) ?_
      refine lv_i2l hx hb (dAt dX7_event 10 rfl) rfl ?_
      refine lv_lconst (v := 0) hx hb (dAt dX7_event 11 rfl) (by decide) ?_
      refine lv_ldc2 (v := 7) hx hb C.1.2.2.2.1 (C.1.2.2.2.2 _ ck_X7_165) (dAt dX7_event 12 rfl) ?_
      refine x_calli C hw (x_runS (As := [.long ((x3).toInt64), .long (0 : Int64), .long (7 : Int64)]) (rest := []) C hw (kX7_in l E hE ((x3).toInt64) (0 : Int64) (7 : Int64) σ13 _ h) mtX7_in lk_X7_88 ⟨by decide, by decide⟩ ⟨rfl, rfl⟩ rfl hl.1 rfl (Nat.le_of_ble_eq_true rfl) (dAt dX7_event 13 rfl) ⟨Nat.zero_le _, Nat.zero_le _⟩) (fun r25 σ25 H locs h hw => ?_)
      refine lv_if_ne (tgt := 34) hx hb (dAt dX7_event 14 rfl) (by decide) (fun c28 => ?_) (fun c28 => ?_)
      · replace h := h.1 c28
        refine lv_aload_n hx hb (dAt dX7_event 17 rfl) rfl (lv_at hl 0 rfl) ?_
        refine x_geti C hw fl_X7_167 (hE.1 0) (nM hE (by decide)) rfl (dAt dX7_event 18 rfl) ?_
        refine lv_bipush (v := 8) hx hb (dAt dX7_event 19 rfl) (by decide) ?_
        refine lv_icmp_ne (tgt := 46) hx hb (dAt dX7_event 20 rfl) (by decide) (fun c40 => ?_) (fun c40 => ?_)
        · replace h := h.1 c40
          refine lv_aload_n hx hb (dAt dX7_event 23 rfl) rfl (lv_at hl 0 rfl) ?_
          refine x_getr C hw fl_X7_34 (hE.1 0) (nM hE (by decide)) rfl (dAt dX7_event 24 rfl) ?_
          refine lv_iconst (v := 3) hx hb (dAt dX7_event 25 rfl) (by decide) ?_
          refine lv_aload_n hx hb (dAt dX7_event 26 rfl) rfl (lv_at hl 0 rfl) ?_
          refine x_geti C hw fl_X7_167 (hE.1 0) (nM hE (by decide)) rfl (dAt dX7_event 27 rfl) ?_
          refine lv_imul hx hb (dAt dX7_event 28 rfl) ?_
          refine lv_iload_n hx hb (dAt dX7_event 29 rfl) rfl (lv_at hl 1 rfl) ?_
          obtain ⟨z57, h⟩ := h
          refine x_ist C hw (hE.1 9) (nM hE (by decide)) z57 rfl (dAt dX7_event 30 rfl) (fun σ57 H locs eσ57 hw => ?_)
          replace h := h σ57 eσ57
          refine lv_aload_n hx hb (dAt dX7_event 31 rfl) rfl (lv_at hl 0 rfl) ?_
          refine x_getr C hw fl_X7_34 (hE.1 0) (nM hE (by decide)) rfl (dAt dX7_event 32 rfl) ?_
          refine lv_iconst (v := 3) hx hb (dAt dX7_event 33 rfl) (by decide) ?_
          refine lv_aload_n hx hb (dAt dX7_event 34 rfl) rfl (lv_at hl 0 rfl) ?_
          refine x_geti C hw fl_X7_167 (hE.1 0) (nM hE (by decide)) rfl (dAt dX7_event 35 rfl) ?_
          refine lv_imul hx hb (dAt dX7_event 36 rfl) ?_
          refine lv_iconst (v := 1) hx hb (dAt dX7_event 37 rfl) (by decide) ?_
          refine lv_iadd hx hb (dAt dX7_event 38 rfl) ?_
          refine lv_iload_n hx hb (dAt dX7_event 39 rfl) rfl (lv_at hl 2 rfl) ?_
          obtain ⟨z71, h⟩ := h
          refine x_ist C hw (hE.1 9) (nM hE (by decide)) z71 rfl (dAt dX7_event 40 rfl) (fun σ71 H locs eσ71 hw => ?_)
          replace h := h σ71 eσ71
          refine lv_aload_n hx hb (dAt dX7_event 41 rfl) rfl (lv_at hl 0 rfl) ?_
          refine x_getr C hw fl_X7_34 (hE.1 0) (nM hE (by decide)) rfl (dAt dX7_event 42 rfl) ?_
          refine lv_iconst (v := 3) hx hb (dAt dX7_event 43 rfl) (by decide) ?_
          refine lv_aload_n hx hb (dAt dX7_event 44 rfl) rfl (lv_at hl 0 rfl) ?_
          refine x_geti C hw fl_X7_167 (hE.1 0) (nM hE (by decide)) rfl (dAt dX7_event 45 rfl) ?_
          refine lv_imul hx hb (dAt dX7_event 46 rfl) ?_
          refine lv_iconst (v := 2) hx hb (dAt dX7_event 47 rfl) (by decide) ?_
          refine lv_iadd hx hb (dAt dX7_event 48 rfl) ?_
          refine lv_iload_n hx hb (dAt dX7_event 49 rfl) rfl (lv_at hl 3 rfl) ?_
          obtain ⟨z85, h⟩ := h
          refine x_ist C hw (hE.1 9) (nM hE (by decide)) z85 rfl (dAt dX7_event 50 rfl) (fun σ85 H locs eσ85 hw => ?_)
          replace h := h σ85 eσ85
          refine lv_aload_n hx hb (dAt dX7_event 51 rfl) rfl (lv_at hl 0 rfl) ?_
          refine lv_dup hx hb (dAt dX7_event 52 rfl) rfl ?_
          refine x_geti C hw fl_X7_167 (hE.1 0) (nM hE (by decide)) rfl (dAt dX7_event 53 rfl) ?_
          refine lv_iconst (v := 1) hx hb (dAt dX7_event 54 rfl) (by decide) ?_
          refine lv_iadd hx hb (dAt dX7_event 55 rfl) ?_
          refine x_pf C hw fl_X7_167 (hE.1 0) (nM hE (by decide)) rfl rfl rfl (dAt dX7_event 56 rfl) (fun σ93 H locs eσ93 hw => ?_)
          replace h := h σ93 eσ93
          refine lv_aload_n hx hb (dAt dX7_event 57 rfl) rfl (lv_at hl 0 rfl) ?_
          refine x_geti C hw fl_X7_167 (hE.1 0) (nM hE (by decide)) rfl (dAt dX7_event 58 rfl) ?_
          exact x_iret C hw hr hlk h (dAt dX7_event 59 rfl)
        · replace h := h.2 c40
          refine lv_bipush (v := -4) hx hb (dAt dX7_event 21 rfl) (by decide) ?_
          exact x_iret C hw hr hlk h (dAt dX7_event 22 rfl)
      · replace h := h.2 c28
        refine lv_bipush (v := -2) hx hb (dAt dX7_event 15 rfl) (by decide) ?_
        exact x_iret C hw hr hlk h (dAt dX7_event 16 rfl)
def tX7_back : List (Nat × Instr × Nat) := [(0, .aload_n 0, 1), (1, .getfield 167, 3), (4, .ifCond .ne 6, 3), (7, .bipush (-3), 2), (9, .ireturn, 1), (10, .aload_n 0, 1), (11, .dup, 1), (12, .getfield 167, 3), (15, .iconst 1, 1), (16, .isub, 1), (17, .putfield 167, 3), (20, .aload_n 0, 1), (21, .getfield 167, 3), (24, .ireturn, 1)]
theorem dX7_back : dOk cX7_back tX7_back = true := by decide +kernel
abbrev rX7_back : Room := { frames := 0, cells := 0, slots := 0, locals := 0 }
def wX7_back (σ : Mem) (Q : Int32 → Mem → Prop) : Prop := (((¬ (σ 0 12) = 0) → (∀ σ17 : Mem, σ17 = um σ 0 12 ((σ 0 12) - (1 : Int32)) → (Q (σ17 0 12) σ17))) ∧ (((σ 0 12) = 0) → (Q (-3 : Int32) σ)))
set_option maxHeartbeats 4000000 in
set_option maxRecDepth 100000 in
theorem kX7_back (l : Launch) (E : wE) (hE : wM E) (σ : Mem) (Q : Int32 → Mem → Prop) (h : wX7_back  σ Q) : Met l yX7_back (Cond.code yX7_back cX7_back 1 (some .int) :: TB) rX7_back (wPc E σ [.ref (gE E 0)]) (wQi E Q) 0 0 (wA E) := by
  refine wMet (by decide) hE.2.2 (Nat.le_of_ble_eq_true rfl) ?_
  intro p e s m args below meth c ls C hr hlk hl hw
  have hx := C.1.1
  have hb := C.1.2.1
  replace C : Cx p s m args c cX7_back 1 RX7 E (wA E) := C
  replace hl : lv_has ls 1 [(0, .ref (gE E 0))] := hl
  unfold wX7_back at h
  refine lv_aload_n hx hb (dAt dX7_back 0 rfl) rfl (lv_at hl 0 rfl) ?_
  refine x_geti C hw fl_X7_167 (hE.1 0) (nM hE (by decide)) rfl (dAt dX7_back 1 rfl) ?_
  refine lv_if_ne (tgt := 10) hx hb (dAt dX7_back 2 rfl) (by decide) (fun c4 => ?_) (fun c4 => ?_)
  · replace h := h.1 c4
    refine lv_aload_n hx hb (dAt dX7_back 5 rfl) rfl (lv_at hl 0 rfl) ?_
    refine lv_dup hx hb (dAt dX7_back 6 rfl) rfl ?_
    refine x_geti C hw fl_X7_167 (hE.1 0) (nM hE (by decide)) rfl (dAt dX7_back 7 rfl) ?_
    refine lv_iconst (v := 1) hx hb (dAt dX7_back 8 rfl) (by decide) ?_
    refine lv_isub hx hb (dAt dX7_back 9 rfl) ?_
    refine x_pf C hw fl_X7_167 (hE.1 0) (nM hE (by decide)) rfl rfl rfl (dAt dX7_back 10 rfl) (fun σ17 H locs eσ17 hw => ?_)
    replace h := h σ17 eσ17
    refine lv_aload_n hx hb (dAt dX7_back 11 rfl) rfl (lv_at hl 0 rfl) ?_
    refine x_geti C hw fl_X7_167 (hE.1 0) (nM hE (by decide)) rfl (dAt dX7_back 12 rfl) ?_
    exact x_iret C hw hr hlk h (dAt dX7_back 13 rfl)
  · replace h := h.2 c4
    refine lv_bipush (v := -3) hx hb (dAt dX7_back 3 rfl) (by decide) ?_
    exact x_iret C hw hr hlk h (dAt dX7_back 4 rfl)
def tX7_read : List (Nat × Instr × Nat) := [(0, .iload_n 1, 1), (1, .invokestatic 97, 3), (4, .ifCond .ne 6, 3), (7, .bipush (-2), 2), (9, .ireturn, 1), (10, .aload_n 0, 1), (11, .getfield 7, 3), (14, .iload_n 1, 1), (15, .iaload, 1), (16, .ifCond .ge 9, 3), (19, .aload_n 0, 1), (20, .iconst 1, 1), (21, .invokevirtual 103, 3), (24, .ireturn, 1), (25, .iconst 0, 1), (26, .istore_n 2, 1), (27, .iconst 1, 1), (28, .istore_n 3, 1), (29, .iload_n 3, 1), (30, .ifCond .eq 80, 3), (33, .iconst 3, 1), (34, .iload_n 2, 1), (35, .imul, 1), (36, .iconst 3, 1), (37, .iadd, 1), (38, .aload_n 0, 1), (39, .getfield 13, 3), (42, .iload_n 1, 1), (43, .iaload, 1), (44, .if_icmp .gt 66, 3), (47, .bipush 60, 2), (49, .iload_n 1, 1), (50, .imul, 1), (51, .iconst 3, 1), (52, .iload_n 2, 1), (53, .imul, 1), (54, .iadd, 1), (55, .istore 4, 2), (57, .aload_n 0, 1), (58, .aload_n 0, 1), (59, .getfield 16, 3), (62, .iload 4, 2), (64, .iaload, 1), (65, .aload_n 0, 1), (66, .getfield 16, 3), (69, .iload 4, 2), (71, .iconst 1, 1), (72, .iadd, 1), (73, .iaload, 1), (74, .aload_n 0, 1), (75, .getfield 16, 3), (78, .iload 4, 2), (80, .iconst 2, 1), (81, .iadd, 1), (82, .iaload, 1), (83, .invokevirtual 170, 3), (86, .ifCond .lt 7, 3), (89, .iconst 1, 1), (90, .goto 4, 3), (93, .iconst 0, 1), (94, .istore_n 3, 1), (95, .iload_n 2, 1), (96, .iload_n 3, 1), (97, .ifCond .eq 7, 3), (100, .iconst 1, 1), (101, .goto 4, 3), (104, .iconst 0, 1), (105, .iadd, 1), (106, .istore_n 2, 1), (107, .goto (-78), 3), (110, .iload_n 2, 1), (111, .ireturn, 1)]
theorem dX7_read : dOk cX7_read tX7_read = true := by decide +kernel
abbrev rX7_read : Room := { frames := 3, cells := 0, slots := 0, locals := 68 }
def wX7_read_29 (Q : Int32 → Mem → Prop) : Nat → Int32 → Int32 → Int32 → Mem → Prop
  | 0, _, _, _, _ => False
  | n + 1, x1, x2, x3, σ => (((x3 = 0) → (Q x2 σ)) ∧ ((¬ x3 = 0) → (vp_in x1 4 ∧ ((((σ 2 (x1).toNatClampNeg) < (((3 : Int32) * x2) + (3 : Int32))) → (Q x2 σ)) ∧ ((¬ (σ 2 (x1).toNatClampNeg) < (((3 : Int32) * x2) + (3 : Int32))) → (∀ x4_55 : Int32, x4_55 = (((60 : Int32) * x1) + ((3 : Int32) * x2)) → (vp_in x4_55 240 ∧ (vp_in (x4_55 + (1 : Int32)) 240 ∧ (vp_in (x4_55 + (2 : Int32)) 240 ∧ (wX7_event (σ 3 (x4_55).toNatClampNeg) (σ 3 ((x4_55 + (1 : Int32))).toNatClampNeg) (σ 3 ((x4_55 + (2 : Int32))).toNatClampNeg) σ (fun r83 σ83 => (∀ x3_94 : Int32, x3_94 = (if r83 < 0 then (0 : Int32) else (1 : Int32)) → (∀ x2_106 : Int32, x2_106 = (x2 + (if x3_94 = 0 then (0 : Int32) else (1 : Int32))) → (wX7_read_29 Q n x1 x2_106 x3_94 σ83))))))))))))))
def wX7_read (x1 : Int32) (σ : Mem) (Q : Int32 → Mem → Prop) : Prop := (wX7_isSheet x1 σ (fun r1 σ1 => (((¬ r1 = 0) → (vp_in x1 4 ∧ (((0 ≤ (σ1 1 (x1).toNatClampNeg)) → (∃ N29, wX7_read_29 Q N29 x1 (0 : Int32) (1 : Int32) σ1)) ∧ ((¬ 0 ≤ (σ1 1 (x1).toNatClampNeg)) → (wX7_finds (1 : Int32) σ1 (fun r21 σ21 => (Q r21 σ21))))))) ∧ ((r1 = 0) → (Q (-2 : Int32) σ1)))))
set_option maxHeartbeats 4000000 in
set_option maxRecDepth 100000 in
theorem kX7_read_29 {p : Program} {l : Launch} {e : Env} {s : State} {m : MethodId} {args : Array Value} {below : List Frame} {meth : Method} {c : Code} {E : wE} (hE : wM E) (C : Cx p s m args c cX7_read 5 RX7 E (wA E)) (hr : meth.sig.returnType = (some .int)) (hlk : meth.locks = false) {Q : Int32 → Mem → Prop} : ∀ (n : Nat) (x1 : Int32) (x2 : Int32) (x3 : Int32) (σ : Mem) (H : Heap) (locs : List Loc) (ls : Array Slot), wd E (wA E) s σ H locs → lv_has ls 5 [(0, .ref (gE E 0)), (1, .int x1), (2, .int x2), (3, .int x3)] → wX7_read_29 Q n x1 x2 x3 σ → W p l e rX7_read s m args below meth c H locs 0 0 (MQ below (wQi E Q) args s 0 0 (wA E)) (F0 m 29 ls []) := by
  have hx := C.1.1
  have hb := C.1.2.1
  intro n
  induction n with
  | zero =>
    intro x1 x2 x3 σ  H locs ls hw hl h
    exact h.elim
  | succ n ih =>
    intro x1 x2 x3 σ  H locs ls hw hl h
    rw [wX7_read_29] at h
    refine lv_iload_n hx hb (dAt dX7_read 18 rfl) rfl (lv_at hl 3 rfl) ?_
    refine lv_if_eq (tgt := 110) hx hb (dAt dX7_read 19 rfl) (by decide) (fun c30 => ?_) (fun c30 => ?_)
    · replace h := h.1 c30
      refine lv_iload_n hx hb (dAt dX7_read 70 rfl) rfl (lv_at hl 2 rfl) ?_
      exact x_iret C hw hr hlk h (dAt dX7_read 71 rfl)
    · replace h := h.2 c30
      refine lv_iconst (v := 3) hx hb (dAt dX7_read 20 rfl) (by decide) ?_
      refine lv_iload_n hx hb (dAt dX7_read 21 rfl) rfl (lv_at hl 2 rfl) ?_
      refine lv_imul hx hb (dAt dX7_read 22 rfl) ?_
      refine lv_iconst (v := 3) hx hb (dAt dX7_read 23 rfl) (by decide) ?_
      refine lv_iadd hx hb (dAt dX7_read 24 rfl) ?_
      refine lv_aload_n hx hb (dAt dX7_read 25 rfl) rfl (lv_at hl 0 rfl) ?_
      refine x_getr C hw fl_X7_13 (hE.1 0) (nM hE (by decide)) rfl (dAt dX7_read 26 rfl) ?_
      refine lv_iload_n hx hb (dAt dX7_read 27 rfl) rfl (lv_at hl 1 rfl) ?_
      obtain ⟨z43, h⟩ := h
      refine x_ild C hw (hE.1 2) (nM hE (by decide)) z43 rfl (dAt dX7_read 28 rfl) ?_
      refine lv_icmp_gt (tgt := 110) hx hb (dAt dX7_read 29 rfl) (by decide) (fun c44 => ?_) (fun c44 => ?_)
      · replace h := h.1 c44
        refine lv_iload_n hx hb (dAt dX7_read 70 rfl) rfl (lv_at hl 2 rfl) ?_
        exact x_iret C hw hr hlk h (dAt dX7_read 71 rfl)
      · replace h := h.2 c44
        refine lv_bipush (v := 60) hx hb (dAt dX7_read 30 rfl) (by decide) ?_
        refine lv_iload_n hx hb (dAt dX7_read 31 rfl) rfl (lv_at hl 1 rfl) ?_
        refine lv_imul hx hb (dAt dX7_read 32 rfl) ?_
        refine lv_iconst (v := 3) hx hb (dAt dX7_read 33 rfl) (by decide) ?_
        refine lv_iload_n hx hb (dAt dX7_read 34 rfl) rfl (lv_at hl 2 rfl) ?_
        refine lv_imul hx hb (dAt dX7_read 35 rfl) ?_
        refine lv_iadd hx hb (dAt dX7_read 36 rfl) ?_
        refine lv_topi (fun x4_55 ex4_55 => ?_)
        replace h := h x4_55 ex4_55
        refine lv_istore (lv' := [(4, .int x4_55), (0, .ref (gE E 0)), (1, .int x1), (2, .int x2), (3, .int x3)]) hx hb (dAt dX7_read 37 rfl) hl (by decide) rfl (fun ls hl => ?_)
        refine lv_aload_n hx hb (dAt dX7_read 38 rfl) rfl (lv_at hl 1 rfl) ?_
        refine lv_aload_n hx hb (dAt dX7_read 39 rfl) rfl (lv_at hl 1 rfl) ?_
        refine x_getr C hw fl_X7_16 (hE.1 0) (nM hE (by decide)) rfl (dAt dX7_read 40 rfl) ?_
        refine lv_iload hx hb (dAt dX7_read 41 rfl) (lv_at hl 0 rfl) ?_
        obtain ⟨z64, h⟩ := h
        refine x_ild C hw (hE.1 3) (nM hE (by decide)) z64 rfl (dAt dX7_read 42 rfl) ?_
        refine lv_aload_n hx hb (dAt dX7_read 43 rfl) rfl (lv_at hl 1 rfl) ?_
        refine x_getr C hw fl_X7_16 (hE.1 0) (nM hE (by decide)) rfl (dAt dX7_read 44 rfl) ?_
        refine lv_iload hx hb (dAt dX7_read 45 rfl) (lv_at hl 0 rfl) ?_
        refine lv_iconst (v := 1) hx hb (dAt dX7_read 46 rfl) (by decide) ?_
        refine lv_iadd hx hb (dAt dX7_read 47 rfl) ?_
        obtain ⟨z73, h⟩ := h
        refine x_ild C hw (hE.1 3) (nM hE (by decide)) z73 rfl (dAt dX7_read 48 rfl) ?_
        refine lv_aload_n hx hb (dAt dX7_read 49 rfl) rfl (lv_at hl 1 rfl) ?_
        refine x_getr C hw fl_X7_16 (hE.1 0) (nM hE (by decide)) rfl (dAt dX7_read 50 rfl) ?_
        refine lv_iload hx hb (dAt dX7_read 51 rfl) (lv_at hl 0 rfl) ?_
        refine lv_iconst (v := 2) hx hb (dAt dX7_read 52 rfl) (by decide) ?_
        refine lv_iadd hx hb (dAt dX7_read 53 rfl) ?_
        obtain ⟨z82, h⟩ := h
        refine x_ild C hw (hE.1 3) (nM hE (by decide)) z82 rfl (dAt dX7_read 54 rfl) ?_
        refine x_calli C hw (x_runV (As := [.int (σ 3 (x4_55).toNatClampNeg), .int (σ 3 ((x4_55 + (1 : Int32))).toNatClampNeg), .int (σ 3 ((x4_55 + (2 : Int32))).toNatClampNeg)]) (rest := []) C hw (kX7_event l E hE (σ 3 (x4_55).toNatClampNeg) (σ 3 ((x4_55 + (1 : Int32))).toNatClampNeg) (σ 3 ((x4_55 + (2 : Int32))).toNatClampNeg) σ _ h) mtX7_event lk_X7_170 (hE.1 0) (nM hE (by decide)) rfl ⟨by decide, by decide⟩ ⟨rfl, rfl⟩ rfl hl.1 rfl (Nat.le_of_ble_eq_true rfl) (dAt dX7_read 55 rfl) ⟨Nat.zero_le _, Nat.zero_le _⟩) (fun r83 σ83 H locs h hw => ?_)
        refine x_dia (ls := ls) (pcJ := 94) (cnd := r83 < 0) (a := (0 : Int32)) (b := (1 : Int32)) ([]) ?_ (fun ht86 hf86 => ?_)
        · refine lv_topi (fun x3_94 ex3_94 => ?_)
          replace h := h x3_94 ex3_94
          refine lv_istore_n (lv' := [(3, .int x3_94), (4, .int x4_55), (0, .ref (gE E 0)), (1, .int x1), (2, .int x2)]) hx hb (dAt dX7_read 60 rfl) rfl hl (by decide) rfl (fun ls hl => ?_)
          refine lv_iload_n hx hb (dAt dX7_read 61 rfl) rfl (lv_at hl 4 rfl) ?_
          refine lv_iload_n hx hb (dAt dX7_read 62 rfl) rfl (lv_at hl 0 rfl) ?_
          refine x_dia (ls := ls) (pcJ := 105) (cnd := x3_94 = 0) (a := (0 : Int32)) (b := (1 : Int32)) ([.int x2]) ?_ (fun ht97 hf97 => ?_)
          · refine lv_iadd hx hb (dAt dX7_read 67 rfl) ?_
            refine lv_topi (fun x2_106 ex2_106 => ?_)
            replace h := h x2_106 ex2_106
            refine lv_istore_n (lv' := [(2, .int x2_106), (3, .int x3_94), (4, .int x4_55), (0, .ref (gE E 0)), (1, .int x1)]) hx hb (dAt dX7_read 68 rfl) rfl hl (by decide) rfl (fun ls hl => ?_)
            refine lv_goto (tgt := 29) hx hb (dAt dX7_read 69 rfl) (by decide) ?_
            exact ih x1 x2_106 x3_94 σ83  _ _ _ hw (lv_sub hl [3, 4, 0, 1] rfl) h
          · refine lv_if_eq (tgt := 104) hx hb (dAt dX7_read 63 rfl) (by decide) (fun c97 => ?_) (fun c97 => ?_)
            · refine lv_iconst (v := 0) hx hb (dAt dX7_read 66 rfl) (by decide) ?_
              exact ht97 c97
            · refine lv_iconst (v := 1) hx hb (dAt dX7_read 64 rfl) (by decide) ?_
              refine lv_goto (tgt := 105) hx hb (dAt dX7_read 65 rfl) (by decide) ?_
              exact hf97 c97
        · refine lv_if_lt (tgt := 93) hx hb (dAt dX7_read 56 rfl) (by decide) (fun c86 => ?_) (fun c86 => ?_)
          · refine lv_iconst (v := 0) hx hb (dAt dX7_read 59 rfl) (by decide) ?_
            exact ht86 c86
          · refine lv_iconst (v := 1) hx hb (dAt dX7_read 57 rfl) (by decide) ?_
            refine lv_goto (tgt := 94) hx hb (dAt dX7_read 58 rfl) (by decide) ?_
            exact hf86 c86
set_option maxHeartbeats 4000000 in
set_option maxRecDepth 100000 in
theorem kX7_read (l : Launch) (E : wE) (hE : wM E) (x1 : Int32) (σ : Mem) (Q : Int32 → Mem → Prop) (h : wX7_read x1 σ Q) : Met l yX7_read (Cond.code yX7_read cX7_read 5 (some .int) :: TB) rX7_read (wPc E σ [.ref (gE E 0), .int x1]) (wQi E Q) 0 0 (wA E) := by
  refine wMet (by decide) hE.2.2 (Nat.le_of_ble_eq_true rfl) ?_
  intro p e s m args below meth c ls C hr hlk hl hw
  have hx := C.1.1
  have hb := C.1.2.1
  replace C : Cx p s m args c cX7_read 5 RX7 E (wA E) := C
  replace hl : lv_has ls 5 [(0, .ref (gE E 0)), (1, .int x1)] := hl
  unfold wX7_read at h
  refine lv_iload_n hx hb (dAt dX7_read 0 rfl) rfl (lv_at hl 1 rfl) ?_
  refine x_calli C hw (x_runS (As := [.int x1]) (rest := []) C hw (kX7_isSheet l E hE x1 σ _ h) mtX7_isSheet lk_X7_97 ⟨by decide, by decide⟩ ⟨rfl, rfl⟩ rfl hl.1 rfl (Nat.le_of_ble_eq_true rfl) (dAt dX7_read 1 rfl) ⟨Nat.zero_le _, Nat.zero_le _⟩) (fun r1 σ1 H locs h hw => ?_)
  refine lv_if_ne (tgt := 10) hx hb (dAt dX7_read 2 rfl) (by decide) (fun c4 => ?_) (fun c4 => ?_)
  · replace h := h.1 c4
    refine lv_aload_n hx hb (dAt dX7_read 5 rfl) rfl (lv_at hl 0 rfl) ?_
    refine x_getr C hw fl_X7_7 (hE.1 0) (nM hE (by decide)) rfl (dAt dX7_read 6 rfl) ?_
    refine lv_iload_n hx hb (dAt dX7_read 7 rfl) rfl (lv_at hl 1 rfl) ?_
    obtain ⟨z15, h⟩ := h
    refine x_ild C hw (hE.1 1) (nM hE (by decide)) z15 rfl (dAt dX7_read 8 rfl) ?_
    refine lv_if_ge (tgt := 25) hx hb (dAt dX7_read 9 rfl) (by decide) (fun c16 => ?_) (fun c16 => ?_)
    · replace h := h.1 c16
      refine lv_iconst (v := 0) hx hb (dAt dX7_read 14 rfl) (by decide) ?_
      refine lv_istore_n (lv' := [(2, .int (0 : Int32)), (0, .ref (gE E 0)), (1, .int x1)]) hx hb (dAt dX7_read 15 rfl) rfl hl (by decide) rfl (fun ls hl => ?_)
      refine lv_iconst (v := 1) hx hb (dAt dX7_read 16 rfl) (by decide) ?_
      refine lv_istore_n (lv' := [(3, .int (1 : Int32)), (2, .int (0 : Int32)), (0, .ref (gE E 0)), (1, .int x1)]) hx hb (dAt dX7_read 17 rfl) rfl hl (by decide) rfl (fun ls hl => ?_)
      obtain ⟨n29, h⟩ := h
      exact kX7_read_29 hE C hr hlk n29 x1 (0 : Int32) (1 : Int32) σ1  _ _ _ hw (lv_sub hl [2, 3, 1, 0] rfl) h
    · replace h := h.2 c16
      refine lv_aload_n hx hb (dAt dX7_read 10 rfl) rfl (lv_at hl 0 rfl) ?_
      refine lv_iconst (v := 1) hx hb (dAt dX7_read 11 rfl) (by decide) ?_
      refine x_calli C hw (x_runV (As := [.int (1 : Int32)]) (rest := []) C hw (kX7_finds l E hE (1 : Int32) σ1 _ h) mtX7_finds lk_X7_103 (hE.1 0) (nM hE (by decide)) rfl ⟨by decide, by decide⟩ ⟨rfl, rfl⟩ rfl hl.1 rfl (Nat.le_of_ble_eq_true rfl) (dAt dX7_read 12 rfl) ⟨Nat.zero_le _, Nat.zero_le _⟩) (fun r21 σ21 H locs h hw => ?_)
      exact x_iret C hw hr hlk h (dAt dX7_read 13 rfl)
  · replace h := h.2 c4
    refine lv_bipush (v := -2) hx hb (dAt dX7_read 3 rfl) (by decide) ?_
    exact x_iret C hw hr hlk h (dAt dX7_read 4 rfl)
