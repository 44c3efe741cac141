def tX7_in : List (Nat × Instr × Nat) := [(0, .lload_n 0, 1), (1, .lload_n 2, 1), (2, .lcmp, 1), (3, .ifCond .lt 14, 3), (6, .lload_n 0, 1), (7, .lload 4, 2), (9, .lcmp, 1), (10, .ifCond .gt 7, 3), (13, .iconst 1, 1), (14, .goto 4, 3), (17, .iconst 0, 1), (18, .ireturn, 1)]
theorem dX7_in : dOk cX7_in tX7_in = true := by decide +kernel
abbrev rX7_in : Room := { frames := 0, cells := 0, slots := 0, locals := 0 }
def wX7_in (x0 : Int64) (x2 : Int64) (x4 : Int64) (σ : Mem) (Q : Int32 → Mem → Prop) : Prop := (((x0 < x2) → (Q (0 : Int32) σ)) ∧ ((¬ x0 < x2) → (((x4 < x0) → (Q (0 : Int32) σ)) ∧ ((¬ x4 < x0) → (Q (1 : Int32) σ)))))
set_option maxHeartbeats 4000000 in
set_option maxRecDepth 100000 in
theorem kX7_in (l : Launch) (E : wE) (hE : wM E) (x0 : Int64) (x2 : Int64) (x4 : Int64) (σ : Mem) (Q : Int32 → Mem → Prop) (h : wX7_in x0 x2 x4 σ Q) : Met l yX7_in (Cond.code yX7_in cX7_in 6 (some .boolean) :: TB) rX7_in (wPc E σ [.long x0, .long x2, .long x4]) (wQi E Q) 0 0 (wA E) := by
  refine wMet (by decide) hE.2.2 (Nat.le_of_ble_eq_true rfl) ?_
  intro p e s m args below meth c ls C hr hlk hl hw
  have hx := C.1.1
  have hb := C.1.2.1
  replace C : Cx p s m args c cX7_in 6 RX7 E (wA E) := C
  replace hl : lv_has ls 6 [(0, .long x0), (2, .long x2), (4, .long x4)] := hl
  unfold wX7_in at h
  refine lv_lload_n hx hb (dAt dX7_in 0 rfl) rfl (lv_at hl 0 rfl) ?_
  refine lv_lload_n hx hb (dAt dX7_in 1 rfl) rfl (lv_at hl 1 rfl) ?_
  refine W.lcmp hx hb (dAt dX7_in 2 rfl) ?_
  refine lv_if_lt (tgt := 17) hx hb (dAt dX7_in 3 rfl) (by decide) (fun c3 => ?_) (fun c3 => ?_)
  · replace h := h.1 ((lg_cmp_lt _ _).mp c3)
    refine lv_iconst (v := 0) hx hb (dAt dX7_in 10 rfl) (by decide) ?_
    exact x_zret C hw hr hlk rfl h (dAt dX7_in 11 rfl)
  · replace h := h.2 (fun z => c3 ((lg_cmp_lt _ _).mpr z))
    refine lv_lload_n hx hb (dAt dX7_in 4 rfl) rfl (lv_at hl 0 rfl) ?_
    refine lv_lload hx hb (dAt dX7_in 5 rfl) (lv_at hl 2 rfl) ?_
    refine W.lcmp hx hb (dAt dX7_in 6 rfl) ?_
    refine lv_if_gt (tgt := 17) hx hb (dAt dX7_in 7 rfl) (by decide) (fun c10 => ?_) (fun c10 => ?_)
    · replace h := h.1 ((lg_cmp_gt _ _).mp c10)
      refine lv_iconst (v := 0) hx hb (dAt dX7_in 10 rfl) (by decide) ?_
      exact x_zret C hw hr hlk rfl h (dAt dX7_in 11 rfl)
    · replace h := h.2 (fun z => c10 ((lg_cmp_gt _ _).mpr z))
      refine lv_iconst (v := 1) hx hb (dAt dX7_in 8 rfl) (by decide) ?_
      refine lv_goto (tgt := 18) hx hb (dAt dX7_in 9 rfl) (by decide) ?_
      exact x_zret C hw hr hlk rfl h (dAt dX7_in 11 rfl)
def tX7_isTwo : List (Nat × Instr × Nat) := [(0, .iload_n 0, 1), (1, .i2l, 1), (2, .lconst 0, 1), (3, .lconst 1, 1), (4, .invokestatic 88, 3), (7, .ireturn, 1)]
theorem dX7_isTwo : dOk cX7_isTwo tX7_isTwo = true := by decide +kernel
abbrev rX7_isTwo : Room := { frames := 1, cells := 0, slots := 0, locals := 25 }
def wX7_isTwo (x0 : Int32) (σ : Mem) (Q : Int32 → Mem → Prop) : Prop := (wX7_in ((x0).toInt64) (0 : Int64) (1 : Int64) σ (fun r4 σ4 => (bz r4 ∧ Q r4 σ4)))
set_option maxHeartbeats 4000000 in
set_option maxRecDepth 100000 in
theorem kX7_isTwo (l : Launch) (E : wE) (hE : wM E) (x0 : Int32) (σ : Mem) (Q : Int32 → Mem → Prop) (h : wX7_isTwo x0 σ Q) : Met l yX7_isTwo (Cond.code yX7_isTwo cX7_isTwo 1 (some .boolean) :: TB) rX7_isTwo (wPc E σ [.int x0]) (wQi E Q) 0 0 (wA E) := by
  refine wMet (by decide) hE.2.2 (Nat.le_of_ble_eq_true rfl) ?_
  intro p e s m args below meth c ls C hr hlk hl hw
  have hx := C.1.1
  have hb := C.1.2.1
  replace C : Cx p s m args c cX7_isTwo 1 RX7 E (wA E) := C
  replace hl : lv_has ls 1 [(0, .int x0)] := hl
  unfold wX7_isTwo at h
  refine lv_iload_n hx hb (dAt dX7_isTwo 0 rfl) rfl (lv_at hl 0 rfl) ?_
  refine lv_i2l hx hb (dAt dX7_isTwo 1 rfl) rfl ?_
  refine lv_lconst (v := 0) hx hb (dAt dX7_isTwo 2 rfl) (by decide) ?_
  refine lv_lconst (v := 1) hx hb (dAt dX7_isTwo 3 rfl) (by decide) ?_
  refine x_calli C hw (x_runS (As := [.long ((x0).toInt64), .long (0 : Int64), .long (1 : Int64)]) (rest := []) C hw (kX7_in l E hE ((x0).toInt64) (0 : Int64) (1 : Int64) σ _ h) mtX7_in lk_X7_88 ⟨by decide, by decide⟩ ⟨rfl, rfl⟩ rfl hl.1 rfl (by decide) (dAt dX7_isTwo 4 rfl) ⟨Nat.zero_le _, Nat.zero_le _⟩) (fun r4 σ4 H locs h hw => ?_)
  exact x_zret C hw hr hlk h.1 h.2 (dAt dX7_isTwo 5 rfl)
def tX7_isIn : List (Nat × Instr × Nat) := [(0, .iload_n 0, 1), (1, .iload_n 1, 1), (2, .ishr, 1), (3, .iconst 1, 1), (4, .iand, 1), (5, .iconst 1, 1), (6, .if_icmp .ne 7, 3), (9, .iconst 1, 1), (10, .goto 4, 3), (13, .iconst 0, 1), (14, .ireturn, 1)]
theorem dX7_isIn : dOk cX7_isIn tX7_isIn = true := by decide +kernel
abbrev rX7_isIn : Room := { frames := 0, cells := 0, slots := 0, locals := 0 }
def wX7_isIn (x0 : Int32) (x1 : Int32) (σ : Mem) (Q : Int32 → Mem → Prop) : Prop := (bz (if ((x0 >>> (x1 &&& 31)) &&& (1 : Int32)) = (1 : Int32) then (1 : Int32) else (0 : Int32)) ∧ Q (if ((x0 >>> (x1 &&& 31)) &&& (1 : Int32)) = (1 : Int32) then (1 : Int32) else (0 : Int32)) σ)
set_option maxHeartbeats 4000000 in
set_option maxRecDepth 100000 in
theorem kX7_isIn (l : Launch) (E : wE) (hE : wM E) (x0 : Int32) (x1 : Int32) (σ : Mem) (Q : Int32 → Mem → Prop) (h : wX7_isIn x0 x1 σ Q) : Met l yX7_isIn (Cond.code yX7_isIn cX7_isIn 2 (some .boolean) :: TB) rX7_isIn (wPc E σ [.int x0, .int x1]) (wQi E Q) 0 0 (wA E) := by
  refine wMet (by decide) hE.2.2 (Nat.le_of_ble_eq_true rfl) ?_
  intro p e s m args below meth c ls C hr hlk hl hw
  have hx := C.1.1
  have hb := C.1.2.1
  replace C : Cx p s m args c cX7_isIn 2 RX7 E (wA E) := C
  replace hl : lv_has ls 2 [(0, .int x0), (1, .int x1)] := hl
  unfold wX7_isIn at h
  refine lv_iload_n hx hb (dAt dX7_isIn 0 rfl) rfl (lv_at hl 0 rfl) ?_
  refine lv_iload_n hx hb (dAt dX7_isIn 1 rfl) rfl (lv_at hl 1 rfl) ?_
  refine lv_ishr hx hb (dAt dX7_isIn 2 rfl) ?_
  refine lv_iconst (v := 1) hx hb (dAt dX7_isIn 3 rfl) (by decide) ?_
  refine lv_iand hx hb (dAt dX7_isIn 4 rfl) ?_
  refine lv_iconst (v := 1) hx hb (dAt dX7_isIn 5 rfl) (by decide) ?_
  refine x_dia (ls := ls) (pcJ := 14) (cnd := ((x0 >>> (x1 &&& 31)) &&& (1 : Int32)) = (1 : Int32)) (a := (1 : Int32)) (b := (0 : Int32)) ([]) ?_ (fun ht6 hf6 => ?_)
  · exact x_zret C hw hr hlk h.1 h.2 (dAt dX7_isIn 10 rfl)
  · refine lv_icmp_ne (tgt := 13) hx hb (dAt dX7_isIn 6 rfl) (by decide) (fun c6 => ?_) (fun c6 => ?_)
    · refine lv_iconst (v := 0) hx hb (dAt dX7_isIn 9 rfl) (by decide) ?_
      exact hf6 c6
    · refine lv_iconst (v := 1) hx hb (dAt dX7_isIn 7 rfl) (by decide) ?_
      refine lv_goto (tgt := 14) hx hb (dAt dX7_isIn 8 rfl) (by decide) ?_
      exact ht6 c6
def tX7_part : List (Nat × Instr × Nat) := [(0, .lload_n 0, 1), (1, .lstore 5, 2), (3, .lload_n 2, 1), (4, .lstore 7, 2), (6, .lload 7, 2), (8, .lconst 0, 1), (9, .lcmp, 1), (10, .ifCond .eq 21, 3), (13, .lload 5, 2), (15, .lload 7, 2), (17, .lrem, 1), (18, .lstore 9, 2), (20, .lload 7, 2), (22, .lstore 5, 2), (24, .lload 9, 2), (26, .lstore 7, 2), (28, .goto (-22), 3), (31, .iload 4, 2), (33, .ifCond .ne 7, 3), (36, .lload_n 0, 1), (37, .goto 4, 3), (40, .lload_n 2, 1), (41, .lload 5, 2), (43, .ldiv, 1), (44, .lreturn, 1)]
theorem dX7_part : dOk cX7_part tX7_part = true := by decide +kernel
abbrev rX7_part : Room := { frames := 0, cells := 0, slots := 0, locals := 0 }
def wX7_part_31 (Q : Int64 → Mem → Prop) (x0 : Int64) (x2 : Int64) (x4 : Int32) (x5 : Int64) (σ : Mem) : Prop := (((¬ x4 = 0) → (¬ x5 = 0 ∧ (Q (x2 / x5) σ))) ∧ ((x4 = 0) → (¬ x5 = 0 ∧ (Q (x0 / x5) σ))))
def wX7_part_6 (Q : Int64 → Mem → Prop) : Nat → Int64 → Int64 → Int32 → Int64 → Int64 → Mem → Prop
  | 0, _, _, _, _, _, _ => False
  | n + 1, x0, x2, x4, x5, x7, σ => (((x7 = (0 : Int64)) → (wX7_part_31 Q x0 x2 x4 x5 σ)) ∧ ((¬ x7 = (0 : Int64)) → (¬ x7 = 0 ∧ (∀ x9_18 : Int64, x9_18 = (x5 - x5 / x7 * x7) → (wX7_part_6 Q n x0 x2 x4 x7 x9_18 σ)))))
def wX7_part (x0 : Int64) (x2 : Int64) (x4 : Int32) (σ : Mem) (Q : Int64 → Mem → Prop) : Prop := (∃ n, wX7_part_6 Q n x0 x2 x4 x0 x2 σ)
set_option maxHeartbeats 4000000 in
set_option maxRecDepth 100000 in
theorem kX7_part_31 {p : Program} {l : Launch} {e : Env} {s : State} {m : MethodId} {args : Array Value} {below : List Frame} {meth : Method} {c : Code} {E : wE} (hE : wM E) (C : Cx p s m args c cX7_part 11 RX7 E (wA E)) (hr : meth.sig.returnType = (some .long)) (hlk : meth.locks = false) {Q : Int64 → Mem → Prop} : ∀ (x0 : Int64) (x2 : Int64) (x4 : Int32) (x5 : Int64) (σ : Mem) (H : Heap) (locs : List Loc) (ls : Array Slot), wd E (wA E) s σ H locs → lv_has ls 11 [(0, .long x0), (2, .long x2), (4, .int x4), (5, .long x5)] → wX7_part_31 Q x0 x2 x4 x5 σ → W p l e rX7_part s m args below meth c H locs 0 0 (MQ below (wQl E Q) args s 0 0 (wA E)) (F0 m 31 ls []) := by
  have hx := C.1.1
  have hb := C.1.2.1
  intro x0 x2 x4 x5 σ  H locs ls hw hl h
  unfold wX7_part_31 at h
  refine lv_iload hx hb (dAt dX7_part 17 rfl) (lv_at hl 2 rfl) ?_
  refine lv_if_ne (tgt := 40) hx hb (dAt dX7_part 18 rfl) (by decide) (fun c33 => ?_) (fun c33 => ?_)
  · replace h := h.1 c33
    refine lv_lload_n hx hb (dAt dX7_part 21 rfl) rfl (lv_at hl 1 rfl) ?_
    refine lv_lload hx hb (dAt dX7_part 22 rfl) (lv_at hl 3 rfl) ?_
    obtain ⟨z43, h⟩ := h
    refine lv_ldiv hx hb (dAt dX7_part 23 rfl) z43 ?_
    exact x_lret C hw hr hlk h (dAt dX7_part 24 rfl)
  · replace h := h.2 c33
    refine lv_lload_n hx hb (dAt dX7_part 19 rfl) rfl (lv_at hl 0 rfl) ?_
    refine lv_goto (tgt := 41) hx hb (dAt dX7_part 20 rfl) (by decide) ?_
    refine lv_lload hx hb (dAt dX7_part 22 rfl) (lv_at hl 3 rfl) ?_
    obtain ⟨z43, h⟩ := h
    refine lv_ldiv hx hb (dAt dX7_part 23 rfl) z43 ?_
    exact x_lret C hw hr hlk h (dAt dX7_part 24 rfl)
set_option maxHeartbeats 4000000 in
set_option maxRecDepth 100000 in
theorem kX7_part_6 {p : Program} {l : Launch} {e : Env} {s : State} {m : MethodId} {args : Array Value} {below : List Frame} {meth : Method} {c : Code} {E : wE} (hE : wM E) (C : Cx p s m args c cX7_part 11 RX7 E (wA E)) (hr : meth.sig.returnType = (some .long)) (hlk : meth.locks = false) {Q : Int64 → Mem → Prop} : ∀ (n : Nat) (x0 : Int64) (x2 : Int64) (x4 : Int32) (x5 : Int64) (x7 : Int64) (σ : Mem) (H : Heap) (locs : List Loc) (ls : Array Slot), wd E (wA E) s σ H locs → lv_has ls 11 [(0, .long x0), (2, .long x2), (4, .int x4), (5, .long x5), (7, .long x7)] → wX7_part_6 Q n x0 x2 x4 x5 x7 σ → W p l e rX7_part s m args below meth c H locs 0 0 (MQ below (wQl E Q) args s 0 0 (wA E)) (F0 m 6 ls []) := by
  have hx := C.1.1
  have hb := C.1.2.1
  intro n
  induction n with
  | zero =>
    intro x0 x2 x4 x5 x7 σ  H locs ls hw hl h
    exact h.elim
  | succ n ih =>
    intro x0 x2 x4 x5 x7 σ  H locs ls hw hl h
    rw [wX7_part_6] at h
    refine lv_lload hx hb (dAt dX7_part 4 rfl) (lv_at hl 4 rfl) ?_
    refine lv_lconst (v := 0) hx hb (dAt dX7_part 5 rfl) (by decide) ?_
    refine W.lcmp hx hb (dAt dX7_part 6 rfl) ?_
    refine lv_if_eq (tgt := 31) hx hb (dAt dX7_part 7 rfl) (by decide) (fun c10 => ?_) (fun c10 => ?_)
    · replace h := h.1 ((lg_cmp_eq _ _).mp c10)
      exact kX7_part_31 hE C hr hlk x0 x2 x4 x5 σ  _ _ _ hw (lv_sub hl [0, 1, 2, 3] rfl) h
    · replace h := h.2 (fun z => c10 ((lg_cmp_eq _ _).mpr z))
      refine lv_lload hx hb (dAt dX7_part 8 rfl) (lv_at hl 3 rfl) ?_
      refine lv_lload hx hb (dAt dX7_part 9 rfl) (lv_at hl 4 rfl) ?_
      obtain ⟨z17, h⟩ := h
      refine lv_lrem hx hb (dAt dX7_part 10 rfl) z17 ?_
      refine lv_topl (fun x9_18 ex9_18 => ?_)
      replace h := h x9_18 ex9_18
      refine lv_lstore (lv' := [(9, .long x9_18), (0, .long x0), (2, .long x2), (4, .int x4), (5, .long x5), (7, .long x7)]) hx hb (dAt dX7_part 11 rfl) hl (by decide) rfl (fun ls hl => ?_)
      refine lv_lload hx hb (dAt dX7_part 12 rfl) (lv_at hl 5 rfl) ?_
      refine lv_lstore (lv' := [(5, .long x7), (9, .long x9_18), (0, .long x0), (2, .long x2), (4, .int x4), (7, .long x7)]) hx hb (dAt dX7_part 13 rfl) hl (by decide) rfl (fun ls hl => ?_)
      refine lv_lload hx hb (dAt dX7_part 14 rfl) (lv_at hl 1 rfl) ?_
      refine lv_lstore (lv' := [(7, .long x9_18), (5, .long x7), (9, .long x9_18), (0, .long x0), (2, .long x2), (4, .int x4)]) hx hb (dAt dX7_part 15 rfl) hl (by decide) rfl (fun ls hl => ?_)
      refine lv_goto (tgt := 6) hx hb (dAt dX7_part 16 rfl) (by decide) ?_
      exact ih x0 x2 x4 x7 x9_18 σ  _ _ _ hw (lv_sub hl [3, 4, 5, 1, 0] rfl) h
set_option maxHeartbeats 4000000 in
set_option maxRecDepth 100000 in
theorem kX7_part (l : Launch) (E : wE) (hE : wM E) (x0 : Int64) (x2 : Int64) (x4 : Int32) (σ : Mem) (Q : Int64 → Mem → Prop) (h : wX7_part x0 x2 x4 σ Q) : Met l yX7_part (Cond.code yX7_part cX7_part 11 (some .long) :: TB) rX7_part (wPc E σ [.long x0, .long x2, .int x4]) (wQl E Q) 0 0 (wA E) := by
  refine wMet (by decide) hE.2.2 (Nat.le_of_ble_eq_true rfl) ?_
  intro p e s m args below meth c ls C hr hlk hl hw
  have hx := C.1.1
  have hb := C.1.2.1
  replace C : Cx p s m args c cX7_part 11 RX7 E (wA E) := C
  replace hl : lv_has ls 11 [(0, .long x0), (2, .long x2), (4, .int x4)] := hl
  unfold wX7_part at h
  refine lv_lload_n hx hb (dAt dX7_part 0 rfl) rfl (lv_at hl 0 rfl) ?_
  refine lv_lstore (lv' := [(5, .long x0), (0, .long x0), (2, .long x2), (4, .int x4)]) hx hb (dAt dX7_part 1 rfl) hl (by decide) rfl (fun ls hl => ?_)
  refine lv_lload_n hx hb (dAt dX7_part 2 rfl) rfl (lv_at hl 2 rfl) ?_
  refine lv_lstore (lv' := [(7, .long x2), (5, .long x0), (0, .long x0), (2, .long x2), (4, .int x4)]) hx hb (dAt dX7_part 3 rfl) hl (by decide) rfl (fun ls hl => ?_)
  obtain ⟨n6, h⟩ := h
  exact kX7_part_6 hE C hr hlk n6 x0 x2 x4 x0 x2 σ  _ _ _ hw (lv_sub hl [2, 3, 4, 1, 0] rfl) h
def tX7_bareNow : List (Nat × Instr × Nat) := [(0, .iconst (-1), 1), (1, .istore_n 1, 1), (2, .iconst 0, 1), (3, .istore_n 2, 1), (4, .iload_n 2, 1), (5, .bipush 24, 2), (7, .if_icmp .ge 24, 3), (10, .aload_n 0, 1), (11, .getfield 70, 3), (14, .iload_n 2, 1), (15, .iaload, 1), (16, .ifCond .ne 7, 3), (19, .iload_n 2, 1), (20, .goto 4, 3), (23, .iload_n 1, 1), (24, .istore_n 1, 1), (25, .iinc 2 1, 3), (28, .goto (-24), 3), (31, .iload_n 1, 1), (32, .ireturn, 1)]
theorem dX7_bareNow : dOk cX7_bareNow tX7_bareNow = true := by decide +kernel
abbrev rX7_bareNow : Room := { frames := 0, cells := 0, slots := 0, locals := 0 }
def wX7_bareNow_4 (Q : Int32 → Mem → Prop) : Nat → Int32 → Int32 → Mem → Prop
  | 0, _, _, _ => False
  | n + 1, x1, x2, σ => ((((24 : Int32) ≤ x2) → (Q x1 σ)) ∧ ((¬ (24 : Int32) ≤ x2) → (vp_in x2 24 ∧ (∀ x1_24 : Int32, x1_24 = (if (σ 21 (x2).toNatClampNeg) = 0 then x2 else x1) → (wX7_bareNow_4 Q n x1_24 (x2 + (1 : Int32)) σ)))))
def wX7_bareNow (σ : Mem) (Q : Int32 → Mem → Prop) : Prop := (∃ n, wX7_bareNow_4 Q n (-1 : Int32) (0 : Int32) σ)
set_option maxHeartbeats 4000000 in
set_option maxRecDepth 100000 in
theorem kX7_bareNow_4 {p : Program} {l : Launch} {e : Env} {s : State} {m : MethodId} {args : Array Value} {below : List Frame} {meth : Method} {c : Code} {E : wE} (hE : wM E) (C : Cx p s m args c cX7_bareNow 3 RX7 E (wA E)) (hr : meth.sig.returnType = (some .int)) (hlk : meth.locks = false) {Q : Int32 → Mem → Prop} : ∀ (n : Nat) (x1 : Int32) (x2 : Int32) (σ : Mem) (H : Heap) (locs : List Loc) (ls : Array Slot), wd E (wA E) s σ H locs → lv_has ls 3 [(0, .ref (gE E 0)), (1, .int x1), (2, .int x2)] → wX7_bareNow_4 Q n x1 x2 σ → W p l e rX7_bareNow s m args below meth c H locs 0 0 (MQ below (wQi E Q) args s 0 0 (wA E)) (F0 m 4 ls []) := by
  have hx := C.1.1
  have hb := C.1.2.1
  intro n
  induction n with
  | zero =>
    intro x1 x2 σ  H locs ls hw hl h
    exact h.elim
  | succ n ih =>
    intro x1 x2 σ  H locs ls hw hl h
    rw [wX7_bareNow_4] at h
    refine lv_iload_n hx hb (dAt dX7_bareNow 4 rfl) rfl (lv_at hl 2 rfl) ?_
    refine lv_bipush (v := 24) hx hb (dAt dX7_bareNow 5 rfl) (by decide) ?_
    refine lv_icmp_ge (tgt := 31) hx hb (dAt dX7_bareNow 6 rfl) (by decide) (fun c7 => ?_) (fun c7 => ?_)
    · replace h := h.1 c7
      refine lv_iload_n hx hb (dAt dX7_bareNow 18 rfl) rfl (lv_at hl 1 rfl) ?_
      exact x_iret C hw hr hlk h (dAt dX7_bareNow 19 rfl)
    · replace h := h.2 c7
      refine lv_aload_n hx hb (dAt dX7_bareNow 7 rfl) rfl (lv_at hl 0 rfl) ?_
      refine x_getr C hw fl_X7_70 (hE.1 0) (nM hE (by decide)) rfl (dAt dX7_bareNow 8 rfl) ?_
      refine lv_iload_n hx hb (dAt dX7_bareNow 9 rfl) rfl (lv_at hl 2 rfl) ?_
      obtain ⟨z15, h⟩ := h
      refine x_ild C hw (hE.1 21) (nM hE (by decide)) z15 rfl (dAt dX7_bareNow 10 rfl) ?_
      refine x_dia (ls := ls) (pcJ := 24) (cnd := (σ 21 (x2).toNatClampNeg) = 0) (a := x2) (b := x1) ([]) ?_ (fun ht16 hf16 => ?_)
      · refine lv_topi (fun x1_24 ex1_24 => ?_)
        replace h := h x1_24 ex1_24
        refine lv_istore_n (lv' := [(1, .int x1_24), (0, .ref (gE E 0)), (2, .int x2)]) hx hb (dAt dX7_bareNow 15 rfl) rfl hl (by decide) rfl (fun ls hl => ?_)
        refine lv_iinc (v := (x2 + (1 : Int32))) (lv' := [(2, .int (x2 + (1 : Int32))), (1, .int x1_24), (0, .ref (gE E 0))]) hx hb (dAt dX7_bareNow 16 rfl) hl (k := 2) rfl rfl (by decide) rfl (fun ls hl => ?_)
        refine lv_goto (tgt := 4) hx hb (dAt dX7_bareNow 17 rfl) (by decide) ?_
        exact ih x1_24 (x2 + (1 : Int32)) σ  _ _ _ hw (lv_sub hl [2, 1, 0] rfl) h
      · refine lv_if_ne (tgt := 23) hx hb (dAt dX7_bareNow 11 rfl) (by decide) (fun c16 => ?_) (fun c16 => ?_)
        · refine lv_iload_n hx hb (dAt dX7_bareNow 14 rfl) rfl (lv_at hl 1 rfl) ?_
          exact hf16 c16
        · refine lv_iload_n hx hb (dAt dX7_bareNow 12 rfl) rfl (lv_at hl 2 rfl) ?_
          refine lv_goto (tgt := 24) hx hb (dAt dX7_bareNow 13 rfl) (by decide) ?_
          exact ht16 c16
set_option maxHeartbeats 4000000 in
set_option maxRecDepth 100000 in
theorem kX7_bareNow (l : Launch) (E : wE) (hE : wM E) (σ : Mem) (Q : Int32 → Mem → Prop) (h : wX7_bareNow  σ Q) : Met l yX7_bareNow (Cond.code yX7_bareNow cX7_bareNow 3 (some .int) :: TB) rX7_bareNow (wPc E σ [.ref (gE E 0)]) (wQi E Q) 0 0 (wA E) := by
  refine wMet (by decide) hE.2.2 (Nat.le_of_ble_eq_true rfl) ?_
  intro p e s m args below meth c ls C hr hlk hl hw
  have hx := C.1.1
  have hb := C.1.2.1
  replace C : Cx p s m args c cX7_bareNow 3 RX7 E (wA E) := C
  replace hl : lv_has ls 3 [(0, .ref (gE E 0))] := hl
  unfold wX7_bareNow at h
  refine lv_iconst (v := -1) hx hb (dAt dX7_bareNow 0 rfl) (by decide) ?_
  refine lv_istore_n (lv' := [(1, .int (-1 : Int32)), (0, .ref (gE E 0))]) hx hb (dAt dX7_bareNow 1 rfl) rfl hl (by decide) rfl (fun ls hl => ?_)
  refine lv_iconst (v := 0) hx hb (dAt dX7_bareNow 2 rfl) (by decide) ?_
  refine lv_istore_n (lv' := [(2, .int (0 : Int32)), (1, .int (-1 : Int32)), (0, .ref (gE E 0))]) hx hb (dAt dX7_bareNow 3 rfl) rfl hl (by decide) rfl (fun ls hl => ?_)
  obtain ⟨n4, h⟩ := h
  exact kX7_bareNow_4 hE C hr hlk n4 (-1 : Int32) (0 : Int32) σ  _ _ _ hw (lv_sub hl [2, 1, 0] rfl) h
def tX7_finds : List (Nat × Instr × Nat) := [(0, .aload_n 0, 1), (1, .iload_n 1, 1), (2, .putfield 92, 3), (5, .bipush (-10), 2), (7, .iload_n 1, 1), (8, .isub, 1), (9, .ireturn, 1)]
theorem dX7_finds : dOk cX7_finds tX7_finds = true := by decide +kernel
abbrev rX7_finds : Room := { frames := 0, cells := 0, slots := 0, locals := 0 }
def wX7_finds (x1 : Int32) (σ : Mem) (Q : Int32 → Mem → Prop) : Prop := (∀ σ2 : Mem, σ2 = um σ 0 4 x1 → (Q ((-10 : Int32) - x1) σ2))
set_option maxHeartbeats 4000000 in
set_option maxRecDepth 100000 in
theorem kX7_finds (l : Launch) (E : wE) (hE : wM E) (x1 : Int32) (σ : Mem) (Q : Int32 → Mem → Prop) (h : wX7_finds x1 σ Q) : Met l yX7_finds (Cond.code yX7_finds cX7_finds 2 (some .int) :: TB) rX7_finds (wPc E σ [.ref (gE E 0), .int x1]) (wQi E Q) 0 0 (wA E) := by
  refine wMet (by decide) hE.2.2 (Nat.le_of_ble_eq_true rfl) ?_
  intro p e s m args below meth c ls C hr hlk hl hw
  have hx := C.1.1
  have hb := C.1.2.1
  replace C : Cx p s m args c cX7_finds 2 RX7 E (wA E) := C
  replace hl : lv_has ls 2 [(0, .ref (gE E 0)), (1, .int x1)] := hl
  unfold wX7_finds at h
  refine lv_aload_n hx hb (dAt dX7_finds 0 rfl) rfl (lv_at hl 0 rfl) ?_
  refine lv_iload_n hx hb (dAt dX7_finds 1 rfl) rfl (lv_at hl 1 rfl) ?_
  refine x_pf C hw fl_X7_92 (hE.1 0) (nM hE (by decide)) rfl rfl rfl (dAt dX7_finds 2 rfl) (fun σ2 H locs eσ2 hw => ?_)
  replace h := h σ2 eσ2
  refine lv_bipush (v := -10) hx hb (dAt dX7_finds 3 rfl) (by decide) ?_
  refine lv_iload_n hx hb (dAt dX7_finds 4 rfl) rfl (lv_at hl 1 rfl) ?_
  refine lv_isub hx hb (dAt dX7_finds 5 rfl) ?_
  exact x_iret C hw hr hlk h (dAt dX7_finds 6 rfl)
def tX7_isSheet : List (Nat × Instr × Nat) := [(0, .iload_n 0, 1), (1, .i2l, 1), (2, .lconst 0, 1), (3, .ldc2_w 95, 3), (6, .invokestatic 88, 3), (9, .ireturn, 1)]
theorem dX7_isSheet : dOk cX7_isSheet tX7_isSheet = true := by decide +kernel
abbrev rX7_isSheet : Room := { frames := 1, cells := 0, slots := 0, locals := 25 }
def wX7_isSheet (x0 : Int32) (σ : Mem) (Q : Int32 → Mem → Prop) : Prop := (wX7_in ((x0).toInt64) (0 : Int64) (3 : Int64) σ (fun r6 σ6 => (bz r6 ∧ Q r6 σ6)))
set_option maxHeartbeats 4000000 in
set_option maxRecDepth 100000 in
theorem kX7_isSheet (l : Launch) (E : wE) (hE : wM E) (x0 : Int32) (σ : Mem) (Q : Int32 → Mem → Prop) (h : wX7_isSheet x0 σ Q) : Met l yX7_isSheet (Cond.code yX7_isSheet cX7_isSheet 1 (some .boolean) :: TB) rX7_isSheet (wPc E σ [.int x0]) (wQi E Q) 0 0 (wA E) := by
  refine wMet (by decide) hE.2.2 (Nat.le_of_ble_eq_true rfl) ?_
  intro p e s m args below meth c ls C hr hlk hl hw
  have hx := C.1.1
  have hb := C.1.2.1
  replace C : Cx p s m args c cX7_isSheet 1 RX7 E (wA E) := C
  replace hl : lv_has ls 1 [(0, .int x0)] := hl
  unfold wX7_isSheet at h
  refine lv_iload_n hx hb (dAt dX7_isSheet 0 rfl) rfl (lv_at hl 0 rfl) ?_
  refine lv_i2l hx hb (dAt dX7_isSheet 1 rfl) rfl ?_
  refine lv_lconst (v := 0) hx hb (dAt dX7_isSheet 2 rfl) (by decide) ?_
  refine lv_ldc2 (v := 3) hx hb C.1.2.2.2.1 (C.1.2.2.2.2 _ ck_X7_95) (dAt dX7_isSheet 3 rfl) ?_
  refine x_calli C hw (x_runS (As := [.long ((x0).toInt64), .long (0 : Int64), .long (3 : Int64)]) (rest := []) C hw (kX7_in l E hE ((x0).toInt64) (0 : Int64) (3 : Int64) σ _ h) mtX7_in lk_X7_88 ⟨by decide, by decide⟩ ⟨rfl, rfl⟩ rfl hl.1 rfl (by decide) (dAt dX7_isSheet 4 rfl) ⟨Nat.zero_le _, Nat.zero_le _⟩) (fun r6 σ6 H locs h hw => ?_)
  exact x_zret C hw hr hlk h.1 h.2 (dAt dX7_isSheet 5 rfl)
def tX7_sheet : List (Nat × Instr × Nat) := [(0, .iload_n 1, 1), (1, .invokestatic 97, 3), (4, .ifCond .eq 21, 3), (7, .iload_n 2, 1), (8, .i2l, 1), (9, .lconst 0, 1), (10, .ldc2_w 101, 3), (13, .invokestatic 88, 3), (16, .ifCond .eq 9, 3), (19, .iload_n 3, 1), (20, .bipush 60, 2), (22, .if_icmp .le 6, 3), (25, .bipush (-2), 2), (27, .ireturn, 1), (28, .iload_n 3, 1), (29, .ifCond .ge 9, 3), (32, .aload_n 0, 1), (33, .iconst 5, 1), (34, .invokevirtual 103, 3), (37, .ireturn, 1), (38, .aload_n 0, 1), (39, .getfield 7, 3), (42, .iload_n 1, 1), (43, .iload_n 2, 1), (44, .iastore, 1), (45, .aload_n 0, 1), (46, .getfield 13, 3), (49, .iload_n 1, 1), (50, .iload_n 3, 1), (51, .iastore, 1), (52, .iconst 0, 1), (53, .istore 4, 2), (55, .iload 4, 2), (57, .iload_n 3, 1), (58, .if_icmp .ge 22, 3), (61, .aload_n 0, 1), (62, .getfield 16, 3), (65, .bipush 60, 2), (67, .iload_n 1, 1), (68, .imul, 1), (69, .iload 4, 2), (71, .iadd, 1), (72, .iconst 0, 1), (73, .iastore, 1), (74, .iinc 4 1, 3), (77, .goto (-22), 3), (80, .iload_n 3, 1), (81, .ireturn, 1)]
theorem dX7_sheet : dOk cX7_sheet tX7_sheet = true := by decide +kernel
abbrev rX7_sheet : Room := { frames := 2, cells := 0, slots := 0, locals := 45 }
def wX7_sheet_55 (Q : Int32 → Mem → Prop) : Nat → Int32 → Int32 → Int32 → Mem → Prop
  | 0, _, _, _, _ => False
  | n + 1, x1, x3, x4, σ => (((x3 ≤ x4) → (Q x3 σ)) ∧ ((¬ x3 ≤ x4) → (vp_in (((60 : Int32) * x1) + x4) 240 ∧ (∀ σ73 : Mem, σ73 = um σ 3 ((((60 : Int32) * x1) + x4)).toNatClampNeg (0 : Int32) → (wX7_sheet_55 Q n x1 x3 (x4 + (1 : Int32)) σ73)))))
def wX7_sheet (x1 : Int32) (x2 : Int32) (x3 : Int32) (σ : Mem) (Q : Int32 → Mem → Prop) : Prop := (wX7_isSheet x1 σ (fun r1 σ1 => (((r1 = 0) → (Q (-2 : Int32) σ1)) ∧ ((¬ r1 = 0) → (wX7_in ((x2).toInt64) (0 : Int64) (2 : Int64) σ1 (fun r13 σ13 => (((r13 = 0) → (Q (-2 : Int32) σ13)) ∧ ((¬ r13 = 0) → (((x3 ≤ (60 : Int32)) → (((0 ≤ x3) → (vp_in x1 4 ∧ (∀ σ44 : Mem, σ44 = um σ13 1 (x1).toNatClampNeg x2 → (vp_in x1 4 ∧ (∀ σ51 : Mem, σ51 = um σ44 2 (x1).toNatClampNeg x3 → (∃ n, wX7_sheet_55 Q n x1 x3 (0 : Int32) σ51)))))) ∧ ((¬ 0 ≤ x3) → (wX7_finds (5 : Int32) σ13 (fun r34 σ34 => (Q r34 σ34)))))) ∧ ((¬ x3 ≤ (60 : Int32)) → (Q (-2 : Int32) σ13)))))))))))
set_option maxHeartbeats 4000000 in
set_option maxRecDepth 100000 in
theorem kX7_sheet_55 {p : Program} {l : Launch} {e : Env} {s : State} {m : MethodId} {args : Array Value} {below : List Frame} {meth : Method} {c : Code} {E : wE} (hE : wM E) (C : Cx p s m args c cX7_sheet 5 RX7 E (wA E)) (hr : meth.sig.returnType = (some .int)) (hlk : meth.locks = false) {Q : Int32 → Mem → Prop} : ∀ (n : Nat) (x1 : Int32) (x3 : Int32) (x4 : Int32) (σ : Mem) (H : Heap) (locs : List Loc) (ls : Array Slot), wd E (wA E) s σ H locs → lv_has ls 5 [(0, .ref (gE E 0)), (1, .int x1), (3, .int x3), (4, .int x4)] → wX7_sheet_55 Q n x1 x3 x4 σ → W p l e rX7_sheet s m args below meth c H locs 0 0 (MQ below (wQi E Q) args s 0 0 (wA E)) (F0 m 55 ls []) := by
  have hx := C.1.1
  have hb := C.1.2.1
  intro n
  induction n with
  | zero =>
    intro x1 x3 x4 σ  H locs ls hw hl h
    exact h.elim
  | succ n ih =>
    intro x1 x3 x4 σ  H locs ls hw hl h
    rw [wX7_sheet_55] at h
    refine lv_iload hx hb (dAt dX7_sheet 32 rfl) (lv_at hl 3 rfl) ?_
    refine lv_iload_n hx hb (dAt dX7_sheet 33 rfl) rfl (lv_at hl 2 rfl) ?_
    refine lv_icmp_ge (tgt := 80) hx hb (dAt dX7_sheet 34 rfl) (by decide) (fun c58 => ?_) (fun c58 => ?_)
    · replace h := h.1 c58
      refine lv_iload_n hx hb (dAt dX7_sheet 46 rfl) rfl (lv_at hl 2 rfl) ?_
      exact x_iret C hw hr hlk h (dAt dX7_sheet 47 rfl)
    · replace h := h.2 c58
      refine lv_aload_n hx hb (dAt dX7_sheet 35 rfl) rfl (lv_at hl 0 rfl) ?_
      refine x_getr C hw fl_X7_16 (hE.1 0) (nM hE (by decide)) rfl (dAt dX7_sheet 36 rfl) ?_
      refine lv_bipush (v := 60) hx hb (dAt dX7_sheet 37 rfl) (by decide) ?_
      refine lv_iload_n hx hb (dAt dX7_sheet 38 rfl) rfl (lv_at hl 1 rfl) ?_
      refine lv_imul hx hb (dAt dX7_sheet 39 rfl) ?_
      refine lv_iload hx hb (dAt dX7_sheet 40 rfl) (lv_at hl 3 rfl) ?_
      refine lv_iadd hx hb (dAt dX7_sheet 41 rfl) ?_
      refine lv_iconst (v := 0) hx hb (dAt dX7_sheet 42 rfl) (by decide) ?_
      obtain ⟨z73, h⟩ := h
      refine x_ist C hw (hE.1 3) (nM hE (by decide)) z73 rfl (dAt dX7_sheet 43 rfl) (fun σ73 H locs eσ73 hw => ?_)
      replace h := h σ73 eσ73
      refine lv_iinc (v := (x4 + (1 : Int32))) (lv' := [(4, .int (x4 + (1 : Int32))), (0, .ref (gE E 0)), (1, .int x1), (3, .int x3)]) hx hb (dAt dX7_sheet 44 rfl) hl (k := 3) rfl rfl (by decide) rfl (fun ls hl => ?_)
      refine lv_goto (tgt := 55) hx hb (dAt dX7_sheet 45 rfl) (by decide) ?_
      exact ih x1 x3 (x4 + (1 : Int32)) σ73  _ _ _ hw (lv_sub hl [1, 2, 3, 0] rfl) h
set_option maxHeartbeats 4000000 in
set_option maxRecDepth 100000 in
theorem kX7_sheet (l : Launch) (E : wE) (hE : wM E) (x1 : Int32) (x2 : Int32) (x3 : Int32) (σ : Mem) (Q : Int32 → Mem → Prop) (h : wX7_sheet x1 x2 x3 σ Q) : Met l yX7_sheet (Cond.code yX7_sheet cX7_sheet 5 (some .int) :: TB) rX7_sheet (wPc E σ [.ref (gE E 0), .int x1, .int x2, .int x3]) (wQi E Q) 0 0 (wA E) := by
  refine wMet (by decide) hE.2.2 (Nat.le_of_ble_eq_true rfl) ?_
  intro p e s m args below meth c ls C hr hlk hl hw
  have hx := C.1.1
  have hb := C.1.2.1
  replace C : Cx p s m args c cX7_sheet 5 RX7 E (wA E) := C
  replace hl : lv_has ls 5 [(0, .ref (gE E 0)), (1, .int x1), (2, .int x2), (3, .int x3)] := hl
  unfold wX7_sheet at h
  refine lv_iload_n hx hb (dAt dX7_sheet 0 rfl) rfl (lv_at hl 1 rfl) ?_
  refine x_calli C hw (x_runS (As := [.int x1]) (rest := []) C hw (kX7_isSheet l E hE x1 σ _ h) mtX7_isSheet lk_X7_97 ⟨by decide, by decide⟩ ⟨rfl, rfl⟩ rfl hl.1 rfl (by decide) (dAt dX7_sheet 1 rfl) ⟨Nat.zero_le _, Nat.zero_le _⟩) (fun r1 σ1 H locs h hw => ?_)
  refine lv_if_eq (tgt := 25) hx hb (dAt dX7_sheet 2 rfl) (by decide) (fun c4 => ?_) (fun c4 => ?_)
  · replace h := h.1 c4
    refine lv_bipush (v := -2) hx hb (dAt dX7_sheet 12 rfl) (by decide) ?_
    exact x_iret C hw hr hlk h (dAt dX7_sheet 13 rfl)
  · replace h := h.2 c4
    refine lv_iload_n hx hb (dAt dX7_sheet 3 rfl) rfl (lv_at hl 2 rfl) ?_
    refine lv_i2l hx hb (dAt dX7_sheet 4 rfl) rfl ?_
    refine lv_lconst (v := 0) hx hb (dAt dX7_sheet 5 rfl) (by decide) ?_
    refine lv_ldc2 (v := 2) hx hb C.1.2.2.2.1 (C.1.2.2.2.2 _ ck_X7_101) (dAt dX7_sheet 6 rfl) ?_
    refine x_calli C hw (x_runS (As := [.long ((x2).toInt64), .long (0 : Int64), .long (2 : Int64)]) (rest := []) C hw (kX7_in l E hE ((x2).toInt64) (0 : Int64) (2 : Int64) σ1 _ h) mtX7_in lk_X7_88 ⟨by decide, by decide⟩ ⟨rfl, rfl⟩ rfl hl.1 rfl (by decide) (dAt dX7_sheet 7 rfl) ⟨Nat.zero_le _, Nat.zero_le _⟩) (fun r13 σ13 H locs h hw => ?_)
    refine lv_if_eq (tgt := 25) hx hb (dAt dX7_sheet 8 rfl) (by decide) (fun c16 => ?_) (fun c16 => ?_)
    · replace h := h.1 c16
      refine lv_bipush (v := -2) hx hb (dAt dX7_sheet 12 rfl) (by decide) ?_
      exact x_iret C hw hr hlk h (dAt dX7_sheet 13 rfl)
    · replace h := h.2 c16
      refine lv_iload_n hx hb (dAt dX7_sheet 9 rfl) rfl (lv_at hl 3 rfl) ?_
      refine lv_bipush (v := 60) hx hb (dAt dX7_sheet 10 rfl) (by decide) ?_
      refine lv_icmp_le (tgt := 28) hx hb (dAt dX7_sheet 11 rfl) (by decide) (fun c22 => ?_) (fun c22 => ?_)
      · replace h := h.1 c22
        refine lv_iload_n hx hb (dAt dX7_sheet 14 rfl) rfl (lv_at hl 3 rfl) ?_
        refine lv_if_ge (tgt := 38) hx hb (dAt dX7_sheet 15 rfl) (by decide) (fun c29 => ?_) (fun c29 => ?_)
        · replace h := h.1 c29
          refine lv_aload_n hx hb (dAt dX7_sheet 20 rfl) rfl (lv_at hl 0 rfl) ?_
          refine x_getr C hw fl_X7_7 (hE.1 0) (nM hE (by decide)) rfl (dAt dX7_sheet 21 rfl) ?_
          refine lv_iload_n hx hb (dAt dX7_sheet 22 rfl) rfl (lv_at hl 1 rfl) ?_
          refine lv_iload_n hx hb (dAt dX7_sheet 23 rfl) rfl (lv_at hl 2 rfl) ?_
          obtain ⟨z44, h⟩ := h
          refine x_ist C hw (hE.1 1) (nM hE (by decide)) z44 rfl (dAt dX7_sheet 24 rfl) (fun σ44 H locs eσ44 hw => ?_)
          replace h := h σ44 eσ44
          refine lv_aload_n hx hb (dAt dX7_sheet 25 rfl) rfl (lv_at hl 0 rfl) ?_
          refine x_getr C hw fl_X7_13 (hE.1 0) (nM hE (by decide)) rfl (dAt dX7_sheet 26 rfl) ?_
          refine lv_iload_n hx hb (dAt dX7_sheet 27 rfl) rfl (lv_at hl 1 rfl) ?_
          refine lv_iload_n hx hb (dAt dX7_sheet 28 rfl) rfl (lv_at hl 3 rfl) ?_
          obtain ⟨z51, h⟩ := h
          refine x_ist C hw (hE.1 2) (nM hE (by decide)) z51 rfl (dAt dX7_sheet 29 rfl) (fun σ51 H locs eσ51 hw => ?_)
          replace h := h σ51 eσ51
          refine lv_iconst (v := 0) hx hb (dAt dX7_sheet 30 rfl) (by decide) ?_
          refine lv_istore (lv' := [(4, .int (0 : Int32)), (0, .ref (gE E 0)), (1, .int x1), (2, .int x2), (3, .int x3)]) hx hb (dAt dX7_sheet 31 rfl) hl (by decide) rfl (fun ls hl => ?_)
          obtain ⟨n55, h⟩ := h
          exact kX7_sheet_55 hE C hr hlk n55 x1 x3 (0 : Int32) σ51  _ _ _ hw (lv_sub hl [1, 2, 4, 0] rfl) h
        · replace h := h.2 c29
          refine lv_aload_n hx hb (dAt dX7_sheet 16 rfl) rfl (lv_at hl 0 rfl) ?_
          refine lv_iconst (v := 5) hx hb (dAt dX7_sheet 17 rfl) (by decide) ?_
          refine x_calli C hw (x_runV (As := [.int (5 : Int32)]) (rest := []) C hw (kX7_finds l E hE (5 : Int32) σ13 _ h) mtX7_finds lk_X7_103 (hE.1 0) (nM hE (by decide)) rfl ⟨by decide, by decide⟩ ⟨rfl, rfl⟩ rfl hl.1 rfl (by decide) (dAt dX7_sheet 18 rfl) ⟨Nat.zero_le _, Nat.zero_le _⟩) (fun r34 σ34 H locs h hw => ?_)
          exact x_iret C hw hr hlk h (dAt dX7_sheet 19 rfl)
      · replace h := h.2 c22
        refine lv_bipush (v := -2) hx hb (dAt dX7_sheet 12 rfl) (by decide) ?_
        exact x_iret C hw hr hlk h (dAt dX7_sheet 13 rfl)
def tX7_dancerOf : List (Nat × Instr × Nat) := [(0, .iload_n 0, 1), (1, .tableswitch 98 0 2 #[27, 51, 74], 27), (28, .iload_n 1, 1), (29, .i2l, 1), (30, .ldc2_w 121, 3), (33, .ldc2_w 123, 3), (36, .invokestatic 88, 3), (39, .ifCond .eq 10, 3), (42, .iload_n 1, 1), (43, .bipush 97, 2), (45, .isub, 1), (46, .goto 5, 3), (49, .bipush (-9), 2), (51, .ireturn, 1), (52, .iload_n 1, 1), (53, .bipush 114, 2), (55, .if_icmp .ne 7, 3), (58, .iconst 0, 1), (59, .goto 15, 3), (62, .iload_n 1, 1), (63, .bipush 108, 2), (65, .if_icmp .ne 7, 3), (68, .iconst 1, 1), (69, .goto 5, 3), (72, .bipush (-9), 2), (74, .ireturn, 1), (75, .iload_n 1, 1), (76, .i2l, 1), (77, .ldc2_w 125, 3), (80, .ldc2_w 127, 3), (83, .invokestatic 88, 3), (86, .ifCond .eq 10, 3), (89, .iload_n 1, 1), (90, .bipush 48, 2), (92, .isub, 1), (93, .goto 5, 3), (96, .bipush (-9), 2), (98, .ireturn, 1), (99, .iload_n 1, 1), (100, .bipush 59, 2), (102, .if_icmp .ne 7, 3), (105, .iconst 0, 1), (106, .goto 5, 3), (109, .bipush (-9), 2), (111, .ireturn, 1)]
theorem dX7_dancerOf : dOk cX7_dancerOf tX7_dancerOf = true := by decide +kernel
abbrev rX7_dancerOf : Room := { frames := 1, cells := 0, slots := 0, locals := 25 }
def wX7_dancerOf (x0 : Int32) (x1 : Int32) (σ : Mem) (Q : Int32 → Mem → Prop) : Prop := ((x0 = (0 : Int32) → (wX7_in ((x1).toInt64) (97 : Int64) (108 : Int64) σ (fun r36 σ36 => (Q (if r36 = 0 then (-9 : Int32) else (x1 - (97 : Int32))) σ36)))) ∧ (x0 = (1 : Int32) → (Q (if x1 = (114 : Int32) then (0 : Int32) else (if x1 = (108 : Int32) then (1 : Int32) else (-9 : Int32))) σ)) ∧ (x0 = (2 : Int32) → (wX7_in ((x1).toInt64) (48 : Int64) (57 : Int64) σ (fun r83 σ83 => (Q (if r83 = 0 then (-9 : Int32) else (x1 - (48 : Int32))) σ83)))) ∧ ((x0).toInt < 0 ∨ 2 < (x0).toInt → (Q (if x1 = (59 : Int32) then (0 : Int32) else (-9 : Int32)) σ)))
set_option maxHeartbeats 4000000 in
set_option maxRecDepth 100000 in
theorem kX7_dancerOf (l : Launch) (E : wE) (hE : wM E) (x0 : Int32) (x1 : Int32) (σ : Mem) (Q : Int32 → Mem → Prop) (h : wX7_dancerOf x0 x1 σ Q) : Met l yX7_dancerOf (Cond.code yX7_dancerOf cX7_dancerOf 2 (some .int) :: TB) rX7_dancerOf (wPc E σ [.int x0, .int x1]) (wQi E Q) 0 0 (wA E) := by
  refine wMet (by decide) hE.2.2 (Nat.le_of_ble_eq_true rfl) ?_
  intro p e s m args below meth c ls C hr hlk hl hw
  have hx := C.1.1
  have hb := C.1.2.1
  replace C : Cx p s m args c cX7_dancerOf 2 RX7 E (wA E) := C
  replace hl : lv_has ls 2 [(0, .int x0), (1, .int x1)] := hl
  unfold wX7_dancerOf at h
  refine lv_iload_n hx hb (dAt dX7_dancerOf 0 rfl) rfl (lv_at hl 0 rfl) ?_
  rcases swT x0 0 3 (by decide) with ⟨j1, hj1, ej1⟩ | ej1
  · match j1, hj1, ej1 with
    | 0, _, ej1 =>
      have ej1 : x0 = (0 : Int32) := ej1
      replace h := h.1 ej1
      refine lv_tableIn (off := 27) (tgt := 28) hx hb (dAt dX7_dancerOf 1 rfl) (by rw [ej1]; decide) (by rw [ej1]; decide) (by rw [ej1]; rfl) (by decide) ?_
      refine lv_iload_n hx hb (dAt dX7_dancerOf 2 rfl) rfl (lv_at hl 1 rfl) ?_
      refine lv_i2l hx hb (dAt dX7_dancerOf 3 rfl) rfl ?_
      refine lv_ldc2 (v := 97) hx hb C.1.2.2.2.1 (C.1.2.2.2.2 _ ck_X7_121) (dAt dX7_dancerOf 4 rfl) ?_
      refine lv_ldc2 (v := 108) hx hb C.1.2.2.2.1 (C.1.2.2.2.2 _ ck_X7_123) (dAt dX7_dancerOf 5 rfl) ?_
      refine x_calli C hw (x_runS (As := [.long ((x1).toInt64), .long (97 : Int64), .long (108 : Int64)]) (rest := []) C hw (kX7_in l E hE ((x1).toInt64) (97 : Int64) (108 : Int64) σ _ h) mtX7_in lk_X7_88 ⟨by decide, by decide⟩ ⟨rfl, rfl⟩ rfl hl.1 rfl (by decide) (dAt dX7_dancerOf 6 rfl) ⟨Nat.zero_le _, Nat.zero_le _⟩) (fun r36 σ36 H locs h hw => ?_)
      refine x_dia (ls := ls) (pcJ := 51) (cnd := r36 = 0) (a := (-9 : Int32)) (b := (x1 - (97 : Int32))) ([]) ?_ (fun ht39 hf39 => ?_)
      · exact x_iret C hw hr hlk h (dAt dX7_dancerOf 13 rfl)
      · refine lv_if_eq (tgt := 49) hx hb (dAt dX7_dancerOf 7 rfl) (by decide) (fun c39 => ?_) (fun c39 => ?_)
        · refine lv_bipush (v := -9) hx hb (dAt dX7_dancerOf 12 rfl) (by decide) ?_
          exact ht39 c39
        · refine lv_iload_n hx hb (dAt dX7_dancerOf 8 rfl) rfl (lv_at hl 1 rfl) ?_
          refine lv_bipush (v := 97) hx hb (dAt dX7_dancerOf 9 rfl) (by decide) ?_
          refine lv_isub hx hb (dAt dX7_dancerOf 10 rfl) ?_
          refine lv_goto (tgt := 51) hx hb (dAt dX7_dancerOf 11 rfl) (by decide) ?_
          exact hf39 c39
    | 1, _, ej1 =>
      have ej1 : x0 = (1 : Int32) := ej1
      replace h := h.2.1 ej1
      refine lv_tableIn (off := 51) (tgt := 52) hx hb (dAt dX7_dancerOf 1 rfl) (by rw [ej1]; decide) (by rw [ej1]; decide) (by rw [ej1]; rfl) (by decide) ?_
      refine lv_iload_n hx hb (dAt dX7_dancerOf 14 rfl) rfl (lv_at hl 1 rfl) ?_
      refine lv_bipush (v := 114) hx hb (dAt dX7_dancerOf 15 rfl) (by decide) ?_
      refine x_dia (ls := ls) (pcJ := 74) (cnd := x1 = (114 : Int32)) (a := (0 : Int32)) (b := (if x1 = (108 : Int32) then (1 : Int32) else (-9 : Int32))) ([]) ?_ (fun ht55 hf55 => ?_)
      · exact x_iret C hw hr hlk h (dAt dX7_dancerOf 25 rfl)
      · refine lv_icmp_ne (tgt := 62) hx hb (dAt dX7_dancerOf 16 rfl) (by decide) (fun c55 => ?_) (fun c55 => ?_)
        · refine lv_iload_n hx hb (dAt dX7_dancerOf 19 rfl) rfl (lv_at hl 1 rfl) ?_
          refine lv_bipush (v := 108) hx hb (dAt dX7_dancerOf 20 rfl) (by decide) ?_
          refine x_dia (ls := ls) _ (hf55 c55) (fun ht55_55t hf55_55t => ?_)
          refine lv_icmp_ne (tgt := 72) hx hb (dAt dX7_dancerOf 21 rfl) (by decide) (fun c65 => ?_) (fun c65 => ?_)
          · refine lv_bipush (v := -9) hx hb (dAt dX7_dancerOf 24 rfl) (by decide) ?_
            exact hf55_55t c65
          · refine lv_iconst (v := 1) hx hb (dAt dX7_dancerOf 22 rfl) (by decide) ?_
            refine lv_goto (tgt := 74) hx hb (dAt dX7_dancerOf 23 rfl) (by decide) ?_
            exact ht55_55t c65
        · refine lv_iconst (v := 0) hx hb (dAt dX7_dancerOf 17 rfl) (by decide) ?_
          refine lv_goto (tgt := 74) hx hb (dAt dX7_dancerOf 18 rfl) (by decide) ?_
          exact ht55 c55
    | 2, _, ej1 =>
      have ej1 : x0 = (2 : Int32) := ej1
      replace h := h.2.2.1 ej1
      refine lv_tableIn (off := 74) (tgt := 75) hx hb (dAt dX7_dancerOf 1 rfl) (by rw [ej1]; decide) (by rw [ej1]; decide) (by rw [ej1]; rfl) (by decide) ?_
      refine lv_iload_n hx hb (dAt dX7_dancerOf 26 rfl) rfl (lv_at hl 1 rfl) ?_
      refine lv_i2l hx hb (dAt dX7_dancerOf 27 rfl) rfl ?_
      refine lv_ldc2 (v := 48) hx hb C.1.2.2.2.1 (C.1.2.2.2.2 _ ck_X7_125) (dAt dX7_dancerOf 28 rfl) ?_
      refine lv_ldc2 (v := 57) hx hb C.1.2.2.2.1 (C.1.2.2.2.2 _ ck_X7_127) (dAt dX7_dancerOf 29 rfl) ?_
      refine x_calli C hw (x_runS (As := [.long ((x1).toInt64), .long (48 : Int64), .long (57 : Int64)]) (rest := []) C hw (kX7_in l E hE ((x1).toInt64) (48 : Int64) (57 : Int64) σ _ h) mtX7_in lk_X7_88 ⟨by decide, by decide⟩ ⟨rfl, rfl⟩ rfl hl.1 rfl (by decide) (dAt dX7_dancerOf 30 rfl) ⟨Nat.zero_le _, Nat.zero_le _⟩) (fun r83 σ83 H locs h hw => ?_)
      refine x_dia (ls := ls) (pcJ := 98) (cnd := r83 = 0) (a := (-9 : Int32)) (b := (x1 - (48 : Int32))) ([]) ?_ (fun ht86 hf86 => ?_)
      · exact x_iret C hw hr hlk h (dAt dX7_dancerOf 37 rfl)
      · refine lv_if_eq (tgt := 96) hx hb (dAt dX7_dancerOf 31 rfl) (by decide) (fun c86 => ?_) (fun c86 => ?_)
        · refine lv_bipush (v := -9) hx hb (dAt dX7_dancerOf 36 rfl) (by decide) ?_
          exact ht86 c86
        · refine lv_iload_n hx hb (dAt dX7_dancerOf 32 rfl) rfl (lv_at hl 1 rfl) ?_
          refine lv_bipush (v := 48) hx hb (dAt dX7_dancerOf 33 rfl) (by decide) ?_
          refine lv_isub hx hb (dAt dX7_dancerOf 34 rfl) ?_
          refine lv_goto (tgt := 98) hx hb (dAt dX7_dancerOf 35 rfl) (by decide) ?_
          exact hf86 c86
    | j + 3, hj, _ => exact absurd hj (by omega)
  · replace h := h.2.2.2 ej1
    refine lv_tableOut (tgt := 99) hx hb (dAt dX7_dancerOf 1 rfl) ej1 (by decide) ?_
    refine lv_iload_n hx hb (dAt dX7_dancerOf 38 rfl) rfl (lv_at hl 1 rfl) ?_
    refine lv_bipush (v := 59) hx hb (dAt dX7_dancerOf 39 rfl) (by decide) ?_
    refine x_dia (ls := ls) (pcJ := 111) (cnd := x1 = (59 : Int32)) (a := (0 : Int32)) (b := (-9 : Int32)) ([]) ?_ (fun ht102 hf102 => ?_)
    · exact x_iret C hw hr hlk h (dAt dX7_dancerOf 44 rfl)
    · refine lv_icmp_ne (tgt := 109) hx hb (dAt dX7_dancerOf 40 rfl) (by decide) (fun c102 => ?_) (fun c102 => ?_)
      · refine lv_bipush (v := -9) hx hb (dAt dX7_dancerOf 43 rfl) (by decide) ?_
        exact hf102 c102
      · refine lv_iconst (v := 0) hx hb (dAt dX7_dancerOf 41 rfl) (by decide) ?_
        refine lv_goto (tgt := 111) hx hb (dAt dX7_dancerOf 42 rfl) (by decide) ?_
        exact ht102 c102
def tX7_isTaken : List (Nat × Instr × Nat) := [(0, .iconst 0, 1), (1, .istore_n 3, 1), (2, .iconst 0, 1), (3, .istore 4, 2), (5, .iload 4, 2), (7, .iload_n 1, 1), (8, .if_icmp .ge 32, 3), (11, .iload_n 3, 1), (12, .ifCond .ne 16, 3), (15, .aload_n 0, 1), (16, .getfield 28, 3), (19, .iconst 3, 1), (20, .iload 4, 2), (22, .imul, 1), (23, .iaload, 1), (24, .iload_n 2, 1), (25, .if_icmp .ne 7, 3), (28, .iconst 1, 1), (29, .goto 4, 3), (32, .iconst 0, 1), (33, .istore_n 3, 1), (34, .iinc 4 1, 3), (37, .goto (-32), 3), (40, .iload_n 3, 1), (41, .ireturn, 1)]
theorem dX7_isTaken : dOk cX7_isTaken tX7_isTaken = true := by decide +kernel
abbrev rX7_isTaken : Room := { frames := 0, cells := 0, slots := 0, locals := 0 }
def wX7_isTaken_5 (Q : Int32 → Mem → Prop) : Nat → Int32 → Int32 → Int32 → Int32 → Mem → Prop
  | 0, _, _, _, _, _ => False
  | n + 1, x1, x2, x3, x4, σ => (((x1 ≤ x4) → (bz x3 ∧ Q x3 σ)) ∧ ((¬ x1 ≤ x4) → (((¬ x3 = 0) → (wX7_isTaken_5 Q n x1 x2 (1 : Int32) (x4 + (1 : Int32)) σ)) ∧ ((x3 = 0) → (vp_in ((3 : Int32) * x4) 24 ∧ (((¬ (σ 7 (((3 : Int32) * x4)).toNatClampNeg) = x2) → (wX7_isTaken_5 Q n x1 x2 (0 : Int32) (x4 + (1 : Int32)) σ)) ∧ (((σ 7 (((3 : Int32) * x4)).toNatClampNeg) = x2) → (wX7_isTaken_5 Q n x1 x2 (1 : Int32) (x4 + (1 : Int32)) σ))))))))
def wX7_isTaken (x1 : Int32) (x2 : Int32) (σ : Mem) (Q : Int32 → Mem → Prop) : Prop := (∃ n, wX7_isTaken_5 Q n x1 x2 (0 : Int32) (0 : Int32) σ)
set_option maxHeartbeats 4000000 in
set_option maxRecDepth 100000 in
theorem kX7_isTaken_5 {p : Program} {l : Launch} {e : Env} {s : State} {m : MethodId} {args : Array Value} {below : List Frame} {meth : Method} {c : Code} {E : wE} (hE : wM E) (C : Cx p s m args c cX7_isTaken 5 RX7 E (wA E)) (hr : meth.sig.returnType = (some .boolean)) (hlk : meth.locks = false) {Q : Int32 → Mem → Prop} : ∀ (n : Nat) (x1 : Int32) (x2 : Int32) (x3 : Int32) (x4 : Int32) (σ : Mem) (H : Heap) (locs : List Loc) (ls : Array Slot), wd E (wA E) s σ H locs → lv_has ls 5 [(0, .ref (gE E 0)), (1, .int x1), (2, .int x2), (3, .int x3), (4, .int x4)] → wX7_isTaken_5 Q n x1 x2 x3 x4 σ → W p l e rX7_isTaken s m args below meth c H locs 0 0 (MQ below (wQi E Q) args s 0 0 (wA E)) (F0 m 5 ls []) := by
  have hx := C.1.1
  have hb := C.1.2.1
  intro n
  induction n with
  | zero =>
    intro x1 x2 x3 x4 σ  H locs ls hw hl h
    exact h.elim
  | succ n ih =>
    intro x1 x2 x3 x4 σ  H locs ls hw hl h
    rw [wX7_isTaken_5] at h
    refine lv_iload hx hb (dAt dX7_isTaken 4 rfl) (lv_at hl 4 rfl) ?_
    refine lv_iload_n hx hb (dAt dX7_isTaken 5 rfl) rfl (lv_at hl 1 rfl) ?_
    refine lv_icmp_ge (tgt := 40) hx hb (dAt dX7_isTaken 6 rfl) (by decide) (fun c8 => ?_) (fun c8 => ?_)
    · replace h := h.1 c8
      refine lv_iload_n hx hb (dAt dX7_isTaken 23 rfl) rfl (lv_at hl 3 rfl) ?_
      exact x_zret C hw hr hlk h.1 h.2 (dAt dX7_isTaken 24 rfl)
    · replace h := h.2 c8
      refine lv_iload_n hx hb (dAt dX7_isTaken 7 rfl) rfl (lv_at hl 3 rfl) ?_
      refine lv_if_ne (tgt := 28) hx hb (dAt dX7_isTaken 8 rfl) (by decide) (fun c12 => ?_) (fun c12 => ?_)
      · replace h := h.1 c12
        refine lv_iconst (v := 1) hx hb (dAt dX7_isTaken 17 rfl) (by decide) ?_
        refine lv_goto (tgt := 33) hx hb (dAt dX7_isTaken 18 rfl) (by decide) ?_
        refine lv_istore_n (lv' := [(3, .int (1 : Int32)), (0, .ref (gE E 0)), (1, .int x1), (2, .int x2), (4, .int x4)]) hx hb (dAt dX7_isTaken 20 rfl) rfl hl (by decide) rfl (fun ls hl => ?_)
        refine lv_iinc (v := (x4 + (1 : Int32))) (lv' := [(4, .int (x4 + (1 : Int32))), (3, .int (1 : Int32)), (0, .ref (gE E 0)), (1, .int x1), (2, .int x2)]) hx hb (dAt dX7_isTaken 21 rfl) hl (k := 4) rfl rfl (by decide) rfl (fun ls hl => ?_)
        refine lv_goto (tgt := 5) hx hb (dAt dX7_isTaken 22 rfl) (by decide) ?_
        exact ih x1 x2 (1 : Int32) (x4 + (1 : Int32)) σ  _ _ _ hw (lv_sub hl [2, 3, 4, 1, 0] rfl) h
      · replace h := h.2 c12
        refine lv_aload_n hx hb (dAt dX7_isTaken 9 rfl) rfl (lv_at hl 0 rfl) ?_
        refine x_getr C hw fl_X7_28 (hE.1 0) (nM hE (by decide)) rfl (dAt dX7_isTaken 10 rfl) ?_
        refine lv_iconst (v := 3) hx hb (dAt dX7_isTaken 11 rfl) (by decide) ?_
        refine lv_iload hx hb (dAt dX7_isTaken 12 rfl) (lv_at hl 4 rfl) ?_
        refine lv_imul hx hb (dAt dX7_isTaken 13 rfl) ?_
        obtain ⟨z23, h⟩ := h
        refine x_ild C hw (hE.1 7) (nM hE (by decide)) z23 rfl (dAt dX7_isTaken 14 rfl) ?_
        refine lv_iload_n hx hb (dAt dX7_isTaken 15 rfl) rfl (lv_at hl 2 rfl) ?_
        refine lv_icmp_ne (tgt := 32) hx hb (dAt dX7_isTaken 16 rfl) (by decide) (fun c25 => ?_) (fun c25 => ?_)
        · replace h := h.1 c25
          refine lv_iconst (v := 0) hx hb (dAt dX7_isTaken 19 rfl) (by decide) ?_
          refine lv_istore_n (lv' := [(3, .int (0 : Int32)), (0, .ref (gE E 0)), (1, .int x1), (2, .int x2), (4, .int x4)]) hx hb (dAt dX7_isTaken 20 rfl) rfl hl (by decide) rfl (fun ls hl => ?_)
          refine lv_iinc (v := (x4 + (1 : Int32))) (lv' := [(4, .int (x4 + (1 : Int32))), (3, .int (0 : Int32)), (0, .ref (gE E 0)), (1, .int x1), (2, .int x2)]) hx hb (dAt dX7_isTaken 21 rfl) hl (k := 4) rfl rfl (by decide) rfl (fun ls hl => ?_)
          refine lv_goto (tgt := 5) hx hb (dAt dX7_isTaken 22 rfl) (by decide) ?_
          exact ih x1 x2 (0 : Int32) (x4 + (1 : Int32)) σ  _ _ _ hw (lv_sub hl [2, 3, 4, 1, 0] rfl) h
        · replace h := h.2 c25
          refine lv_iconst (v := 1) hx hb (dAt dX7_isTaken 17 rfl) (by decide) ?_
          refine lv_goto (tgt := 33) hx hb (dAt dX7_isTaken 18 rfl) (by decide) ?_
          refine lv_istore_n (lv' := [(3, .int (1 : Int32)), (0, .ref (gE E 0)), (1, .int x1), (2, .int x2), (4, .int x4)]) hx hb (dAt dX7_isTaken 20 rfl) rfl hl (by decide) rfl (fun ls hl => ?_)
          refine lv_iinc (v := (x4 + (1 : Int32))) (lv' := [(4, .int (x4 + (1 : Int32))), (3, .int (1 : Int32)), (0, .ref (gE E 0)), (1, .int x1), (2, .int x2)]) hx hb (dAt dX7_isTaken 21 rfl) hl (k := 4) rfl rfl (by decide) rfl (fun ls hl => ?_)
          refine lv_goto (tgt := 5) hx hb (dAt dX7_isTaken 22 rfl) (by decide) ?_
          exact ih x1 x2 (1 : Int32) (x4 + (1 : Int32)) σ  _ _ _ hw (lv_sub hl [2, 3, 4, 1, 0] rfl) h
set_option maxHeartbeats 4000000 in
set_option maxRecDepth 100000 in
theorem kX7_isTaken (l : Launch) (E : wE) (hE : wM E) (x1 : Int32) (x2 : Int32) (σ : Mem) (Q : Int32 → Mem → Prop) (h : wX7_isTaken x1 x2 σ Q) : Met l yX7_isTaken (Cond.code yX7_isTaken cX7_isTaken 5 (some .boolean) :: TB) rX7_isTaken (wPc E σ [.ref (gE E 0), .int x1, .int x2]) (wQi E Q) 0 0 (wA E) := by
  refine wMet (by decide) hE.2.2 (Nat.le_of_ble_eq_true rfl) ?_
  intro p e s m args below meth c ls C hr hlk hl hw
  have hx := C.1.1
  have hb := C.1.2.1
  replace C : Cx p s m args c cX7_isTaken 5 RX7 E (wA E) := C
  replace hl : lv_has ls 5 [(0, .ref (gE E 0)), (1, .int x1), (2, .int x2)] := hl
  unfold wX7_isTaken at h
  refine lv_iconst (v := 0) hx hb (dAt dX7_isTaken 0 rfl) (by decide) ?_
  refine lv_istore_n (lv' := [(3, .int (0 : Int32)), (0, .ref (gE E 0)), (1, .int x1), (2, .int x2)]) hx hb (dAt dX7_isTaken 1 rfl) rfl hl (by decide) rfl (fun ls hl => ?_)
  refine lv_iconst (v := 0) hx hb (dAt dX7_isTaken 2 rfl) (by decide) ?_
  refine lv_istore (lv' := [(4, .int (0 : Int32)), (3, .int (0 : Int32)), (0, .ref (gE E 0)), (1, .int x1), (2, .int x2)]) hx hb (dAt dX7_isTaken 3 rfl) hl (by decide) rfl (fun ls hl => ?_)
  obtain ⟨n5, h⟩ := h
  exact kX7_isTaken_5 hE C hr hlk n5 x1 x2 (0 : Int32) (0 : Int32) σ  _ _ _ hw (lv_sub hl [2, 3, 4, 1, 0] rfl) h
def tX7_readsDancers : List (Nat × Instr × Nat) := [(0, .aload_n 0, 1), (1, .iconst 0, 1), (2, .putfield 129, 3), (5, .aload_n 0, 1), (6, .getfield 25, 3), (9, .iconst 0, 1), (10, .iaload, 1), (11, .istore_n 1, 1), (12, .iconst 0, 1), (13, .istore_n 2, 1), (14, .iload_n 2, 1), (15, .iload_n 1, 1), (16, .if_icmp .ge 93, 3), (19, .iload_n 2, 1), (20, .iconst 4, 1), (21, .irem, 1), (22, .istore_n 3, 1), (23, .iload_n 3, 1), (24, .aload_n 0, 1), (25, .getfield 22, 3), (28, .iload_n 2, 1), (29, .iaload, 1), (30, .invokestatic 132, 3), (33, .istore 4, 2), (35, .iload 4, 2), (37, .bipush (-9), 2), (39, .if_icmp .eq 19, 3), (42, .iload_n 3, 1), (43, .ifCond .ne 22, 3), (46, .aload_n 0, 1), (47, .iload_n 2, 1), (48, .iconst 4, 1), (49, .idiv, 1), (50, .iload 4, 2), (52, .invokevirtual 135, 3), (55, .ifCond .eq 10, 3), (58, .aload_n 0, 1), (59, .iconst 0, 1), (60, .putfield 129, 3), (63, .iload_n 2, 1), (64, .ireturn, 1), (65, .iload_n 3, 1), (66, .iconst 3, 1), (67, .if_icmp .ge 17, 3), (70, .aload_n 0, 1), (71, .getfield 28, 3), (74, .iconst 3, 1), (75, .iload_n 2, 1), (76, .iconst 4, 1), (77, .idiv, 1), (78, .imul, 1), (79, .iload_n 3, 1), (80, .iadd, 1), (81, .iload 4, 2), (83, .iastore, 1), (84, .aload_n 0, 1), (85, .dup, 1), (86, .getfield 129, 3), (89, .iload_n 3, 1), (90, .iconst 2, 1), (91, .if_icmp .ne 7, 3), (94, .iconst 1, 1), (95, .goto 4, 3), (98, .iconst 0, 1), (99, .iadd, 1), (100, .putfield 129, 3), (103, .iinc 2 1, 3), (106, .goto (-92), 3), (109, .iload_n 1, 1), (110, .ifCond .le 17, 3), (113, .iload_n 1, 1), (114, .iconst 4, 1), (115, .irem, 1), (116, .iconst 3, 1), (117, .if_icmp .eq 10, 3), (120, .aload_n 0, 1), (121, .iconst 0, 1), (122, .putfield 129, 3), (125, .iload_n 1, 1), (126, .ireturn, 1), (127, .iconst (-1), 1), (128, .ireturn, 1)]
theorem dX7_readsDancers : dOk cX7_readsDancers tX7_readsDancers = true := by decide +kernel
abbrev rX7_readsDancers : Room := { frames := 2, cells := 0, slots := 0, locals := 46 }
def wX7_readsDancers_109 (Q : Int32 → Mem → Prop) (x1 : Int32) (σ : Mem) : Prop := (((x1 ≤ 0) → (Q (-1 : Int32) σ)) ∧ ((¬ x1 ≤ 0) → ((((x1 - x1 / (4 : Int32) * (4 : Int32)) = (3 : Int32)) → (Q (-1 : Int32) σ)) ∧ ((¬ (x1 - x1 / (4 : Int32) * (4 : Int32)) = (3 : Int32)) → (∀ σ122 : Mem, σ122 = um σ 0 7 (0 : Int32) → (Q x1 σ122))))))
def wX7_readsDancers_58 (Q : Int32 → Mem → Prop) (x2 : Int32) (σ : Mem) : Prop := (∀ σ60 : Mem, σ60 = um σ 0 7 (0 : Int32) → (Q x2 σ60))
def wX7_readsDancers_84 (K14 : Int32 → Int32 → Mem → Prop) (Q : Int32 → Mem → Prop) (x1 : Int32) (x2 : Int32) (x3 : Int32) (σ : Mem) : Prop := (∀ σ100 : Mem, σ100 = um σ 0 7 ((σ 0 7) + (if x3 = (2 : Int32) then (1 : Int32) else (0 : Int32))) → (K14 x1 (x2 + (1 : Int32)) σ100))
def wX7_readsDancers_65 (K14 : Int32 → Int32 → Mem → Prop) (Q : Int32 → Mem → Prop) (x1 : Int32) (x2 : Int32) (x3 : Int32) (x4 : Int32) (σ : Mem) : Prop := ((((3 : Int32) ≤ x3) → (wX7_readsDancers_84 K14 Q x1 x2 x3 σ)) ∧ ((¬ (3 : Int32) ≤ x3) → (vp_in (((3 : Int32) * (x2 / (4 : Int32))) + x3) 24 ∧ (∀ σ83 : Mem, σ83 = um σ 7 ((((3 : Int32) * (x2 / (4 : Int32))) + x3)).toNatClampNeg x4 → (wX7_readsDancers_84 K14 Q x1 x2 x3 σ83)))))
def wX7_readsDancers_14 (Q : Int32 → Mem → Prop) : Nat → Int32 → Int32 → Mem → Prop
  | 0, _, _, _ => False
  | n + 1, x1, x2, σ => (((x1 ≤ x2) → (wX7_readsDancers_109 Q x1 σ)) ∧ ((¬ x1 ≤ x2) → (∀ x3_22 : Int32, x3_22 = (x2 - x2 / (4 : Int32) * (4 : Int32)) → (vp_in x2 64 ∧ (wX7_dancerOf x3_22 (σ 5 (x2).toNatClampNeg) σ (fun r30 σ30 => (((r30 = (-9 : Int32)) → (wX7_readsDancers_58 Q x2 σ30)) ∧ ((¬ r30 = (-9 : Int32)) → (((¬ x3_22 = 0) → (wX7_readsDancers_65 (fun x1 x2 ρ => wX7_readsDancers_14 Q n x1 x2 ρ) Q x1 x2 x3_22 r30 σ30)) ∧ ((x3_22 = 0) → (wX7_isTaken (x2 / (4 : Int32)) r30 σ30 (fun r52 σ52 => (((r52 = 0) → (wX7_readsDancers_65 (fun x1 x2 ρ => wX7_readsDancers_14 Q n x1 x2 ρ) Q x1 x2 x3_22 r30 σ52)) ∧ ((¬ r52 = 0) → (wX7_readsDancers_58 Q x2 σ52)))))))))))))))
def wX7_readsDancers (σ : Mem) (Q : Int32 → Mem → Prop) : Prop := (∀ σ2 : Mem, σ2 = um σ 0 7 (0 : Int32) → (∀ x1_11 : Int32, x1_11 = (σ2 6 0) → (∃ n, wX7_readsDancers_14 Q n x1_11 (0 : Int32) σ2)))
set_option maxHeartbeats 4000000 in
set_option maxRecDepth 100000 in
theorem kX7_readsDancers_109 {p : Program} {l : Launch} {e : Env} {s : State} {m : MethodId} {args : Array Value} {below : List Frame} {meth : Method} {c : Code} {E : wE} (hE : wM E) (C : Cx p s m args c cX7_readsDancers 5 RX7 E (wA E)) (hr : meth.sig.returnType = (some .int)) (hlk : meth.locks = false) {Q : Int32 → Mem → Prop} : ∀ (x1 : Int32) (σ : Mem) (H : Heap) (locs : List Loc) (ls : Array Slot), wd E (wA E) s σ H locs → lv_has ls 5 [(0, .ref (gE E 0)), (1, .int x1)] → wX7_readsDancers_109 Q x1 σ → W p l e rX7_readsDancers s m args below meth c H locs 0 0 (MQ below (wQi E Q) args s 0 0 (wA E)) (F0 m 109 ls []) := by
  have hx := C.1.1
  have hb := C.1.2.1
  intro x1 σ  H locs ls hw hl h
  unfold wX7_readsDancers_109 at h
  refine lv_iload_n hx hb (dAt dX7_readsDancers 68 rfl) rfl (lv_at hl 1 rfl) ?_
  refine lv_if_le (tgt := 127) hx hb (dAt dX7_readsDancers 69 rfl) (by decide) (fun c110 => ?_) (fun c110 => ?_)
  · replace h := h.1 c110
    refine lv_iconst (v := -1) hx hb (dAt dX7_readsDancers 80 rfl) (by decide) ?_
    exact x_iret C hw hr hlk h (dAt dX7_readsDancers 81 rfl)
  · replace h := h.2 c110
    refine lv_iload_n hx hb (dAt dX7_readsDancers 70 rfl) rfl (lv_at hl 1 rfl) ?_
    refine lv_iconst (v := 4) hx hb (dAt dX7_readsDancers 71 rfl) (by decide) ?_
    refine lv_irem hx hb (dAt dX7_readsDancers 72 rfl) (by decide) ?_
    refine lv_iconst (v := 3) hx hb (dAt dX7_readsDancers 73 rfl) (by decide) ?_
    refine lv_icmp_eq (tgt := 127) hx hb (dAt dX7_readsDancers 74 rfl) (by decide) (fun c117 => ?_) (fun c117 => ?_)
    · replace h := h.1 c117
      refine lv_iconst (v := -1) hx hb (dAt dX7_readsDancers 80 rfl) (by decide) ?_
      exact x_iret C hw hr hlk h (dAt dX7_readsDancers 81 rfl)
    · replace h := h.2 c117
      refine lv_aload_n hx hb (dAt dX7_readsDancers 75 rfl) rfl (lv_at hl 0 rfl) ?_
      refine lv_iconst (v := 0) hx hb (dAt dX7_readsDancers 76 rfl) (by decide) ?_
      refine x_pf C hw fl_X7_129 (hE.1 0) (nM hE (by decide)) rfl rfl rfl (dAt dX7_readsDancers 77 rfl) (fun σ122 H locs eσ122 hw => ?_)
      replace h := h σ122 eσ122
      refine lv_iload_n hx hb (dAt dX7_readsDancers 78 rfl) rfl (lv_at hl 1 rfl) ?_
      exact x_iret C hw hr hlk h (dAt dX7_readsDancers 79 rfl)
set_option maxHeartbeats 4000000 in
set_option maxRecDepth 100000 in
theorem kX7_readsDancers_58 {p : Program} {l : Launch} {e : Env} {s : State} {m : MethodId} {args : Array Value} {below : List Frame} {meth : Method} {c : Code} {E : wE} (hE : wM E) (C : Cx p s m args c cX7_readsDancers 5 RX7 E (wA E)) (hr : meth.sig.returnType = (some .int)) (hlk : meth.locks = false) {Q : Int32 → Mem → Prop} : ∀ (x2 : Int32) (σ : Mem) (H : Heap) (locs : List Loc) (ls : Array Slot), wd E (wA E) s σ H locs → lv_has ls 5 [(0, .ref (gE E 0)), (2, .int x2)] → wX7_readsDancers_58 Q x2 σ → W p l e rX7_readsDancers s m args below meth c H locs 0 0 (MQ below (wQi E Q) args s 0 0 (wA E)) (F0 m 58 ls []) := by
  have hx := C.1.1
  have hb := C.1.2.1
  intro x2 σ  H locs ls hw hl h
  unfold wX7_readsDancers_58 at h
  refine lv_aload_n hx hb (dAt dX7_readsDancers 36 rfl) rfl (lv_at hl 0 rfl) ?_
  refine lv_iconst (v := 0) hx hb (dAt dX7_readsDancers 37 rfl) (by decide) ?_
  refine x_pf C hw fl_X7_129 (hE.1 0) (nM hE (by decide)) rfl rfl rfl (dAt dX7_readsDancers 38 rfl) (fun σ60 H locs eσ60 hw => ?_)
  replace h := h σ60 eσ60
  refine lv_iload_n hx hb (dAt dX7_readsDancers 39 rfl) rfl (lv_at hl 1 rfl) ?_
  exact x_iret C hw hr hlk h (dAt dX7_readsDancers 40 rfl)
set_option maxHeartbeats 4000000 in
set_option maxRecDepth 100000 in
theorem kX7_readsDancers_84 {p : Program} {l : Launch} {e : Env} {s : State} {m : MethodId} {args : Array Value} {below : List Frame} {meth : Method} {c : Code} {E : wE} (hE : wM E) (C : Cx p s m args c cX7_readsDancers 5 RX7 E (wA E)) (hr : meth.sig.returnType = (some .int)) (hlk : meth.locks = false) {Q : Int32 → Mem → Prop} {K14 : Int32 → Int32 → Mem → Prop} (hK14 : ∀ (x1 : Int32) (x2 : Int32) (σ : Mem) (H : Heap) (locs : List Loc) (ls : Array Slot), wd E (wA E) s σ H locs → lv_has ls 5 [(0, .ref (gE E 0)), (1, .int x1), (2, .int x2)] → K14 x1 x2 σ → W p l e rX7_readsDancers s m args below meth c H locs 0 0 (MQ below (wQi E Q) args s 0 0 (wA E)) (F0 m 14 ls [])) : ∀ (x1 : Int32) (x2 : Int32) (x3 : Int32) (σ : Mem) (H : Heap) (locs : List Loc) (ls : Array Slot), wd E (wA E) s σ H locs → lv_has ls 5 [(0, .ref (gE E 0)), (1, .int x1), (2, .int x2), (3, .int x3)] → wX7_readsDancers_84 K14 Q x1 x2 x3 σ → W p l e rX7_readsDancers s m args below meth c H locs 0 0 (MQ below (wQi E Q) args s 0 0 (wA E)) (F0 m 84 ls []) := by
  have hx := C.1.1
  have hb := C.1.2.1
  intro x1 x2 x3 σ  H locs ls hw hl h
  unfold wX7_readsDancers_84 at h
  refine lv_aload_n hx hb (dAt dX7_readsDancers 55 rfl) rfl (lv_at hl 0 rfl) ?_
  refine lv_dup hx hb (dAt dX7_readsDancers 56 rfl) rfl ?_
  refine x_geti C hw fl_X7_129 (hE.1 0) (nM hE (by decide)) rfl (dAt dX7_readsDancers 57 rfl) ?_
  refine lv_iload_n hx hb (dAt dX7_readsDancers 58 rfl) rfl (lv_at hl 3 rfl) ?_
  refine lv_iconst (v := 2) hx hb (dAt dX7_readsDancers 59 rfl) (by decide) ?_
  refine x_dia (ls := ls) (pcJ := 99) (cnd := x3 = (2 : Int32)) (a := (1 : Int32)) (b := (0 : Int32)) ([.int (σ 0 7), .ref (gE E 0)]) ?_ (fun ht91 hf91 => ?_)
  · refine lv_iadd hx hb (dAt dX7_readsDancers 64 rfl) ?_
    refine x_pf C hw fl_X7_129 (hE.1 0) (nM hE (by decide)) rfl rfl rfl (dAt dX7_readsDancers 65 rfl) (fun σ100 H locs eσ100 hw => ?_)
    replace h := h σ100 eσ100
    refine lv_iinc (v := (x2 + (1 : Int32))) (lv' := [(2, .int (x2 + (1 : Int32))), (0, .ref (gE E 0)), (1, .int x1), (3, .int x3)]) hx hb (dAt dX7_readsDancers 66 rfl) hl (k := 2) rfl rfl (by decide) rfl (fun ls hl => ?_)
    refine lv_goto (tgt := 14) hx hb (dAt dX7_readsDancers 67 rfl) (by decide) ?_
    exact hK14 x1 (x2 + (1 : Int32)) σ100  _ _ _ hw (lv_sub hl [1, 2, 0] rfl) h
  · refine lv_icmp_ne (tgt := 98) hx hb (dAt dX7_readsDancers 60 rfl) (by decide) (fun c91 => ?_) (fun c91 => ?_)
    · refine lv_iconst (v := 0) hx hb (dAt dX7_readsDancers 63 rfl) (by decide) ?_
      exact hf91 c91
    · refine lv_iconst (v := 1) hx hb (dAt dX7_readsDancers 61 rfl) (by decide) ?_
      refine lv_goto (tgt := 99) hx hb (dAt dX7_readsDancers 62 rfl) (by decide) ?_
      exact ht91 c91
set_option maxHeartbeats 4000000 in
set_option maxRecDepth 100000 in
theorem kX7_readsDancers_65 {p : Program} {l : Launch} {e : Env} {s : State} {m : MethodId} {args : Array Value} {below : List Frame} {meth : Method} {c : Code} {E : wE} (hE : wM E) (C : Cx p s m args c cX7_readsDancers 5 RX7 E (wA E)) (hr : meth.sig.returnType = (some .int)) (hlk : meth.locks = false) {Q : Int32 → Mem → Prop} {K14 : Int32 → Int32 → Mem → Prop} (hK14 : ∀ (x1 : Int32) (x2 : Int32) (σ : Mem) (H : Heap) (locs : List Loc) (ls : Array Slot), wd E (wA E) s σ H locs → lv_has ls 5 [(0, .ref (gE E 0)), (1, .int x1), (2, .int x2)] → K14 x1 x2 σ → W p l e rX7_readsDancers s m args below meth c H locs 0 0 (MQ below (wQi E Q) args s 0 0 (wA E)) (F0 m 14 ls [])) : ∀ (x1 : Int32) (x2 : Int32) (x3 : Int32) (x4 : Int32) (σ : Mem) (H : Heap) (locs : List Loc) (ls : Array Slot), wd E (wA E) s σ H locs → lv_has ls 5 [(0, .ref (gE E 0)), (1, .int x1), (2, .int x2), (3, .int x3), (4, .int x4)] → wX7_readsDancers_65 K14 Q x1 x2 x3 x4 σ → W p l e rX7_readsDancers s m args below meth c H locs 0 0 (MQ below (wQi E Q) args s 0 0 (wA E)) (F0 m 65 ls []) := by
  have hx := C.1.1
  have hb := C.1.2.1
  intro x1 x2 x3 x4 σ  H locs ls hw hl h
  unfold wX7_readsDancers_65 at h
  refine lv_iload_n hx hb (dAt dX7_readsDancers 41 rfl) rfl (lv_at hl 3 rfl) ?_
  refine lv_iconst (v := 3) hx hb (dAt dX7_readsDancers 42 rfl) (by decide) ?_
  refine lv_icmp_ge (tgt := 84) hx hb (dAt dX7_readsDancers 43 rfl) (by decide) (fun c67 => ?_) (fun c67 => ?_)
  · replace h := h.1 c67
    exact kX7_readsDancers_84 hE C hr hlk hK14 x1 x2 x3 σ  _ _ _ hw (lv_sub hl [0, 1, 2, 3] rfl) h
  · replace h := h.2 c67
    refine lv_aload_n hx hb (dAt dX7_readsDancers 44 rfl) rfl (lv_at hl 0 rfl) ?_
    refine x_getr C hw fl_X7_28 (hE.1 0) (nM hE (by decide)) rfl (dAt dX7_readsDancers 45 rfl) ?_
    refine lv_iconst (v := 3) hx hb (dAt dX7_readsDancers 46 rfl) (by decide) ?_
    refine lv_iload_n hx hb (dAt dX7_readsDancers 47 rfl) rfl (lv_at hl 2 rfl) ?_
    refine lv_iconst (v := 4) hx hb (dAt dX7_readsDancers 48 rfl) (by decide) ?_
    refine lv_idiv hx hb (dAt dX7_readsDancers 49 rfl) (by decide) ?_
    refine lv_imul hx hb (dAt dX7_readsDancers 50 rfl) ?_
    refine lv_iload_n hx hb (dAt dX7_readsDancers 51 rfl) rfl (lv_at hl 3 rfl) ?_
    refine lv_iadd hx hb (dAt dX7_readsDancers 52 rfl) ?_
    refine lv_iload hx hb (dAt dX7_readsDancers 53 rfl) (lv_at hl 4 rfl) ?_
    obtain ⟨z83, h⟩ := h
    refine x_ist C hw (hE.1 7) (nM hE (by decide)) z83 rfl (dAt dX7_readsDancers 54 rfl) (fun σ83 H locs eσ83 hw => ?_)
    replace h := h σ83 eσ83
    exact kX7_readsDancers_84 hE C hr hlk hK14 x1 x2 x3 σ83  _ _ _ hw (lv_sub hl [0, 1, 2, 3] rfl) h
set_option maxHeartbeats 4000000 in
set_option maxRecDepth 100000 in
theorem kX7_readsDancers_14 {p : Program} {l : Launch} {e : Env} {s : State} {m : MethodId} {args : Array Value} {below : List Frame} {meth : Method} {c : Code} {E : wE} (hE : wM E) (C : Cx p s m args c cX7_readsDancers 5 RX7 E (wA E)) (hr : meth.sig.returnType = (some .int)) (hlk : meth.locks = false) {Q : Int32 → Mem → Prop} : ∀ (n : Nat) (x1 : Int32) (x2 : Int32) (σ : Mem) (H : Heap) (locs : List Loc) (ls : Array Slot), wd E (wA E) s σ H locs → lv_has ls 5 [(0, .ref (gE E 0)), (1, .int x1), (2, .int x2)] → wX7_readsDancers_14 Q n x1 x2 σ → W p l e rX7_readsDancers s m args below meth c H locs 0 0 (MQ below (wQi E Q) args s 0 0 (wA E)) (F0 m 14 ls []) := by
  have hx := C.1.1
  have hb := C.1.2.1
  intro n
  induction n with
  | zero =>
    intro x1 x2 σ  H locs ls hw hl h
    exact h.elim
  | succ n ih =>
    intro x1 x2 σ  H locs ls hw hl h
    rw [wX7_readsDancers_14] at h
    refine lv_iload_n hx hb (dAt dX7_readsDancers 10 rfl) rfl (lv_at hl 2 rfl) ?_
    refine lv_iload_n hx hb (dAt dX7_readsDancers 11 rfl) rfl (lv_at hl 1 rfl) ?_
    refine lv_icmp_ge (tgt := 109) hx hb (dAt dX7_readsDancers 12 rfl) (by decide) (fun c16 => ?_) (fun c16 => ?_)
    · replace h := h.1 c16
      exact kX7_readsDancers_109 hE C hr hlk x1 σ  _ _ _ hw (lv_sub hl [0, 1] rfl) h
    · replace h := h.2 c16
      refine lv_iload_n hx hb (dAt dX7_readsDancers 13 rfl) rfl (lv_at hl 2 rfl) ?_
      refine lv_iconst (v := 4) hx hb (dAt dX7_readsDancers 14 rfl) (by decide) ?_
      refine lv_irem hx hb (dAt dX7_readsDancers 15 rfl) (by decide) ?_
      refine lv_topi (fun x3_22 ex3_22 => ?_)
      replace h := h x3_22 ex3_22
      refine lv_istore_n (lv' := [(3, .int x3_22), (0, .ref (gE E 0)), (1, .int x1), (2, .int x2)]) hx hb (dAt dX7_readsDancers 16 rfl) rfl hl (by decide) rfl (fun ls hl => ?_)
      refine lv_iload_n hx hb (dAt dX7_readsDancers 17 rfl) rfl (lv_at hl 0 rfl) ?_
      refine lv_aload_n hx hb (dAt dX7_readsDancers 18 rfl) rfl (lv_at hl 1 rfl) ?_
      refine x_getr C hw fl_X7_22 (hE.1 0) (nM hE (by decide)) rfl (dAt dX7_readsDancers 19 rfl) ?_
      refine lv_iload_n hx hb (dAt dX7_readsDancers 20 rfl) rfl (lv_at hl 3 rfl) ?_
      obtain ⟨z29, h⟩ := h
      refine x_ild C hw (hE.1 5) (nM hE (by decide)) z29 rfl (dAt dX7_readsDancers 21 rfl) ?_
      refine x_calli C hw (x_runS (As := [.int x3_22, .int (σ 5 (x2).toNatClampNeg)]) (rest := []) C hw (kX7_dancerOf l E hE x3_22 (σ 5 (x2).toNatClampNeg) σ _ h) mtX7_dancerOf lk_X7_132 ⟨by decide, by decide⟩ ⟨rfl, rfl⟩ rfl hl.1 rfl (by decide) (dAt dX7_readsDancers 22 rfl) ⟨Nat.zero_le _, Nat.zero_le _⟩) (fun r30 σ30 H locs h hw => ?_)
      refine lv_istore (lv' := [(4, .int r30), (3, .int x3_22), (0, .ref (gE E 0)), (1, .int x1), (2, .int x2)]) hx hb (dAt dX7_readsDancers 23 rfl) hl (by decide) rfl (fun ls hl => ?_)
      refine lv_iload hx hb (dAt dX7_readsDancers 24 rfl) (lv_at hl 0 rfl) ?_
      refine lv_bipush (v := -9) hx hb (dAt dX7_readsDancers 25 rfl) (by decide) ?_
      refine lv_icmp_eq (tgt := 58) hx hb (dAt dX7_readsDancers 26 rfl) (by decide) (fun c39 => ?_) (fun c39 => ?_)
      · replace h := h.1 c39
        exact kX7_readsDancers_58 hE C hr hlk x2 σ30  _ _ _ hw (lv_sub hl [2, 4] rfl) h
      · replace h := h.2 c39
        refine lv_iload_n hx hb (dAt dX7_readsDancers 27 rfl) rfl (lv_at hl 1 rfl) ?_
        refine lv_if_ne (tgt := 65) hx hb (dAt dX7_readsDancers 28 rfl) (by decide) (fun c43 => ?_) (fun c43 => ?_)
        · replace h := h.1 c43
          exact kX7_readsDancers_65 hE C hr hlk ih x1 x2 x3_22 r30 σ30  _ _ _ hw (lv_sub hl [2, 3, 4, 1, 0] rfl) h
        · replace h := h.2 c43
          refine lv_aload_n hx hb (dAt dX7_readsDancers 29 rfl) rfl (lv_at hl 2 rfl) ?_
          refine lv_iload_n hx hb (dAt dX7_readsDancers 30 rfl) rfl (lv_at hl 4 rfl) ?_
          refine lv_iconst (v := 4) hx hb (dAt dX7_readsDancers 31 rfl) (by decide) ?_
          refine lv_idiv hx hb (dAt dX7_readsDancers 32 rfl) (by decide) ?_
          refine lv_iload hx hb (dAt dX7_readsDancers 33 rfl) (lv_at hl 0 rfl) ?_
          refine x_calli C hw (x_runV (As := [.int (x2 / (4 : Int32)), .int r30]) (rest := []) C hw (kX7_isTaken l E hE (x2 / (4 : Int32)) r30 σ30 _ h) mtX7_isTaken lk_X7_135 (hE.1 0) (nM hE (by decide)) rfl ⟨by decide, by decide⟩ ⟨rfl, rfl⟩ rfl hl.1 rfl (by decide) (dAt dX7_readsDancers 34 rfl) ⟨Nat.zero_le _, Nat.zero_le _⟩) (fun r52 σ52 H locs h hw => ?_)
          refine lv_if_eq (tgt := 65) hx hb (dAt dX7_readsDancers 35 rfl) (by decide) (fun c55 => ?_) (fun c55 => ?_)
          · replace h := h.1 c55
            exact kX7_readsDancers_65 hE C hr hlk ih x1 x2 x3_22 r30 σ52  _ _ _ hw (lv_sub hl [2, 3, 4, 1, 0] rfl) h
          · replace h := h.2 c55
            exact kX7_readsDancers_58 hE C hr hlk x2 σ52  _ _ _ hw (lv_sub hl [2, 4] rfl) h
set_option maxHeartbeats 4000000 in
set_option maxRecDepth 100000 in
theorem kX7_readsDancers (l : Launch) (E : wE) (hE : wM E) (σ : Mem) (Q : Int32 → Mem → Prop) (h : wX7_readsDancers  σ Q) : Met l yX7_readsDancers (Cond.code yX7_readsDancers cX7_readsDancers 5 (some .int) :: TB) rX7_readsDancers (wPc E σ [.ref (gE E 0)]) (wQi E Q) 0 0 (wA E) := by
  refine wMet (by decide) hE.2.2 (Nat.le_of_ble_eq_true rfl) ?_
  intro p e s m args below meth c ls C hr hlk hl hw
  have hx := C.1.1
  have hb := C.1.2.1
  replace C : Cx p s m args c cX7_readsDancers 5 RX7 E (wA E) := C
  replace hl : lv_has ls 5 [(0, .ref (gE E 0))] := hl
  unfold wX7_readsDancers at h
  refine lv_aload_n hx hb (dAt dX7_readsDancers 0 rfl) rfl (lv_at hl 0 rfl) ?_
  refine lv_iconst (v := 0) hx hb (dAt dX7_readsDancers 1 rfl) (by decide) ?_
  refine x_pf C hw fl_X7_129 (hE.1 0) (nM hE (by decide)) rfl rfl rfl (dAt dX7_readsDancers 2 rfl) (fun σ2 H locs eσ2 hw => ?_)
  replace h := h σ2 eσ2
  refine lv_aload_n hx hb (dAt dX7_readsDancers 3 rfl) rfl (lv_at hl 0 rfl) ?_
  refine x_getr C hw fl_X7_25 (hE.1 0) (nM hE (by decide)) rfl (dAt dX7_readsDancers 4 rfl) ?_
  refine lv_iconst (v := 0) hx hb (dAt dX7_readsDancers 5 rfl) (by decide) ?_
  refine x_ild C hw (hE.1 6) (nM hE (by decide)) (vin rfl) rfl (dAt dX7_readsDancers 6 rfl) ?_
  refine lv_topi (fun x1_11 ex1_11 => ?_)
  replace h := h x1_11 ex1_11
  refine lv_istore_n (lv' := [(1, .int x1_11), (0, .ref (gE E 0))]) hx hb (dAt dX7_readsDancers 7 rfl) rfl hl (by decide) rfl (fun ls hl => ?_)
  refine lv_iconst (v := 0) hx hb (dAt dX7_readsDancers 8 rfl) (by decide) ?_
  refine lv_istore_n (lv' := [(2, .int (0 : Int32)), (1, .int x1_11), (0, .ref (gE E 0))]) hx hb (dAt dX7_readsDancers 9 rfl) rfl hl (by decide) rfl (fun ls hl => ?_)
  obtain ⟨n14, h⟩ := h
  exact kX7_readsDancers_14 hE C hr hlk n14 x1_11 (0 : Int32) σ2  _ _ _ hw (lv_sub hl [2, 1, 0] rfl) h
def tX7_takes : List (Nat × Instr × Nat) := [(0, .aload_n 0, 1), (1, .getfield 46, 3), (4, .iload_n 1, 1), (5, .dup2, 1), (6, .iaload, 1), (7, .iload_n 3, 1), (8, .iadd, 1), (9, .iastore, 1), (10, .aload_n 0, 1), (11, .getfield 46, 3), (14, .iload_n 2, 1), (15, .dup2, 1), (16, .iaload, 1), (17, .iload_n 3, 1), (18, .iadd, 1), (19, .iastore, 1), (20, .return_, 1)]
theorem dX7_takes : dOk cX7_takes tX7_takes = true := by decide +kernel
abbrev rX7_takes : Room := { frames := 0, cells := 0, slots := 0, locals := 0 }
def wX7_takes (x1 : Int32) (x2 : Int32) (x3 : Int32) (σ : Mem) (Q : Mem → Prop) : Prop := (vp_in x1 8 ∧ (vp_in x1 8 ∧ (∀ σ9 : Mem, σ9 = um σ 13 (x1).toNatClampNeg ((σ 13 (x1).toNatClampNeg) + x3) → (vp_in x2 8 ∧ (vp_in x2 8 ∧ (∀ σ19 : Mem, σ19 = um σ9 13 (x2).toNatClampNeg ((σ9 13 (x2).toNatClampNeg) + x3) → (Q σ19)))))))
set_option maxHeartbeats 4000000 in
set_option maxRecDepth 100000 in
theorem kX7_takes (l : Launch) (E : wE) (hE : wM E) (x1 : Int32) (x2 : Int32) (x3 : Int32) (σ : Mem) (Q : Mem → Prop) (h : wX7_takes x1 x2 x3 σ Q) : Met l yX7_takes (Cond.code yX7_takes cX7_takes 4 none :: TB) rX7_takes (wPc E σ [.ref (gE E 0), .int x1, .int x2, .int x3]) (wQv E Q) 0 0 (wA E) := by
  refine wMet (by decide) hE.2.2 (Nat.le_of_ble_eq_true rfl) ?_
  intro p e s m args below meth c ls C hr hlk hl hw
  have hx := C.1.1
  have hb := C.1.2.1
  replace C : Cx p s m args c cX7_takes 4 RX7 E (wA E) := C
  replace hl : lv_has ls 4 [(0, .ref (gE E 0)), (1, .int x1), (2, .int x2), (3, .int x3)] := hl
  unfold wX7_takes at h
  refine lv_aload_n hx hb (dAt dX7_takes 0 rfl) rfl (lv_at hl 0 rfl) ?_
  refine x_getr C hw fl_X7_46 (hE.1 0) (nM hE (by decide)) rfl (dAt dX7_takes 1 rfl) ?_
  refine lv_iload_n hx hb (dAt dX7_takes 2 rfl) rfl (lv_at hl 1 rfl) ?_
  refine lv_dup2_11 hx hb (dAt dX7_takes 3 rfl) rfl rfl ?_
  obtain ⟨z6, h⟩ := h
  refine x_ild C hw (hE.1 13) (nM hE (by decide)) z6 rfl (dAt dX7_takes 4 rfl) ?_
  refine lv_iload_n hx hb (dAt dX7_takes 5 rfl) rfl (lv_at hl 3 rfl) ?_
  refine lv_iadd hx hb (dAt dX7_takes 6 rfl) ?_
  obtain ⟨z9, h⟩ := h
  refine x_ist C hw (hE.1 13) (nM hE (by decide)) z9 rfl (dAt dX7_takes 7 rfl) (fun σ9 H locs eσ9 hw => ?_)
  replace h := h σ9 eσ9
  refine lv_aload_n hx hb (dAt dX7_takes 8 rfl) rfl (lv_at hl 0 rfl) ?_
  refine x_getr C hw fl_X7_46 (hE.1 0) (nM hE (by decide)) rfl (dAt dX7_takes 9 rfl) ?_
  refine lv_iload_n hx hb (dAt dX7_takes 10 rfl) rfl (lv_at hl 2 rfl) ?_
  refine lv_dup2_11 hx hb (dAt dX7_takes 11 rfl) rfl rfl ?_
  obtain ⟨z16, h⟩ := h
  refine x_ild C hw (hE.1 13) (nM hE (by decide)) z16 rfl (dAt dX7_takes 12 rfl) ?_
  refine lv_iload_n hx hb (dAt dX7_takes 13 rfl) rfl (lv_at hl 3 rfl) ?_
  refine lv_iadd hx hb (dAt dX7_takes 14 rfl) ?_
  obtain ⟨z19, h⟩ := h
  refine x_ist C hw (hE.1 13) (nM hE (by decide)) z19 rfl (dAt dX7_takes 15 rfl) (fun σ19 H locs eσ19 hw => ?_)
  replace h := h σ19 eσ19
  exact x_vret C hw hr hlk h (dAt dX7_takes 16 rfl)
def tX7_weaves : List (Nat × Instr × Nat) := [(0, .aload_n 0, 1), (1, .getfield 178, 3), (4, .iconst 1, 1), (5, .isub, 1), (6, .istore 4, 2), (8, .aload_n 0, 1), (9, .getfield 178, 3), (12, .ifCond .le 71, 3), (15, .aload_n 0, 1), (16, .getfield 49, 3), (19, .iload 4, 2), (21, .iaload, 1), (22, .iload_n 2, 1), (23, .if_icmp .ne 60, 3), (26, .aload_n 0, 1), (27, .getfield 52, 3), (30, .iload 4, 2), (32, .iaload, 1), (33, .iload_n 3, 1), (34, .if_icmp .ne 49, 3), (37, .aload_n 0, 1), (38, .getfield 55, 3), (41, .iload 4, 2), (43, .iaload, 1), (44, .aload_n 0, 1), (45, .getfield 43, 3), (48, .iload_n 2, 1), (49, .iaload, 1), (50, .if_icmp .eq 33, 3), (53, .aload_n 0, 1), (54, .dup, 1), (55, .getfield 178, 3), (58, .iconst 1, 1), (59, .isub, 1), (60, .putfield 178, 3), (63, .aload_n 0, 1), (64, .dup, 1), (65, .getfield 181, 3), (68, .iconst 1, 1), (69, .iadd, 1), (70, .putfield 181, 3), (73, .aload_n 0, 1), (74, .iload_n 2, 1), (75, .iload_n 3, 1), (76, .iconst 1, 1), (77, .invokevirtual 184, 3), (80, .goto 93, 3), (83, .aload_n 0, 1), (84, .getfield 46, 3), (87, .iload_n 2, 1), (88, .iaload, 1), (89, .ifCond .le 84, 3), (92, .aload_n 0, 1), (93, .getfield 46, 3), (96, .iload_n 3, 1), (97, .iaload, 1), (98, .ifCond .le 75, 3), (101, .aload_n 0, 1), (102, .getfield 49, 3), (105, .aload_n 0, 1), (106, .getfield 178, 3), (109, .iload_n 2, 1), (110, .iastore, 1), (111, .aload_n 0, 1), (112, .getfield 52, 3), (115, .aload_n 0, 1), (116, .getfield 178, 3), (119, .iload_n 3, 1), (120, .iastore, 1), (121, .aload_n 0, 1), (122, .getfield 55, 3), (125, .aload_n 0, 1), (126, .getfield 178, 3), (129, .aload_n 0, 1), (130, .getfield 43, 3), (133, .iload_n 2, 1), (134, .iaload, 1), (135, .iastore, 1), (136, .aload_n 0, 1), (137, .getfield 58, 3), (140, .aload_n 0, 1), (141, .getfield 178, 3), (144, .iload_n 1, 1), (145, .iastore, 1), (146, .aload_n 0, 1), (147, .dup, 1), (148, .getfield 178, 3), (151, .iconst 1, 1), (152, .iadd, 1), (153, .putfield 178, 3), (156, .aload_n 0, 1), (157, .dup, 1), (158, .getfield 188, 3), (161, .iconst 1, 1), (162, .iadd, 1), (163, .putfield 188, 3), (166, .aload_n 0, 1), (167, .iload_n 2, 1), (168, .iload_n 3, 1), (169, .iconst (-1), 1), (170, .invokevirtual 184, 3), (173, .return_, 1)]
theorem dX7_weaves : dOk cX7_weaves tX7_weaves = true := by decide +kernel
abbrev rX7_weaves : Room := { frames := 1, cells := 0, slots := 0, locals := 23 }
def wX7_weaves_83 (Q : Mem → Prop) (x1 : Int32) (x2 : Int32) (x3 : Int32) (σ : Mem) : Prop := (vp_in x2 8 ∧ ((((σ 13 (x2).toNatClampNeg) ≤ 0) → (Q σ)) ∧ ((¬ (σ 13 (x2).toNatClampNeg) ≤ 0) → (vp_in x3 8 ∧ ((((σ 13 (x3).toNatClampNeg) ≤ 0) → (Q σ)) ∧ ((¬ (σ 13 (x3).toNatClampNeg) ≤ 0) → (vp_in (σ 0 20) 120 ∧ (∀ σ110 : Mem, σ110 = um σ 14 ((σ 0 20)).toNatClampNeg x2 → (vp_in (σ110 0 20) 120 ∧ (∀ σ120 : Mem, σ120 = um σ110 15 ((σ110 0 20)).toNatClampNeg x3 → (vp_in x2 8 ∧ (vp_in (σ120 0 20) 120 ∧ (∀ σ135 : Mem, σ135 = um σ120 16 ((σ120 0 20)).toNatClampNeg (σ120 12 (x2).toNatClampNeg) → (vp_in (σ135 0 20) 120 ∧ (∀ σ145 : Mem, σ145 = um σ135 17 ((σ135 0 20)).toNatClampNeg x1 → (∀ σ153 : Mem, σ153 = um σ145 0 20 ((σ145 0 20) + (1 : Int32)) → (∀ σ163 : Mem, σ163 = um σ153 0 26 ((σ153 0 26) + (1 : Int32)) → (wX7_takes x2 x3 (-1 : Int32) σ163 (fun σ170 => (Q σ170))))))))))))))))))))
def wX7_weaves (x1 : Int32) (x2 : Int32) (x3 : Int32) (σ : Mem) (Q : Mem → Prop) : Prop := (∀ x4_6 : Int32, x4_6 = ((σ 0 20) - (1 : Int32)) → ((((σ 0 20) ≤ 0) → (wX7_weaves_83 Q x1 x2 x3 σ)) ∧ ((¬ (σ 0 20) ≤ 0) → (vp_in x4_6 120 ∧ (((¬ (σ 14 (x4_6).toNatClampNeg) = x2) → (wX7_weaves_83 Q x1 x2 x3 σ)) ∧ (((σ 14 (x4_6).toNatClampNeg) = x2) → (vp_in x4_6 120 ∧ (((¬ (σ 15 (x4_6).toNatClampNeg) = x3) → (wX7_weaves_83 Q x1 x2 x3 σ)) ∧ (((σ 15 (x4_6).toNatClampNeg) = x3) → (vp_in x4_6 120 ∧ (vp_in x2 8 ∧ ((((σ 16 (x4_6).toNatClampNeg) = (σ 12 (x2).toNatClampNeg)) → (wX7_weaves_83 Q x1 x2 x3 σ)) ∧ ((¬ (σ 16 (x4_6).toNatClampNeg) = (σ 12 (x2).toNatClampNeg)) → (∀ σ60 : Mem, σ60 = um σ 0 20 ((σ 0 20) - (1 : Int32)) → (∀ σ70 : Mem, σ70 = um σ60 0 27 ((σ60 0 27) + (1 : Int32)) → (wX7_takes x2 x3 (1 : Int32) σ70 (fun σ77 => (Q σ77))))))))))))))))))
set_option maxHeartbeats 4000000 in
set_option maxRecDepth 100000 in
theorem kX7_weaves_83 {p : Program} {l : Launch} {e : Env} {s : State} {m : MethodId} {args : Array Value} {below : List Frame} {meth : Method} {c : Code} {E : wE} (hE : wM E) (C : Cx p s m args c cX7_weaves 5 RX7 E (wA E)) (hr : meth.sig.returnType = none) (hlk : meth.locks = false) {Q : Mem → Prop} : ∀ (x1 : Int32) (x2 : Int32) (x3 : Int32) (σ : Mem) (H : Heap) (locs : List Loc) (ls : Array Slot), wd E (wA E) s σ H locs → lv_has ls 5 [(0, .ref (gE E 0)), (1, .int x1), (2, .int x2), (3, .int x3)] → wX7_weaves_83 Q x1 x2 x3 σ → W p l e rX7_weaves s m args below meth c H locs 0 0 (MQ below (wQv E Q) args s 0 0 (wA E)) (F0 m 83 ls []) := by
  have hx := C.1.1
  have hb := C.1.2.1
  intro x1 x2 x3 σ  H locs ls hw hl h
  unfold wX7_weaves_83 at h
  refine lv_aload_n hx hb (dAt dX7_weaves 47 rfl) rfl (lv_at hl 0 rfl) ?_
  refine x_getr C hw fl_X7_46 (hE.1 0) (nM hE (by decide)) rfl (dAt dX7_weaves 48 rfl) ?_
  refine lv_iload_n hx hb (dAt dX7_weaves 49 rfl) rfl (lv_at hl 2 rfl) ?_
  obtain ⟨z88, h⟩ := h
  refine x_ild C hw (hE.1 13) (nM hE (by decide)) z88 rfl (dAt dX7_weaves 50 rfl) ?_
  refine lv_if_le (tgt := 173) hx hb (dAt dX7_weaves 51 rfl) (by decide) (fun c89 => ?_) (fun c89 => ?_)
  · replace h := h.1 c89
    exact x_vret C hw hr hlk h (dAt dX7_weaves 101 rfl)
  · replace h := h.2 c89
    refine lv_aload_n hx hb (dAt dX7_weaves 52 rfl) rfl (lv_at hl 0 rfl) ?_
    refine x_getr C hw fl_X7_46 (hE.1 0) (nM hE (by decide)) rfl (dAt dX7_weaves 53 rfl) ?_
    refine lv_iload_n hx hb (dAt dX7_weaves 54 rfl) rfl (lv_at hl 3 rfl) ?_
    obtain ⟨z97, h⟩ := h
    refine x_ild C hw (hE.1 13) (nM hE (by decide)) z97 rfl (dAt dX7_weaves 55 rfl) ?_
    refine lv_if_le (tgt := 173) hx hb (dAt dX7_weaves 56 rfl) (by decide) (fun c98 => ?_) (fun c98 => ?_)
    · replace h := h.1 c98
      exact x_vret C hw hr hlk h (dAt dX7_weaves 101 rfl)
    · replace h := h.2 c98
      refine lv_aload_n hx hb (dAt dX7_weaves 57 rfl) rfl (lv_at hl 0 rfl) ?_
      refine x_getr C hw fl_X7_49 (hE.1 0) (nM hE (by decide)) rfl (dAt dX7_weaves 58 rfl) ?_
      refine lv_aload_n hx hb (dAt dX7_weaves 59 rfl) rfl (lv_at hl 0 rfl) ?_
      refine x_geti C hw fl_X7_178 (hE.1 0) (nM hE (by decide)) rfl (dAt dX7_weaves 60 rfl) ?_
      refine lv_iload_n hx hb (dAt dX7_weaves 61 rfl) rfl (lv_at hl 2 rfl) ?_
      obtain ⟨z110, h⟩ := h
      refine x_ist C hw (hE.1 14) (nM hE (by decide)) z110 rfl (dAt dX7_weaves 62 rfl) (fun σ110 H locs eσ110 hw => ?_)
      replace h := h σ110 eσ110
      refine lv_aload_n hx hb (dAt dX7_weaves 63 rfl) rfl (lv_at hl 0 rfl) ?_
      refine x_getr C hw fl_X7_52 (hE.1 0) (nM hE (by decide)) rfl (dAt dX7_weaves 64 rfl) ?_
      refine lv_aload_n hx hb (dAt dX7_weaves 65 rfl) rfl (lv_at hl 0 rfl) ?_
      refine x_geti C hw fl_X7_178 (hE.1 0) (nM hE (by decide)) rfl (dAt dX7_weaves 66 rfl) ?_
      refine lv_iload_n hx hb (dAt dX7_weaves 67 rfl) rfl (lv_at hl 3 rfl) ?_
      obtain ⟨z120, h⟩ := h
      refine x_ist C hw (hE.1 15) (nM hE (by decide)) z120 rfl (dAt dX7_weaves 68 rfl) (fun σ120 H locs eσ120 hw => ?_)
      replace h := h σ120 eσ120
      refine lv_aload_n hx hb (dAt dX7_weaves 69 rfl) rfl (lv_at hl 0 rfl) ?_
      refine x_getr C hw fl_X7_55 (hE.1 0) (nM hE (by decide)) rfl (dAt dX7_weaves 70 rfl) ?_
      refine lv_aload_n hx hb (dAt dX7_weaves 71 rfl) rfl (lv_at hl 0 rfl) ?_
      refine x_geti C hw fl_X7_178 (hE.1 0) (nM hE (by decide)) rfl (dAt dX7_weaves 72 rfl) ?_
      refine lv_aload_n hx hb (dAt dX7_weaves 73 rfl) rfl (lv_at hl 0 rfl) ?_
      refine x_getr C hw fl_X7_43 (hE.1 0) (nM hE (by decide)) rfl (dAt dX7_weaves 74 rfl) ?_
      refine lv_iload_n hx hb (dAt dX7_weaves 75 rfl) rfl (lv_at hl 2 rfl) ?_
      obtain ⟨z134, h⟩ := h
      refine x_ild C hw (hE.1 12) (nM hE (by decide)) z134 rfl (dAt dX7_weaves 76 rfl) ?_
      obtain ⟨z135, h⟩ := h
      refine x_ist C hw (hE.1 16) (nM hE (by decide)) z135 rfl (dAt dX7_weaves 77 rfl) (fun σ135 H locs eσ135 hw => ?_)
      replace h := h σ135 eσ135
      refine lv_aload_n hx hb (dAt dX7_weaves 78 rfl) rfl (lv_at hl 0 rfl) ?_
      refine x_getr C hw fl_X7_58 (hE.1 0) (nM hE (by decide)) rfl (dAt dX7_weaves 79 rfl) ?_
      refine lv_aload_n hx hb (dAt dX7_weaves 80 rfl) rfl (lv_at hl 0 rfl) ?_
      refine x_geti C hw fl_X7_178 (hE.1 0) (nM hE (by decide)) rfl (dAt dX7_weaves 81 rfl) ?_
      refine lv_iload_n hx hb (dAt dX7_weaves 82 rfl) rfl (lv_at hl 1 rfl) ?_
      obtain ⟨z145, h⟩ := h
      refine x_ist C hw (hE.1 17) (nM hE (by decide)) z145 rfl (dAt dX7_weaves 83 rfl) (fun σ145 H locs eσ145 hw => ?_)
      replace h := h σ145 eσ145
      refine lv_aload_n hx hb (dAt dX7_weaves 84 rfl) rfl (lv_at hl 0 rfl) ?_
      refine lv_dup hx hb (dAt dX7_weaves 85 rfl) rfl ?_
      refine x_geti C hw fl_X7_178 (hE.1 0) (nM hE (by decide)) rfl (dAt dX7_weaves 86 rfl) ?_
      refine lv_iconst (v := 1) hx hb (dAt dX7_weaves 87 rfl) (by decide) ?_
      refine lv_iadd hx hb (dAt dX7_weaves 88 rfl) ?_
      refine x_pf C hw fl_X7_178 (hE.1 0) (nM hE (by decide)) rfl rfl rfl (dAt dX7_weaves 89 rfl) (fun σ153 H locs eσ153 hw => ?_)
      replace h := h σ153 eσ153
      refine lv_aload_n hx hb (dAt dX7_weaves 90 rfl) rfl (lv_at hl 0 rfl) ?_
      refine lv_dup hx hb (dAt dX7_weaves 91 rfl) rfl ?_
      refine x_geti C hw fl_X7_188 (hE.1 0) (nM hE (by decide)) rfl (dAt dX7_weaves 92 rfl) ?_
      refine lv_iconst (v := 1) hx hb (dAt dX7_weaves 93 rfl) (by decide) ?_
      refine lv_iadd hx hb (dAt dX7_weaves 94 rfl) ?_
      refine x_pf C hw fl_X7_188 (hE.1 0) (nM hE (by decide)) rfl rfl rfl (dAt dX7_weaves 95 rfl) (fun σ163 H locs eσ163 hw => ?_)
      replace h := h σ163 eσ163
      refine lv_aload_n hx hb (dAt dX7_weaves 96 rfl) rfl (lv_at hl 0 rfl) ?_
      refine lv_iload_n hx hb (dAt dX7_weaves 97 rfl) rfl (lv_at hl 2 rfl) ?_
      refine lv_iload_n hx hb (dAt dX7_weaves 98 rfl) rfl (lv_at hl 3 rfl) ?_
      refine lv_iconst (v := -1) hx hb (dAt dX7_weaves 99 rfl) (by decide) ?_
      refine x_callv C hw (x_runV (As := [.int x2, .int x3, .int (-1 : Int32)]) (rest := []) C hw (kX7_takes l E hE x2 x3 (-1 : Int32) σ163 _ h) mtX7_takes lk_X7_184 (hE.1 0) (nM hE (by decide)) rfl ⟨by decide, by decide⟩ ⟨rfl, rfl⟩ rfl hl.1 rfl (by decide) (dAt dX7_weaves 100 rfl) ⟨Nat.zero_le _, Nat.zero_le _⟩) (fun σ170 H locs h hw => ?_)
      exact x_vret C hw hr hlk h (dAt dX7_weaves 101 rfl)
set_option maxHeartbeats 4000000 in
set_option maxRecDepth 100000 in
theorem kX7_weaves (l : Launch) (E : wE) (hE : wM E) (x1 : Int32) (x2 : Int32) (x3 : Int32) (σ : Mem) (Q : Mem → Prop) (h : wX7_weaves x1 x2 x3 σ Q) : Met l yX7_weaves (Cond.code yX7_weaves cX7_weaves 5 none :: TB) rX7_weaves (wPc E σ [.ref (gE E 0), .int x1, .int x2, .int x3]) (wQv E Q) 0 0 (wA E) := by
  refine wMet (by decide) hE.2.2 (Nat.le_of_ble_eq_true rfl) ?_
  intro p e s m args below meth c ls C hr hlk hl hw
  have hx := C.1.1
  have hb := C.1.2.1
  replace C : Cx p s m args c cX7_weaves 5 RX7 E (wA E) := C
  replace hl : lv_has ls 5 [(0, .ref (gE E 0)), (1, .int x1), (2, .int x2), (3, .int x3)] := hl
  unfold wX7_weaves at h
  refine lv_aload_n hx hb (dAt dX7_weaves 0 rfl) rfl (lv_at hl 0 rfl) ?_
  refine x_geti C hw fl_X7_178 (hE.1 0) (nM hE (by decide)) rfl (dAt dX7_weaves 1 rfl) ?_
  refine lv_iconst (v := 1) hx hb (dAt dX7_weaves 2 rfl) (by decide) ?_
  refine lv_isub hx hb (dAt dX7_weaves 3 rfl) ?_
  refine lv_topi (fun x4_6 ex4_6 => ?_)
  replace h := h x4_6 ex4_6
  refine lv_istore (lv' := [(4, .int x4_6), (0, .ref (gE E 0)), (1, .int x1), (2, .int x2), (3, .int x3)]) hx hb (dAt dX7_weaves 4 rfl) hl (by decide) rfl (fun ls hl => ?_)
  refine lv_aload_n hx hb (dAt dX7_weaves 5 rfl) rfl (lv_at hl 1 rfl) ?_
  refine x_geti C hw fl_X7_178 (hE.1 0) (nM hE (by decide)) rfl (dAt dX7_weaves 6 rfl) ?_
  refine lv_if_le (tgt := 83) hx hb (dAt dX7_weaves 7 rfl) (by decide) (fun c12 => ?_) (fun c12 => ?_)
  · replace h := h.1 c12
    exact kX7_weaves_83 hE C hr hlk x1 x2 x3 σ  _ _ _ hw (lv_sub hl [1, 2, 3, 4] rfl) h
  · replace h := h.2 c12
    refine lv_aload_n hx hb (dAt dX7_weaves 8 rfl) rfl (lv_at hl 1 rfl) ?_
    refine x_getr C hw fl_X7_49 (hE.1 0) (nM hE (by decide)) rfl (dAt dX7_weaves 9 rfl) ?_
    refine lv_iload hx hb (dAt dX7_weaves 10 rfl) (lv_at hl 0 rfl) ?_
    obtain ⟨z21, h⟩ := h
    refine x_ild C hw (hE.1 14) (nM hE (by decide)) z21 rfl (dAt dX7_weaves 11 rfl) ?_
    refine lv_iload_n hx hb (dAt dX7_weaves 12 rfl) rfl (lv_at hl 3 rfl) ?_
    refine lv_icmp_ne (tgt := 83) hx hb (dAt dX7_weaves 13 rfl) (by decide) (fun c23 => ?_) (fun c23 => ?_)
    · replace h := h.1 c23
      exact kX7_weaves_83 hE C hr hlk x1 x2 x3 σ  _ _ _ hw (lv_sub hl [1, 2, 3, 4] rfl) h
    · replace h := h.2 c23
      refine lv_aload_n hx hb (dAt dX7_weaves 14 rfl) rfl (lv_at hl 1 rfl) ?_
      refine x_getr C hw fl_X7_52 (hE.1 0) (nM hE (by decide)) rfl (dAt dX7_weaves 15 rfl) ?_
      refine lv_iload hx hb (dAt dX7_weaves 16 rfl) (lv_at hl 0 rfl) ?_
      obtain ⟨z32, h⟩ := h
      refine x_ild C hw (hE.1 15) (nM hE (by decide)) z32 rfl (dAt dX7_weaves 17 rfl) ?_
      refine lv_iload_n hx hb (dAt dX7_weaves 18 rfl) rfl (lv_at hl 4 rfl) ?_
      refine lv_icmp_ne (tgt := 83) hx hb (dAt dX7_weaves 19 rfl) (by decide) (fun c34 => ?_) (fun c34 => ?_)
      · replace h := h.1 c34
        exact kX7_weaves_83 hE C hr hlk x1 x2 x3 σ  _ _ _ hw (lv_sub hl [1, 2, 3, 4] rfl) h
      · replace h := h.2 c34
        refine lv_aload_n hx hb (dAt dX7_weaves 20 rfl) rfl (lv_at hl 1 rfl) ?_
        refine x_getr C hw fl_X7_55 (hE.1 0) (nM hE (by decide)) rfl (dAt dX7_weaves 21 rfl) ?_
        refine lv_iload hx hb (dAt dX7_weaves 22 rfl) (lv_at hl 0 rfl) ?_
        obtain ⟨z43, h⟩ := h
        refine x_ild C hw (hE.1 16) (nM hE (by decide)) z43 rfl (dAt dX7_weaves 23 rfl) ?_
        refine lv_aload_n hx hb (dAt dX7_weaves 24 rfl) rfl (lv_at hl 1 rfl) ?_
        refine x_getr C hw fl_X7_43 (hE.1 0) (nM hE (by decide)) rfl (dAt dX7_weaves 25 rfl) ?_
        refine lv_iload_n hx hb (dAt dX7_weaves 26 rfl) rfl (lv_at hl 3 rfl) ?_
        obtain ⟨z49, h⟩ := h
        refine x_ild C hw (hE.1 12) (nM hE (by decide)) z49 rfl (dAt dX7_weaves 27 rfl) ?_
        refine lv_icmp_eq (tgt := 83) hx hb (dAt dX7_weaves 28 rfl) (by decide) (fun c50 => ?_) (fun c50 => ?_)
        · replace h := h.1 c50
          exact kX7_weaves_83 hE C hr hlk x1 x2 x3 σ  _ _ _ hw (lv_sub hl [1, 2, 3, 4] rfl) h
        · replace h := h.2 c50
          refine lv_aload_n hx hb (dAt dX7_weaves 29 rfl) rfl (lv_at hl 1 rfl) ?_
          refine lv_dup hx hb (dAt dX7_weaves 30 rfl) rfl ?_
          refine x_geti C hw fl_X7_178 (hE.1 0) (nM hE (by decide)) rfl (dAt dX7_weaves 31 rfl) ?_
          refine lv_iconst (v := 1) hx hb (dAt dX7_weaves 32 rfl) (by decide) ?_
          refine lv_isub hx hb (dAt dX7_weaves 33 rfl) ?_
          refine x_pf C hw fl_X7_178 (hE.1 0) (nM hE (by decide)) rfl rfl rfl (dAt dX7_weaves 34 rfl) (fun σ60 H locs eσ60 hw => ?_)
          replace h := h σ60 eσ60
          refine lv_aload_n hx hb (dAt dX7_weaves 35 rfl) rfl (lv_at hl 1 rfl) ?_
          refine lv_dup hx hb (dAt dX7_weaves 36 rfl) rfl ?_
          refine x_geti C hw fl_X7_181 (hE.1 0) (nM hE (by decide)) rfl (dAt dX7_weaves 37 rfl) ?_
          refine lv_iconst (v := 1) hx hb (dAt dX7_weaves 38 rfl) (by decide) ?_
          refine lv_iadd hx hb (dAt dX7_weaves 39 rfl) ?_
          refine x_pf C hw fl_X7_181 (hE.1 0) (nM hE (by decide)) rfl rfl rfl (dAt dX7_weaves 40 rfl) (fun σ70 H locs eσ70 hw => ?_)
          replace h := h σ70 eσ70
          refine lv_aload_n hx hb (dAt dX7_weaves 41 rfl) rfl (lv_at hl 1 rfl) ?_
          refine lv_iload_n hx hb (dAt dX7_weaves 42 rfl) rfl (lv_at hl 3 rfl) ?_
          refine lv_iload_n hx hb (dAt dX7_weaves 43 rfl) rfl (lv_at hl 4 rfl) ?_
          refine lv_iconst (v := 1) hx hb (dAt dX7_weaves 44 rfl) (by decide) ?_
          refine x_callv C hw (x_runV (As := [.int x2, .int x3, .int (1 : Int32)]) (rest := []) C hw (kX7_takes l E hE x2 x3 (1 : Int32) σ70 _ h) mtX7_takes lk_X7_184 (hE.1 0) (nM hE (by decide)) rfl ⟨by decide, by decide⟩ ⟨rfl, rfl⟩ rfl hl.1 rfl (by decide) (dAt dX7_weaves 45 rfl) ⟨Nat.zero_le _, Nat.zero_le _⟩) (fun σ77 H locs h hw => ?_)
          refine lv_goto (tgt := 173) hx hb (dAt dX7_weaves 46 rfl) (by decide) ?_
          exact x_vret C hw hr hlk h (dAt dX7_weaves 101 rfl)
