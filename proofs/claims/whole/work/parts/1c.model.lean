def tX7_top : List (Nat × Instr × Nat) := [(0, .aload_n 0, 1), (1, .invokevirtual 219, 3), (4, .aload_n 0, 1), (5, .invokevirtual 259, 3), (8, .ireturn, 1)]
theorem dX7_top : dOk cX7_top tX7_top = true := by decide +kernel
abbrev rX7_top : Room := { frames := 7, cells := 0, slots := 0, locals := 159 }
def wX7_top (σ : Mem) (Q : Int32 → Mem → Prop) : Prop := (wX7_find  σ (fun σ1 => (wX7_topNow  σ1 (fun r5 σ5 => (Q r5 σ5)))))
set_option maxHeartbeats 4000000 in
set_option maxRecDepth 100000 in
theorem kX7_top (l : Launch) (E : wE) (hE : wM E) (σ : Mem) (Q : Int32 → Mem → Prop) (h : wX7_top  σ Q) : Met l yX7_top (Cond.code yX7_top cX7_top 1 (some .int) :: TB) rX7_top (wPc E σ [.ref (gE E 0)]) (wQi E Q) 0 0 (wA E) := by
  refine wMet (by decide) hE.2.2 (Nat.le_of_ble_eq_true rfl) ?_
  intro p e s m args below meth c ls C hr hlk hl hw
  have hx := C.1.1
  have hb := C.1.2.1
  replace C : Cx p s m args c cX7_top 1 RX7 E (wA E) := C
  replace hl : lv_has ls 1 [(0, .ref (gE E 0))] := hl
  unfold wX7_top at h
  refine lv_aload_n hx hb (dAt dX7_top 0 rfl) rfl (lv_at hl 0 rfl) ?_
  refine x_callv C hw (x_runV (As := []) (rest := []) C hw (kX7_find l E hE  σ _ h) mtX7_find lk_X7_219 (hE.1 0) (nM hE (by decide)) rfl ⟨by decide, by decide⟩ ⟨rfl, rfl⟩ rfl hl.1 rfl (Nat.le_of_ble_eq_true rfl) (dAt dX7_top 1 rfl) ⟨Nat.zero_le _, Nat.zero_le _⟩) (fun σ1 H locs h hw => ?_)
  refine lv_aload_n hx hb (dAt dX7_top 2 rfl) rfl (lv_at hl 0 rfl) ?_
  refine x_calli C hw (x_runV (As := []) (rest := []) C hw (kX7_topNow l E hE  σ1 _ h) mtX7_topNow lk_X7_259 (hE.1 0) (nM hE (by decide)) rfl ⟨by decide, by decide⟩ ⟨rfl, rfl⟩ rfl hl.1 rfl (Nat.le_of_ble_eq_true rfl) (dAt dX7_top 3 rfl) ⟨Nat.zero_le _, Nat.zero_le _⟩) (fun r5 σ5 H locs h hw => ?_)
  exact x_iret C hw hr hlk h (dAt dX7_top 4 rfl)
def tX7_lacksNow : List (Nat × Instr × Nat) := [(0, .iconst 0, 1), (1, .istore_n 1, 1), (2, .iconst 0, 1), (3, .istore_n 2, 1), (4, .iload_n 2, 1), (5, .aload_n 0, 1), (6, .getfield 129, 3), (9, .if_icmp .ge 28, 3), (12, .iload_n 1, 1), (13, .aload_n 0, 1), (14, .getfield 46, 3), (17, .iload_n 2, 1), (18, .iaload, 1), (19, .ifCond .ne 9, 3), (22, .iconst 1, 1), (23, .iload_n 2, 1), (24, .ishl, 1), (25, .goto 4, 3), (28, .iconst 0, 1), (29, .ior, 1), (30, .istore_n 1, 1), (31, .iinc 2 1, 3), (34, .goto (-30), 3), (37, .iload_n 1, 1), (38, .ireturn, 1)]
theorem dX7_lacksNow : dOk cX7_lacksNow tX7_lacksNow = true := by decide +kernel
abbrev rX7_lacksNow : Room := { frames := 0, cells := 0, slots := 0, locals := 0 }
def wX7_lacksNow_4 (Q : Int32 → Mem → Prop) : Nat → Int32 → Int32 → Mem → Prop
  | 0, _, _, _ => False
  | n + 1, x1, x2, σ => ((((σ 0 7) ≤ x2) → (Q x1 σ)) ∧ ((¬ (σ 0 7) ≤ x2) → (vp_in x2 8 ∧ (∀ x1_30 : Int32, x1_30 = (x1 ||| (if (σ 13 (x2).toNatClampNeg) = 0 then ((1 : Int32) <<< (x2 &&& 31)) else (0 : Int32))) → (wX7_lacksNow_4 Q n x1_30 (x2 + (1 : Int32)) σ)))))
def wX7_lacksNow (σ : Mem) (Q : Int32 → Mem → Prop) : Prop := (∃ N4, wX7_lacksNow_4 Q N4 (0 : Int32) (0 : Int32) σ)
set_option maxHeartbeats 4000000 in
set_option maxRecDepth 100000 in
theorem kX7_lacksNow_4 {p : Program} {l : Launch} {e : Env} {s : State} {m : MethodId} {args : Array Value} {below : List Frame} {meth : Method} {c : Code} {E : wE} (hE : wM E) (C : Cx p s m args c cX7_lacksNow 3 RX7 E (wA E)) (hr : meth.sig.returnType = (some .int)) (hlk : meth.locks = false) {Q : Int32 → Mem → Prop} : ∀ (n : Nat) (x1 : Int32) (x2 : Int32) (σ : Mem) (H : Heap) (locs : List Loc) (ls : Array Slot), wd E (wA E) s σ H locs → lv_has ls 3 [(0, .ref (gE E 0)), (1, .int x1), (2, .int x2)] → wX7_lacksNow_4 Q n x1 x2 σ → W p l e rX7_lacksNow s m args below meth c H locs 0 0 (MQ below (wQi E Q) args s 0 0 (wA E)) (F0 m 4 ls []) := by
  have hx := C.1.1
  have hb := C.1.2.1
  intro n
  induction n with
  | zero =>
    intro x1 x2 σ  H locs ls hw hl h
    exact h.elim
  | succ n ih =>
    intro x1 x2 σ  H locs ls hw hl h
    rw [wX7_lacksNow_4] at h
    refine lv_iload_n hx hb (dAt dX7_lacksNow 4 rfl) rfl (lv_at hl 2 rfl) ?_
    refine lv_aload_n hx hb (dAt dX7_lacksNow 5 rfl) rfl (lv_at hl 0 rfl) ?_
    refine x_geti C hw fl_X7_129 (hE.1 0) (nM hE (by decide)) rfl (dAt dX7_lacksNow 6 rfl) ?_
    refine lv_icmp_ge (tgt := 37) hx hb (dAt dX7_lacksNow 7 rfl) (by decide) (fun c9 => ?_) (fun c9 => ?_)
    · replace h := h.1 c9
      refine lv_iload_n hx hb (dAt dX7_lacksNow 23 rfl) rfl (lv_at hl 1 rfl) ?_
      exact x_iret C hw hr hlk h (dAt dX7_lacksNow 24 rfl)
    · replace h := h.2 c9
      refine lv_iload_n hx hb (dAt dX7_lacksNow 8 rfl) rfl (lv_at hl 1 rfl) ?_
      refine lv_aload_n hx hb (dAt dX7_lacksNow 9 rfl) rfl (lv_at hl 0 rfl) ?_
      refine x_getr C hw fl_X7_46 (hE.1 0) (nM hE (by decide)) rfl (dAt dX7_lacksNow 10 rfl) ?_
      refine lv_iload_n hx hb (dAt dX7_lacksNow 11 rfl) rfl (lv_at hl 2 rfl) ?_
      obtain ⟨z18, h⟩ := h
      refine x_ild C hw (hE.1 13) (nM hE (by decide)) z18 rfl (dAt dX7_lacksNow 12 rfl) ?_
      refine x_dia (ls := ls) (pcJ := 29) (cnd := (σ 13 (x2).toNatClampNeg) = 0) (a := ((1 : Int32) <<< (x2 &&& 31))) (b := (0 : Int32)) ([.int x1]) ?_ (fun ht19 hf19 => ?_)
      · refine lv_ior hx hb (dAt dX7_lacksNow 19 rfl) ?_
        refine lv_topi (fun x1_30 ex1_30 => ?_)
        replace h := h x1_30 ex1_30
        refine lv_istore_n (lv' := [(1, .int x1_30), (0, .ref (gE E 0)), (2, .int x2)]) hx hb (dAt dX7_lacksNow 20 rfl) rfl hl (by decide) rfl (fun ls hl => ?_)
        refine lv_iinc (v := (x2 + (1 : Int32))) (lv' := [(2, .int (x2 + (1 : Int32))), (1, .int x1_30), (0, .ref (gE E 0))]) hx hb (dAt dX7_lacksNow 21 rfl) hl (k := 2) rfl rfl (by decide) rfl (fun ls hl => ?_)
        refine lv_goto (tgt := 4) hx hb (dAt dX7_lacksNow 22 rfl) (by decide) ?_
        exact ih x1_30 (x2 + (1 : Int32)) σ  _ _ _ hw (lv_sub hl [2, 1, 0] rfl) h
      · refine lv_if_ne (tgt := 28) hx hb (dAt dX7_lacksNow 13 rfl) (by decide) (fun c19 => ?_) (fun c19 => ?_)
        · refine lv_iconst (v := 0) hx hb (dAt dX7_lacksNow 18 rfl) (by decide) ?_
          exact hf19 c19
        · refine lv_iconst (v := 1) hx hb (dAt dX7_lacksNow 14 rfl) (by decide) ?_
          refine lv_iload_n hx hb (dAt dX7_lacksNow 15 rfl) rfl (lv_at hl 2 rfl) ?_
          refine lv_ishl hx hb (dAt dX7_lacksNow 16 rfl) ?_
          refine lv_goto (tgt := 29) hx hb (dAt dX7_lacksNow 17 rfl) (by decide) ?_
          exact ht19 c19
set_option maxHeartbeats 4000000 in
set_option maxRecDepth 100000 in
theorem kX7_lacksNow (l : Launch) (E : wE) (hE : wM E) (σ : Mem) (Q : Int32 → Mem → Prop) (h : wX7_lacksNow  σ Q) : Met l yX7_lacksNow (Cond.code yX7_lacksNow cX7_lacksNow 3 (some .int) :: TB) rX7_lacksNow (wPc E σ [.ref (gE E 0)]) (wQi E Q) 0 0 (wA E) := by
  refine wMet (by decide) hE.2.2 (Nat.le_of_ble_eq_true rfl) ?_
  intro p e s m args below meth c ls C hr hlk hl hw
  have hx := C.1.1
  have hb := C.1.2.1
  replace C : Cx p s m args c cX7_lacksNow 3 RX7 E (wA E) := C
  replace hl : lv_has ls 3 [(0, .ref (gE E 0))] := hl
  unfold wX7_lacksNow at h
  refine lv_iconst (v := 0) hx hb (dAt dX7_lacksNow 0 rfl) (by decide) ?_
  refine lv_istore_n (lv' := [(1, .int (0 : Int32)), (0, .ref (gE E 0))]) hx hb (dAt dX7_lacksNow 1 rfl) rfl hl (by decide) rfl (fun ls hl => ?_)
  refine lv_iconst (v := 0) hx hb (dAt dX7_lacksNow 2 rfl) (by decide) ?_
  refine lv_istore_n (lv' := [(2, .int (0 : Int32)), (1, .int (0 : Int32)), (0, .ref (gE E 0))]) hx hb (dAt dX7_lacksNow 3 rfl) rfl hl (by decide) rfl (fun ls hl => ?_)
  obtain ⟨n4, h⟩ := h
  exact kX7_lacksNow_4 hE C hr hlk n4 (0 : Int32) (0 : Int32) σ  _ _ _ hw (lv_sub hl [2, 1, 0] rfl) h
def tX7_lacks_ : List (Nat × Instr × Nat) := [(0, .aload_n 0, 1), (1, .invokevirtual 219, 3), (4, .aload_n 0, 1), (5, .invokevirtual 262, 3), (8, .ireturn, 1)]
theorem dX7_lacks_ : dOk cX7_lacks_ tX7_lacks_ = true := by decide +kernel
abbrev rX7_lacks_ : Room := { frames := 7, cells := 0, slots := 0, locals := 159 }
def wX7_lacks_ (σ : Mem) (Q : Int32 → Mem → Prop) : Prop := (wX7_find  σ (fun σ1 => (wX7_lacksNow  σ1 (fun r5 σ5 => (Q r5 σ5)))))
set_option maxHeartbeats 4000000 in
set_option maxRecDepth 100000 in
theorem kX7_lacks_ (l : Launch) (E : wE) (hE : wM E) (σ : Mem) (Q : Int32 → Mem → Prop) (h : wX7_lacks_  σ Q) : Met l yX7_lacks_ (Cond.code yX7_lacks_ cX7_lacks_ 1 (some .int) :: TB) rX7_lacks_ (wPc E σ [.ref (gE E 0)]) (wQi E Q) 0 0 (wA E) := by
  refine wMet (by decide) hE.2.2 (Nat.le_of_ble_eq_true rfl) ?_
  intro p e s m args below meth c ls C hr hlk hl hw
  have hx := C.1.1
  have hb := C.1.2.1
  replace C : Cx p s m args c cX7_lacks_ 1 RX7 E (wA E) := C
  replace hl : lv_has ls 1 [(0, .ref (gE E 0))] := hl
  unfold wX7_lacks_ at h
  refine lv_aload_n hx hb (dAt dX7_lacks_ 0 rfl) rfl (lv_at hl 0 rfl) ?_
  refine x_callv C hw (x_runV (As := []) (rest := []) C hw (kX7_find l E hE  σ _ h) mtX7_find lk_X7_219 (hE.1 0) (nM hE (by decide)) rfl ⟨by decide, by decide⟩ ⟨rfl, rfl⟩ rfl hl.1 rfl (Nat.le_of_ble_eq_true rfl) (dAt dX7_lacks_ 1 rfl) ⟨Nat.zero_le _, Nat.zero_le _⟩) (fun σ1 H locs h hw => ?_)
  refine lv_aload_n hx hb (dAt dX7_lacks_ 2 rfl) rfl (lv_at hl 0 rfl) ?_
  refine x_calli C hw (x_runV (As := []) (rest := []) C hw (kX7_lacksNow l E hE  σ1 _ h) mtX7_lacksNow lk_X7_262 (hE.1 0) (nM hE (by decide)) rfl ⟨by decide, by decide⟩ ⟨rfl, rfl⟩ rfl hl.1 rfl (Nat.le_of_ble_eq_true rfl) (dAt dX7_lacks_ 3 rfl) ⟨Nat.zero_le _, Nat.zero_le _⟩) (fun r5 σ5 H locs h hw => ?_)
  exact x_iret C hw hr hlk h (dAt dX7_lacks_ 4 rfl)
def tX7_stepIn : List (Nat × Instr × Nat) := [(0, .aload_n 0, 1), (1, .getfield 31, 3), (4, .iload_n 1, 1), (5, .iaload, 1), (6, .istore_n 3, 1), (7, .iconst (-1), 1), (8, .istore 4, 2), (10, .iconst (-1), 1), (11, .istore 5, 2), (13, .iconst 0, 1), (14, .istore 6, 2), (16, .iload 6, 2), (18, .iconst 4, 1), (19, .if_icmp .ge 50, 3), (22, .aload_n 0, 1), (23, .getfield 31, 3), (26, .iload_n 1, 1), (27, .iload 6, 2), (29, .iastore, 1), (30, .aload_n 0, 1), (31, .invokevirtual 216, 3), (34, .aload_n 0, 1), (35, .getfield 178, 3), (38, .iload 5, 2), (40, .if_icmp .le 8, 3), (43, .iload 6, 2), (45, .goto 5, 3), (48, .iload 4, 2), (50, .istore 4, 2), (52, .aload_n 0, 1), (53, .getfield 178, 3), (56, .iload 5, 2), (58, .invokestatic 247, 3), (61, .istore 5, 2), (63, .iinc 6 1, 3), (66, .goto (-50), 3), (69, .aload_n 0, 1), (70, .getfield 31, 3), (73, .iload_n 1, 1), (74, .iload_n 3, 1), (75, .iastore, 1), (76, .iload_n 2, 1), (77, .ifCond .ne 8, 3), (80, .iload 4, 2), (82, .goto 5, 3), (85, .iload 5, 2), (87, .ireturn, 1)]
theorem dX7_stepIn : dOk cX7_stepIn tX7_stepIn = true := by decide +kernel
abbrev rX7_stepIn : Room := { frames := 6, cells := 0, slots := 0, locals := 139 }
def wX7_stepIn_69 (Q : Int32 → Mem → Prop) (x1 : Int32) (x2 : Int32) (x3 : Int32) (x4 : Int32) (x5 : Int32) (σ : Mem) : Prop := (vp_in x1 24 ∧ (∀ σ75 : Mem, σ75 = um σ 8 (x1).toNatClampNeg x3 → (Q (if x2 = 0 then x4 else x5) σ75)))
def wX7_stepIn_16 (Q : Int32 → Mem → Prop) : Nat → Int32 → Int32 → Int32 → Int32 → Int32 → Int32 → Mem → Prop
  | 0, _, _, _, _, _, _, _ => False
  | n + 1, x1, x2, x3, x4, x5, x6, σ => ((((4 : Int32) ≤ x6) → (wX7_stepIn_69 Q x1 x2 x3 x4 x5 σ)) ∧ ((¬ (4 : Int32) ≤ x6) → (vp_in x1 24 ∧ (∀ σ29 : Mem, σ29 = um σ 8 (x1).toNatClampNeg x6 → (wX7_lives  σ29 (fun σ31 => (∀ x4_50 : Int32, x4_50 = (if (σ31 0 20) ≤ x5 then x4 else x6) → (wX7_greater (σ31 0 20) x5 σ31 (fun r58 σ58 => (wX7_stepIn_16 Q n x1 x2 x3 x4_50 r58 (x6 + (1 : Int32)) σ58))))))))))
def wX7_stepIn (x1 : Int32) (x2 : Int32) (σ : Mem) (Q : Int32 → Mem → Prop) : Prop := (vp_in x1 24 ∧ (∀ x3_6 : Int32, x3_6 = (σ 8 (x1).toNatClampNeg) → (∃ N16, wX7_stepIn_16 Q N16 x1 x2 x3_6 (-1 : Int32) (-1 : Int32) (0 : Int32) σ)))
set_option maxHeartbeats 4000000 in
set_option maxRecDepth 100000 in
theorem kX7_stepIn_69 {p : Program} {l : Launch} {e : Env} {s : State} {m : MethodId} {args : Array Value} {below : List Frame} {meth : Method} {c : Code} {E : wE} (hE : wM E) (C : Cx p s m args c cX7_stepIn 7 RX7 E (wA E)) (hr : meth.sig.returnType = (some .int)) (hlk : meth.locks = false) {Q : Int32 → Mem → Prop} : ∀ (x1 : Int32) (x2 : Int32) (x3 : Int32) (x4 : Int32) (x5 : Int32) (σ : Mem) (H : Heap) (locs : List Loc) (ls : Array Slot), wd E (wA E) s σ H locs → lv_has ls 7 [(0, .ref (gE E 0)), (1, .int x1), (2, .int x2), (3, .int x3), (4, .int x4), (5, .int x5)] → wX7_stepIn_69 Q x1 x2 x3 x4 x5 σ → W p l e rX7_stepIn s m args below meth c H locs 0 0 (MQ below (wQi E Q) args s 0 0 (wA E)) (F0 m 69 ls []) := by
  have hx := C.1.1
  have hb := C.1.2.1
  intro x1 x2 x3 x4 x5 σ  H locs ls hw hl h
  unfold wX7_stepIn_69 at h
  refine lv_aload_n hx hb (dAt dX7_stepIn 36 rfl) rfl (lv_at hl 0 rfl) ?_
  refine x_getr C hw fl_X7_31 (hE.1 0) (nM hE (by decide)) rfl (dAt dX7_stepIn 37 rfl) ?_
  refine lv_iload_n hx hb (dAt dX7_stepIn 38 rfl) rfl (lv_at hl 1 rfl) ?_
  refine lv_iload_n hx hb (dAt dX7_stepIn 39 rfl) rfl (lv_at hl 3 rfl) ?_
  obtain ⟨z75, h⟩ := h
  refine x_ist C hw (hE.1 8) (nM hE (by decide)) z75 rfl (dAt dX7_stepIn 40 rfl) (fun σ75 H locs eσ75 hw => ?_)
  replace h := h σ75 eσ75
  refine lv_iload_n hx hb (dAt dX7_stepIn 41 rfl) rfl (lv_at hl 2 rfl) ?_
  refine x_dia (ls := ls) (pcJ := 87) (cnd := x2 = 0) (a := x4) (b := x5) ([]) ?_ (fun ht77 hf77 => ?_)
  · exact x_iret C hw hr hlk h (dAt dX7_stepIn 46 rfl)
  · refine lv_if_ne (tgt := 85) hx hb (dAt dX7_stepIn 42 rfl) (by decide) (fun c77 => ?_) (fun c77 => ?_)
    · refine lv_iload hx hb (dAt dX7_stepIn 45 rfl) (lv_at hl 5 rfl) ?_
      exact hf77 c77
    · refine lv_iload hx hb (dAt dX7_stepIn 43 rfl) (lv_at hl 4 rfl) ?_
      refine lv_goto (tgt := 87) hx hb (dAt dX7_stepIn 44 rfl) (by decide) ?_
      exact ht77 c77
set_option maxHeartbeats 4000000 in
set_option maxRecDepth 100000 in
theorem kX7_stepIn_16 {p : Program} {l : Launch} {e : Env} {s : State} {m : MethodId} {args : Array Value} {below : List Frame} {meth : Method} {c : Code} {E : wE} (hE : wM E) (C : Cx p s m args c cX7_stepIn 7 RX7 E (wA E)) (hr : meth.sig.returnType = (some .int)) (hlk : meth.locks = false) {Q : Int32 → Mem → Prop} : ∀ (n : Nat) (x1 : Int32) (x2 : Int32) (x3 : Int32) (x4 : Int32) (x5 : Int32) (x6 : Int32) (σ : Mem) (H : Heap) (locs : List Loc) (ls : Array Slot), wd E (wA E) s σ H locs → lv_has ls 7 [(0, .ref (gE E 0)), (1, .int x1), (2, .int x2), (3, .int x3), (4, .int x4), (5, .int x5), (6, .int x6)] → wX7_stepIn_16 Q n x1 x2 x3 x4 x5 x6 σ → W p l e rX7_stepIn s m args below meth c H locs 0 0 (MQ below (wQi E Q) args s 0 0 (wA E)) (F0 m 16 ls []) := by
  have hx := C.1.1
  have hb := C.1.2.1
  intro n
  induction n with
  | zero =>
    intro x1 x2 x3 x4 x5 x6 σ  H locs ls hw hl h
    exact h.elim
  | succ n ih =>
    intro x1 x2 x3 x4 x5 x6 σ  H locs ls hw hl h
    rw [wX7_stepIn_16] at h
    refine lv_iload hx hb (dAt dX7_stepIn 11 rfl) (lv_at hl 6 rfl) ?_
    refine lv_iconst (v := 4) hx hb (dAt dX7_stepIn 12 rfl) (by decide) ?_
    refine lv_icmp_ge (tgt := 69) hx hb (dAt dX7_stepIn 13 rfl) (by decide) (fun c19 => ?_) (fun c19 => ?_)
    · replace h := h.1 c19
      exact kX7_stepIn_69 hE C hr hlk x1 x2 x3 x4 x5 σ  _ _ _ hw (lv_sub hl [0, 1, 2, 3, 4, 5] rfl) h
    · replace h := h.2 c19
      refine lv_aload_n hx hb (dAt dX7_stepIn 14 rfl) rfl (lv_at hl 0 rfl) ?_
      refine x_getr C hw fl_X7_31 (hE.1 0) (nM hE (by decide)) rfl (dAt dX7_stepIn 15 rfl) ?_
      refine lv_iload_n hx hb (dAt dX7_stepIn 16 rfl) rfl (lv_at hl 1 rfl) ?_
      refine lv_iload hx hb (dAt dX7_stepIn 17 rfl) (lv_at hl 6 rfl) ?_
      obtain ⟨z29, h⟩ := h
      refine x_ist C hw (hE.1 8) (nM hE (by decide)) z29 rfl (dAt dX7_stepIn 18 rfl) (fun σ29 H locs eσ29 hw => ?_)
      replace h := h σ29 eσ29
      refine lv_aload_n hx hb (dAt dX7_stepIn 19 rfl) rfl (lv_at hl 0 rfl) ?_
      refine x_callv C hw (x_runV (As := []) (rest := []) C hw (kX7_lives l E hE  σ29 _ h) mtX7_lives lk_X7_216 (hE.1 0) (nM hE (by decide)) rfl ⟨by decide, by decide⟩ ⟨rfl, rfl⟩ rfl hl.1 rfl (Nat.le_of_ble_eq_true rfl) (dAt dX7_stepIn 20 rfl) ⟨Nat.zero_le _, Nat.zero_le _⟩) (fun σ31 H locs h hw => ?_)
      refine lv_aload_n hx hb (dAt dX7_stepIn 21 rfl) rfl (lv_at hl 0 rfl) ?_
      refine x_geti C hw fl_X7_178 (hE.1 0) (nM hE (by decide)) rfl (dAt dX7_stepIn 22 rfl) ?_
      refine lv_iload hx hb (dAt dX7_stepIn 23 rfl) (lv_at hl 5 rfl) ?_
      refine x_dia (ls := ls) (pcJ := 50) (cnd := (σ31 0 20) ≤ x5) (a := x4) (b := x6) ([]) ?_ (fun ht40 hf40 => ?_)
      · refine lv_topi (fun x4_50 ex4_50 => ?_)
        replace h := h x4_50 ex4_50
        refine lv_istore (lv' := [(4, .int x4_50), (0, .ref (gE E 0)), (1, .int x1), (2, .int x2), (3, .int x3), (5, .int x5), (6, .int x6)]) hx hb (dAt dX7_stepIn 28 rfl) hl (by decide) rfl (fun ls hl => ?_)
        refine lv_aload_n hx hb (dAt dX7_stepIn 29 rfl) rfl (lv_at hl 1 rfl) ?_
        refine x_geti C hw fl_X7_178 (hE.1 0) (nM hE (by decide)) rfl (dAt dX7_stepIn 30 rfl) ?_
        refine lv_iload hx hb (dAt dX7_stepIn 31 rfl) (lv_at hl 5 rfl) ?_
        refine x_calli C hw (x_runS (As := [.int (σ31 0 20), .int x5]) (rest := []) C hw (kX7_greater l E hE (σ31 0 20) x5 σ31 _ h) mtX7_greater lk_X7_247 ⟨by decide, by decide⟩ ⟨rfl, rfl⟩ rfl hl.1 rfl (Nat.le_of_ble_eq_true rfl) (dAt dX7_stepIn 32 rfl) ⟨Nat.zero_le _, Nat.zero_le _⟩) (fun r58 σ58 H locs h hw => ?_)
        refine lv_istore (lv' := [(5, .int r58), (4, .int x4_50), (0, .ref (gE E 0)), (1, .int x1), (2, .int x2), (3, .int x3), (6, .int x6)]) hx hb (dAt dX7_stepIn 33 rfl) hl (by decide) rfl (fun ls hl => ?_)
        refine lv_iinc (v := (x6 + (1 : Int32))) (lv' := [(6, .int (x6 + (1 : Int32))), (5, .int r58), (4, .int x4_50), (0, .ref (gE E 0)), (1, .int x1), (2, .int x2), (3, .int x3)]) hx hb (dAt dX7_stepIn 34 rfl) hl (k := 6) rfl rfl (by decide) rfl (fun ls hl => ?_)
        refine lv_goto (tgt := 16) hx hb (dAt dX7_stepIn 35 rfl) (by decide) ?_
        exact ih x1 x2 x3 x4_50 r58 (x6 + (1 : Int32)) σ58  _ _ _ hw (lv_sub hl [3, 4, 5, 6, 2, 1, 0] rfl) h
      · refine lv_icmp_le (tgt := 48) hx hb (dAt dX7_stepIn 24 rfl) (by decide) (fun c40 => ?_) (fun c40 => ?_)
        · refine lv_iload hx hb (dAt dX7_stepIn 27 rfl) (lv_at hl 4 rfl) ?_
          exact ht40 c40
        · refine lv_iload hx hb (dAt dX7_stepIn 25 rfl) (lv_at hl 6 rfl) ?_
          refine lv_goto (tgt := 50) hx hb (dAt dX7_stepIn 26 rfl) (by decide) ?_
          exact hf40 c40
set_option maxHeartbeats 4000000 in
set_option maxRecDepth 100000 in
theorem kX7_stepIn (l : Launch) (E : wE) (hE : wM E) (x1 : Int32) (x2 : Int32) (σ : Mem) (Q : Int32 → Mem → Prop) (h : wX7_stepIn x1 x2 σ Q) : Met l yX7_stepIn (Cond.code yX7_stepIn cX7_stepIn 7 (some .int) :: TB) rX7_stepIn (wPc E σ [.ref (gE E 0), .int x1, .int x2]) (wQi E Q) 0 0 (wA E) := by
  refine wMet (by decide) hE.2.2 (Nat.le_of_ble_eq_true rfl) ?_
  intro p e s m args below meth c ls C hr hlk hl hw
  have hx := C.1.1
  have hb := C.1.2.1
  replace C : Cx p s m args c cX7_stepIn 7 RX7 E (wA E) := C
  replace hl : lv_has ls 7 [(0, .ref (gE E 0)), (1, .int x1), (2, .int x2)] := hl
  unfold wX7_stepIn at h
  refine lv_aload_n hx hb (dAt dX7_stepIn 0 rfl) rfl (lv_at hl 0 rfl) ?_
  refine x_getr C hw fl_X7_31 (hE.1 0) (nM hE (by decide)) rfl (dAt dX7_stepIn 1 rfl) ?_
  refine lv_iload_n hx hb (dAt dX7_stepIn 2 rfl) rfl (lv_at hl 1 rfl) ?_
  obtain ⟨z5, h⟩ := h
  refine x_ild C hw (hE.1 8) (nM hE (by decide)) z5 rfl (dAt dX7_stepIn 3 rfl) ?_
  refine lv_topi (fun x3_6 ex3_6 => ?_)
  replace h := h x3_6 ex3_6
  refine lv_istore_n (lv' := [(3, .int x3_6), (0, .ref (gE E 0)), (1, .int x1), (2, .int x2)]) hx hb (dAt dX7_stepIn 4 rfl) rfl hl (by decide) rfl (fun ls hl => ?_)
  refine lv_iconst (v := -1) hx hb (dAt dX7_stepIn 5 rfl) (by decide) ?_
  refine lv_istore (lv' := [(4, .int (-1 : Int32)), (3, .int x3_6), (0, .ref (gE E 0)), (1, .int x1), (2, .int x2)]) hx hb (dAt dX7_stepIn 6 rfl) hl (by decide) rfl (fun ls hl => ?_)
  refine lv_iconst (v := -1) hx hb (dAt dX7_stepIn 7 rfl) (by decide) ?_
  refine lv_istore (lv' := [(5, .int (-1 : Int32)), (4, .int (-1 : Int32)), (3, .int x3_6), (0, .ref (gE E 0)), (1, .int x1), (2, .int x2)]) hx hb (dAt dX7_stepIn 8 rfl) hl (by decide) rfl (fun ls hl => ?_)
  refine lv_iconst (v := 0) hx hb (dAt dX7_stepIn 9 rfl) (by decide) ?_
  refine lv_istore (lv' := [(6, .int (0 : Int32)), (5, .int (-1 : Int32)), (4, .int (-1 : Int32)), (3, .int x3_6), (0, .ref (gE E 0)), (1, .int x1), (2, .int x2)]) hx hb (dAt dX7_stepIn 10 rfl) hl (by decide) rfl (fun ls hl => ?_)
  obtain ⟨n16, h⟩ := h
  exact kX7_stepIn_16 hE C hr hlk n16 x1 x2 x3_6 (-1 : Int32) (-1 : Int32) (0 : Int32) σ  _ _ _ hw (lv_sub hl [4, 5, 6, 3, 2, 1, 0] rfl) h
def tX7_step : List (Nat × Instr × Nat) := [(0, .aload_n 0, 1), (1, .invokevirtual 219, 3), (4, .iload_n 1, 1), (5, .invokestatic 160, 3), (8, .ifCond .eq 19, 3), (11, .iload_n 2, 1), (12, .invokestatic 116, 3), (15, .ifCond .eq 12, 3), (18, .aload_n 0, 1), (19, .iload_n 1, 1), (20, .iload_n 2, 1), (21, .invokevirtual 265, 3), (24, .goto 5, 3), (27, .bipush (-2), 2), (29, .ireturn, 1)]
theorem dX7_step : dOk cX7_step tX7_step = true := by decide +kernel
abbrev rX7_step : Room := { frames := 7, cells := 0, slots := 0, locals := 165 }
def wX7_step (x1 : Int32) (x2 : Int32) (σ : Mem) (Q : Int32 → Mem → Prop) : Prop := (wX7_find  σ (fun σ1 => (wX7_isBeat x1 σ1 (fun r5 σ5 => (((r5 = 0) → (Q (-2 : Int32) σ5)) ∧ ((¬ r5 = 0) → (wX7_isTwo x2 σ5 (fun r12 σ12 => (((r12 = 0) → (Q (-2 : Int32) σ12)) ∧ ((¬ r12 = 0) → (wX7_stepIn x1 x2 σ12 (fun r21 σ21 => (Q r21 σ21)))))))))))))
set_option maxHeartbeats 4000000 in
set_option maxRecDepth 100000 in
theorem kX7_step (l : Launch) (E : wE) (hE : wM E) (x1 : Int32) (x2 : Int32) (σ : Mem) (Q : Int32 → Mem → Prop) (h : wX7_step x1 x2 σ Q) : Met l yX7_step (Cond.code yX7_step cX7_step 3 (some .int) :: TB) rX7_step (wPc E σ [.ref (gE E 0), .int x1, .int x2]) (wQi E Q) 0 0 (wA E) := by
  refine wMet (by decide) hE.2.2 (Nat.le_of_ble_eq_true rfl) ?_
  intro p e s m args below meth c ls C hr hlk hl hw
  have hx := C.1.1
  have hb := C.1.2.1
  replace C : Cx p s m args c cX7_step 3 RX7 E (wA E) := C
  replace hl : lv_has ls 3 [(0, .ref (gE E 0)), (1, .int x1), (2, .int x2)] := hl
  unfold wX7_step at h
  refine lv_aload_n hx hb (dAt dX7_step 0 rfl) rfl (lv_at hl 0 rfl) ?_
  refine x_callv C hw (x_runV (As := []) (rest := []) C hw (kX7_find l E hE  σ _ h) mtX7_find lk_X7_219 (hE.1 0) (nM hE (by decide)) rfl ⟨by decide, by decide⟩ ⟨rfl, rfl⟩ rfl hl.1 rfl (Nat.le_of_ble_eq_true rfl) (dAt dX7_step 1 rfl) ⟨Nat.zero_le _, Nat.zero_le _⟩) (fun σ1 H locs h hw => ?_)
  refine lv_iload_n hx hb (dAt dX7_step 2 rfl) rfl (lv_at hl 1 rfl) ?_
  refine x_calli C hw (x_runS (As := [.int x1]) (rest := []) C hw (kX7_isBeat l E hE x1 σ1 _ h) mtX7_isBeat lk_X7_160 ⟨by decide, by decide⟩ ⟨rfl, rfl⟩ rfl hl.1 rfl (Nat.le_of_ble_eq_true rfl) (dAt dX7_step 3 rfl) ⟨Nat.zero_le _, Nat.zero_le _⟩) (fun r5 σ5 H locs h hw => ?_)
  refine lv_if_eq (tgt := 27) hx hb (dAt dX7_step 4 rfl) (by decide) (fun c8 => ?_) (fun c8 => ?_)
  · replace h := h.1 c8
    refine lv_bipush (v := -2) hx hb (dAt dX7_step 13 rfl) (by decide) ?_
    exact x_iret C hw hr hlk h (dAt dX7_step 14 rfl)
  · replace h := h.2 c8
    refine lv_iload_n hx hb (dAt dX7_step 5 rfl) rfl (lv_at hl 2 rfl) ?_
    refine x_calli C hw (x_runS (As := [.int x2]) (rest := []) C hw (kX7_isTwo l E hE x2 σ5 _ h) mtX7_isTwo lk_X7_116 ⟨by decide, by decide⟩ ⟨rfl, rfl⟩ rfl hl.1 rfl (Nat.le_of_ble_eq_true rfl) (dAt dX7_step 6 rfl) ⟨Nat.zero_le _, Nat.zero_le _⟩) (fun r12 σ12 H locs h hw => ?_)
    refine lv_if_eq (tgt := 27) hx hb (dAt dX7_step 7 rfl) (by decide) (fun c15 => ?_) (fun c15 => ?_)
    · replace h := h.1 c15
      refine lv_bipush (v := -2) hx hb (dAt dX7_step 13 rfl) (by decide) ?_
      exact x_iret C hw hr hlk h (dAt dX7_step 14 rfl)
    · replace h := h.2 c15
      refine lv_aload_n hx hb (dAt dX7_step 8 rfl) rfl (lv_at hl 0 rfl) ?_
      refine lv_iload_n hx hb (dAt dX7_step 9 rfl) rfl (lv_at hl 1 rfl) ?_
      refine lv_iload_n hx hb (dAt dX7_step 10 rfl) rfl (lv_at hl 2 rfl) ?_
      refine x_calli C hw (x_runV (As := [.int x1, .int x2]) (rest := []) C hw (kX7_stepIn l E hE x1 x2 σ12 _ h) mtX7_stepIn lk_X7_265 (hE.1 0) (nM hE (by decide)) rfl ⟨by decide, by decide⟩ ⟨rfl, rfl⟩ rfl hl.1 rfl (Nat.le_of_ble_eq_true rfl) (dAt dX7_step 11 rfl) ⟨Nat.zero_le _, Nat.zero_le _⟩) (fun r21 σ21 H locs h hw => ?_)
      refine lv_goto (tgt := 29) hx hb (dAt dX7_step 12 rfl) (by decide) ?_
      exact x_iret C hw hr hlk h (dAt dX7_step 14 rfl)
def tX7_isFree : List (Nat × Instr × Nat) := [(0, .iconst 1, 1), (1, .istore_n 3, 1), (2, .iconst 0, 1), (3, .istore 4, 2), (5, .iload 4, 2), (7, .aload_n 0, 1), (8, .getfield 129, 3), (11, .if_icmp .ge 38, 3), (14, .iload_n 3, 1), (15, .ifCond .eq 26, 3), (18, .iload 4, 2), (20, .iload_n 1, 1), (21, .if_icmp .eq 16, 3), (24, .aload_n 0, 1), (25, .getfield 28, 3), (28, .iconst 3, 1), (29, .iload 4, 2), (31, .imul, 1), (32, .iaload, 1), (33, .iload_n 2, 1), (34, .if_icmp .eq 7, 3), (37, .iconst 1, 1), (38, .goto 4, 3), (41, .iconst 0, 1), (42, .istore_n 3, 1), (43, .iinc 4 1, 3), (46, .goto (-41), 3), (49, .iload_n 3, 1), (50, .ireturn, 1)]
theorem dX7_isFree : dOk cX7_isFree tX7_isFree = true := by decide +kernel
abbrev rX7_isFree : Room := { frames := 0, cells := 0, slots := 0, locals := 0 }
def wX7_isFree_5 (Q : Int32 → Mem → Prop) : Nat → Int32 → Int32 → Int32 → Int32 → Mem → Prop
  | 0, _, _, _, _, _ => False
  | n + 1, x1, x2, x3, x4, σ => ((((σ 0 7) ≤ x4) → (bz x3 ∧ Q x3 σ)) ∧ ((¬ (σ 0 7) ≤ x4) → (((x3 = 0) → (wX7_isFree_5 Q n x1 x2 (0 : Int32) (x4 + (1 : Int32)) σ)) ∧ ((¬ x3 = 0) → (((x4 = x1) → (wX7_isFree_5 Q n x1 x2 (1 : Int32) (x4 + (1 : Int32)) σ)) ∧ ((¬ x4 = x1) → (vp_in ((3 : Int32) * x4) 24 ∧ ((((σ 7 (((3 : Int32) * x4)).toNatClampNeg) = x2) → (wX7_isFree_5 Q n x1 x2 (0 : Int32) (x4 + (1 : Int32)) σ)) ∧ ((¬ (σ 7 (((3 : Int32) * x4)).toNatClampNeg) = x2) → (wX7_isFree_5 Q n x1 x2 (1 : Int32) (x4 + (1 : Int32)) σ))))))))))
def wX7_isFree (x1 : Int32) (x2 : Int32) (σ : Mem) (Q : Int32 → Mem → Prop) : Prop := (∃ N5, wX7_isFree_5 Q N5 x1 x2 (1 : Int32) (0 : Int32) σ)
set_option maxHeartbeats 4000000 in
set_option maxRecDepth 100000 in
theorem kX7_isFree_5 {p : Program} {l : Launch} {e : Env} {s : State} {m : MethodId} {args : Array Value} {below : List Frame} {meth : Method} {c : Code} {E : wE} (hE : wM E) (C : Cx p s m args c cX7_isFree 5 RX7 E (wA E)) (hr : meth.sig.returnType = (some .boolean)) (hlk : meth.locks = false) {Q : Int32 → Mem → Prop} : ∀ (n : Nat) (x1 : Int32) (x2 : Int32) (x3 : Int32) (x4 : Int32) (σ : Mem) (H : Heap) (locs : List Loc) (ls : Array Slot), wd E (wA E) s σ H locs → lv_has ls 5 [(0, .ref (gE E 0)), (1, .int x1), (2, .int x2), (3, .int x3), (4, .int x4)] → wX7_isFree_5 Q n x1 x2 x3 x4 σ → W p l e rX7_isFree s m args below meth c H locs 0 0 (MQ below (wQi E Q) args s 0 0 (wA E)) (F0 m 5 ls []) := by
  have hx := C.1.1
  have hb := C.1.2.1
  intro n
  induction n with
  | zero =>
    intro x1 x2 x3 x4 σ  H locs ls hw hl h
    exact h.elim
  | succ n ih =>
    intro x1 x2 x3 x4 σ  H locs ls hw hl h
    rw [wX7_isFree_5] at h
    refine lv_iload hx hb (dAt dX7_isFree 4 rfl) (lv_at hl 4 rfl) ?_
    refine lv_aload_n hx hb (dAt dX7_isFree 5 rfl) rfl (lv_at hl 0 rfl) ?_
    refine x_geti C hw fl_X7_129 (hE.1 0) (nM hE (by decide)) rfl (dAt dX7_isFree 6 rfl) ?_
    refine lv_icmp_ge (tgt := 49) hx hb (dAt dX7_isFree 7 rfl) (by decide) (fun c11 => ?_) (fun c11 => ?_)
    · replace h := h.1 c11
      refine lv_iload_n hx hb (dAt dX7_isFree 27 rfl) rfl (lv_at hl 3 rfl) ?_
      exact x_zret C hw hr hlk h.1 h.2 (dAt dX7_isFree 28 rfl)
    · replace h := h.2 c11
      refine lv_iload_n hx hb (dAt dX7_isFree 8 rfl) rfl (lv_at hl 3 rfl) ?_
      refine lv_if_eq (tgt := 41) hx hb (dAt dX7_isFree 9 rfl) (by decide) (fun c15 => ?_) (fun c15 => ?_)
      · replace h := h.1 c15
        refine lv_iconst (v := 0) hx hb (dAt dX7_isFree 23 rfl) (by decide) ?_
        refine lv_istore_n (lv' := [(3, .int (0 : Int32)), (0, .ref (gE E 0)), (1, .int x1), (2, .int x2), (4, .int x4)]) hx hb (dAt dX7_isFree 24 rfl) rfl hl (by decide) rfl (fun ls hl => ?_)
        refine lv_iinc (v := (x4 + (1 : Int32))) (lv' := [(4, .int (x4 + (1 : Int32))), (3, .int (0 : Int32)), (0, .ref (gE E 0)), (1, .int x1), (2, .int x2)]) hx hb (dAt dX7_isFree 25 rfl) hl (k := 4) rfl rfl (by decide) rfl (fun ls hl => ?_)
        refine lv_goto (tgt := 5) hx hb (dAt dX7_isFree 26 rfl) (by decide) ?_
        exact ih x1 x2 (0 : Int32) (x4 + (1 : Int32)) σ  _ _ _ hw (lv_sub hl [2, 3, 4, 1, 0] rfl) h
      · replace h := h.2 c15
        refine lv_iload hx hb (dAt dX7_isFree 10 rfl) (lv_at hl 4 rfl) ?_
        refine lv_iload_n hx hb (dAt dX7_isFree 11 rfl) rfl (lv_at hl 1 rfl) ?_
        refine lv_icmp_eq (tgt := 37) hx hb (dAt dX7_isFree 12 rfl) (by decide) (fun c21 => ?_) (fun c21 => ?_)
        · replace h := h.1 c21
          refine lv_iconst (v := 1) hx hb (dAt dX7_isFree 21 rfl) (by decide) ?_
          refine lv_goto (tgt := 42) hx hb (dAt dX7_isFree 22 rfl) (by decide) ?_
          refine lv_istore_n (lv' := [(3, .int (1 : Int32)), (0, .ref (gE E 0)), (1, .int x1), (2, .int x2), (4, .int x4)]) hx hb (dAt dX7_isFree 24 rfl) rfl hl (by decide) rfl (fun ls hl => ?_)
          refine lv_iinc (v := (x4 + (1 : Int32))) (lv' := [(4, .int (x4 + (1 : Int32))), (3, .int (1 : Int32)), (0, .ref (gE E 0)), (1, .int x1), (2, .int x2)]) hx hb (dAt dX7_isFree 25 rfl) hl (k := 4) rfl rfl (by decide) rfl (fun ls hl => ?_)
          refine lv_goto (tgt := 5) hx hb (dAt dX7_isFree 26 rfl) (by decide) ?_
          exact ih x1 x2 (1 : Int32) (x4 + (1 : Int32)) σ  _ _ _ hw (lv_sub hl [2, 3, 4, 1, 0] rfl) h
        · replace h := h.2 c21
          refine lv_aload_n hx hb (dAt dX7_isFree 13 rfl) rfl (lv_at hl 0 rfl) ?_
          refine x_getr C hw fl_X7_28 (hE.1 0) (nM hE (by decide)) rfl (dAt dX7_isFree 14 rfl) ?_
          refine lv_iconst (v := 3) hx hb (dAt dX7_isFree 15 rfl) (by decide) ?_
          refine lv_iload hx hb (dAt dX7_isFree 16 rfl) (lv_at hl 4 rfl) ?_
          refine lv_imul hx hb (dAt dX7_isFree 17 rfl) ?_
          obtain ⟨z32, h⟩ := h
          refine x_ild C hw (hE.1 7) (nM hE (by decide)) z32 rfl (dAt dX7_isFree 18 rfl) ?_
          refine lv_iload_n hx hb (dAt dX7_isFree 19 rfl) rfl (lv_at hl 2 rfl) ?_
          refine lv_icmp_eq (tgt := 41) hx hb (dAt dX7_isFree 20 rfl) (by decide) (fun c34 => ?_) (fun c34 => ?_)
          · replace h := h.1 c34
            refine lv_iconst (v := 0) hx hb (dAt dX7_isFree 23 rfl) (by decide) ?_
            refine lv_istore_n (lv' := [(3, .int (0 : Int32)), (0, .ref (gE E 0)), (1, .int x1), (2, .int x2), (4, .int x4)]) hx hb (dAt dX7_isFree 24 rfl) rfl hl (by decide) rfl (fun ls hl => ?_)
            refine lv_iinc (v := (x4 + (1 : Int32))) (lv' := [(4, .int (x4 + (1 : Int32))), (3, .int (0 : Int32)), (0, .ref (gE E 0)), (1, .int x1), (2, .int x2)]) hx hb (dAt dX7_isFree 25 rfl) hl (k := 4) rfl rfl (by decide) rfl (fun ls hl => ?_)
            refine lv_goto (tgt := 5) hx hb (dAt dX7_isFree 26 rfl) (by decide) ?_
            exact ih x1 x2 (0 : Int32) (x4 + (1 : Int32)) σ  _ _ _ hw (lv_sub hl [2, 3, 4, 1, 0] rfl) h
          · replace h := h.2 c34
            refine lv_iconst (v := 1) hx hb (dAt dX7_isFree 21 rfl) (by decide) ?_
            refine lv_goto (tgt := 42) hx hb (dAt dX7_isFree 22 rfl) (by decide) ?_
            refine lv_istore_n (lv' := [(3, .int (1 : Int32)), (0, .ref (gE E 0)), (1, .int x1), (2, .int x2), (4, .int x4)]) hx hb (dAt dX7_isFree 24 rfl) rfl hl (by decide) rfl (fun ls hl => ?_)
            refine lv_iinc (v := (x4 + (1 : Int32))) (lv' := [(4, .int (x4 + (1 : Int32))), (3, .int (1 : Int32)), (0, .ref (gE E 0)), (1, .int x1), (2, .int x2)]) hx hb (dAt dX7_isFree 25 rfl) hl (k := 4) rfl rfl (by decide) rfl (fun ls hl => ?_)
            refine lv_goto (tgt := 5) hx hb (dAt dX7_isFree 26 rfl) (by decide) ?_
            exact ih x1 x2 (1 : Int32) (x4 + (1 : Int32)) σ  _ _ _ hw (lv_sub hl [2, 3, 4, 1, 0] rfl) h
set_option maxHeartbeats 4000000 in
set_option maxRecDepth 100000 in
theorem kX7_isFree (l : Launch) (E : wE) (hE : wM E) (x1 : Int32) (x2 : Int32) (σ : Mem) (Q : Int32 → Mem → Prop) (h : wX7_isFree x1 x2 σ Q) : Met l yX7_isFree (Cond.code yX7_isFree cX7_isFree 5 (some .boolean) :: TB) rX7_isFree (wPc E σ [.ref (gE E 0), .int x1, .int x2]) (wQi E Q) 0 0 (wA E) := by
  refine wMet (by decide) hE.2.2 (Nat.le_of_ble_eq_true rfl) ?_
  intro p e s m args below meth c ls C hr hlk hl hw
  have hx := C.1.1
  have hb := C.1.2.1
  replace C : Cx p s m args c cX7_isFree 5 RX7 E (wA E) := C
  replace hl : lv_has ls 5 [(0, .ref (gE E 0)), (1, .int x1), (2, .int x2)] := hl
  unfold wX7_isFree at h
  refine lv_iconst (v := 1) hx hb (dAt dX7_isFree 0 rfl) (by decide) ?_
  refine lv_istore_n (lv' := [(3, .int (1 : Int32)), (0, .ref (gE E 0)), (1, .int x1), (2, .int x2)]) hx hb (dAt dX7_isFree 1 rfl) rfl hl (by decide) rfl (fun ls hl => ?_)
  refine lv_iconst (v := 0) hx hb (dAt dX7_isFree 2 rfl) (by decide) ?_
  refine lv_istore (lv' := [(4, .int (0 : Int32)), (3, .int (1 : Int32)), (0, .ref (gE E 0)), (1, .int x1), (2, .int x2)]) hx hb (dAt dX7_isFree 3 rfl) hl (by decide) rfl (fun ls hl => ?_)
  obtain ⟨n5, h⟩ := h
  exact kX7_isFree_5 hE C hr hlk n5 x1 x2 (1 : Int32) (0 : Int32) σ  _ _ _ hw (lv_sub hl [2, 3, 4, 1, 0] rfl) h
def tX7_beginOf : List (Nat × Instr × Nat) := [(0, .aload_n 0, 1), (1, .getfield 28, 3), (4, .iconst 3, 1), (5, .iload_n 1, 1), (6, .imul, 1), (7, .iaload, 1), (8, .istore_n 3, 1), (9, .iconst (-1), 1), (10, .istore 4, 2), (12, .iconst (-1), 1), (13, .istore 5, 2), (15, .iconst 0, 1), (16, .istore 6, 2), (18, .iload 6, 2), (20, .bipush 12, 2), (22, .if_icmp .ge 62, 3), (25, .aload_n 0, 1), (26, .iload_n 1, 1), (27, .iload 6, 2), (29, .invokevirtual 268, 3), (32, .ifCond .eq 46, 3), (35, .aload_n 0, 1), (36, .getfield 28, 3), (39, .iconst 3, 1), (40, .iload_n 1, 1), (41, .imul, 1), (42, .iload 6, 2), (44, .iastore, 1), (45, .aload_n 0, 1), (46, .invokevirtual 216, 3), (49, .aload_n 0, 1), (50, .getfield 178, 3), (53, .iload 5, 2), (55, .if_icmp .le 8, 3), (58, .iload 6, 2), (60, .goto 5, 3), (63, .iload 4, 2), (65, .istore 4, 2), (67, .aload_n 0, 1), (68, .getfield 178, 3), (71, .iload 5, 2), (73, .invokestatic 247, 3), (76, .istore 5, 2), (78, .iinc 6 1, 3), (81, .goto (-63), 3), (84, .aload_n 0, 1), (85, .getfield 28, 3), (88, .iconst 3, 1), (89, .iload_n 1, 1), (90, .imul, 1), (91, .iload_n 3, 1), (92, .iastore, 1), (93, .iload_n 2, 1), (94, .ifCond .ne 8, 3), (97, .iload 4, 2), (99, .goto 5, 3), (102, .iload 5, 2), (104, .ireturn, 1)]
theorem dX7_beginOf : dOk cX7_beginOf tX7_beginOf = true := by decide +kernel
abbrev rX7_beginOf : Room := { frames := 6, cells := 0, slots := 0, locals := 139 }
def wX7_beginOf_84 (Q : Int32 → Mem → Prop) (x1 : Int32) (x2 : Int32) (x3 : Int32) (x4 : Int32) (x5 : Int32) (σ : Mem) : Prop := (vp_in ((3 : Int32) * x1) 24 ∧ (∀ σ92 : Mem, σ92 = um σ 7 (((3 : Int32) * x1)).toNatClampNeg x3 → (Q (if x2 = 0 then x4 else x5) σ92)))
def wX7_beginOf_18 (Q : Int32 → Mem → Prop) : Nat → Int32 → Int32 → Int32 → Int32 → Int32 → Int32 → Mem → Prop
  | 0, _, _, _, _, _, _, _ => False
  | n + 1, x1, x2, x3, x4, x5, x6, σ => ((((12 : Int32) ≤ x6) → (wX7_beginOf_84 Q x1 x2 x3 x4 x5 σ)) ∧ ((¬ (12 : Int32) ≤ x6) → (wX7_isFree x1 x6 σ (fun r29 σ29 => (((r29 = 0) → (wX7_beginOf_18 Q n x1 x2 x3 x4 x5 (x6 + (1 : Int32)) σ29)) ∧ ((¬ r29 = 0) → (vp_in ((3 : Int32) * x1) 24 ∧ (∀ σ44 : Mem, σ44 = um σ29 7 (((3 : Int32) * x1)).toNatClampNeg x6 → (wX7_lives  σ44 (fun σ46 => (∀ x4_65 : Int32, x4_65 = (if (σ46 0 20) ≤ x5 then x4 else x6) → (wX7_greater (σ46 0 20) x5 σ46 (fun r73 σ73 => (wX7_beginOf_18 Q n x1 x2 x3 x4_65 r73 (x6 + (1 : Int32)) σ73))))))))))))))
def wX7_beginOf (x1 : Int32) (x2 : Int32) (σ : Mem) (Q : Int32 → Mem → Prop) : Prop := (vp_in ((3 : Int32) * x1) 24 ∧ (∀ x3_8 : Int32, x3_8 = (σ 7 (((3 : Int32) * x1)).toNatClampNeg) → (∃ N18, wX7_beginOf_18 Q N18 x1 x2 x3_8 (-1 : Int32) (-1 : Int32) (0 : Int32) σ)))
set_option maxHeartbeats 4000000 in
set_option maxRecDepth 100000 in
theorem kX7_beginOf_84 {p : Program} {l : Launch} {e : Env} {s : State} {m : MethodId} {args : Array Value} {below : List Frame} {meth : Method} {c : Code} {E : wE} (hE : wM E) (C : Cx p s m args c cX7_beginOf 7 RX7 E (wA E)) (hr : meth.sig.returnType = (some .int)) (hlk : meth.locks = false) {Q : Int32 → Mem → Prop} : ∀ (x1 : Int32) (x2 : Int32) (x3 : Int32) (x4 : Int32) (x5 : Int32) (σ : Mem) (H : Heap) (locs : List Loc) (ls : Array Slot), wd E (wA E) s σ H locs → lv_has ls 7 [(0, .ref (gE E 0)), (1, .int x1), (2, .int x2), (3, .int x3), (4, .int x4), (5, .int x5)] → wX7_beginOf_84 Q x1 x2 x3 x4 x5 σ → W p l e rX7_beginOf s m args below meth c H locs 0 0 (MQ below (wQi E Q) args s 0 0 (wA E)) (F0 m 84 ls []) := by
  have hx := C.1.1
  have hb := C.1.2.1
  intro x1 x2 x3 x4 x5 σ  H locs ls hw hl h
  unfold wX7_beginOf_84 at h
  refine lv_aload_n hx hb (dAt dX7_beginOf 45 rfl) rfl (lv_at hl 0 rfl) ?_
  refine x_getr C hw fl_X7_28 (hE.1 0) (nM hE (by decide)) rfl (dAt dX7_beginOf 46 rfl) ?_
  refine lv_iconst (v := 3) hx hb (dAt dX7_beginOf 47 rfl) (by decide) ?_
  refine lv_iload_n hx hb (dAt dX7_beginOf 48 rfl) rfl (lv_at hl 1 rfl) ?_
  refine lv_imul hx hb (dAt dX7_beginOf 49 rfl) ?_
  refine lv_iload_n hx hb (dAt dX7_beginOf 50 rfl) rfl (lv_at hl 3 rfl) ?_
  obtain ⟨z92, h⟩ := h
  refine x_ist C hw (hE.1 7) (nM hE (by decide)) z92 rfl (dAt dX7_beginOf 51 rfl) (fun σ92 H locs eσ92 hw => ?_)
  replace h := h σ92 eσ92
  refine lv_iload_n hx hb (dAt dX7_beginOf 52 rfl) rfl (lv_at hl 2 rfl) ?_
  refine x_dia (ls := ls) (pcJ := 104) (cnd := x2 = 0) (a := x4) (b := x5) ([]) ?_ (fun ht94 hf94 => ?_)
  · exact x_iret C hw hr hlk h (dAt dX7_beginOf 57 rfl)
  · refine lv_if_ne (tgt := 102) hx hb (dAt dX7_beginOf 53 rfl) (by decide) (fun c94 => ?_) (fun c94 => ?_)
    · refine lv_iload hx hb (dAt dX7_beginOf 56 rfl) (lv_at hl 5 rfl) ?_
      exact hf94 c94
    · refine lv_iload hx hb (dAt dX7_beginOf 54 rfl) (lv_at hl 4 rfl) ?_
      refine lv_goto (tgt := 104) hx hb (dAt dX7_beginOf 55 rfl) (by decide) ?_
      exact ht94 c94
set_option maxHeartbeats 4000000 in
set_option maxRecDepth 100000 in
theorem kX7_beginOf_18 {p : Program} {l : Launch} {e : Env} {s : State} {m : MethodId} {args : Array Value} {below : List Frame} {meth : Method} {c : Code} {E : wE} (hE : wM E) (C : Cx p s m args c cX7_beginOf 7 RX7 E (wA E)) (hr : meth.sig.returnType = (some .int)) (hlk : meth.locks = false) {Q : Int32 → Mem → Prop} : ∀ (n : Nat) (x1 : Int32) (x2 : Int32) (x3 : Int32) (x4 : Int32) (x5 : Int32) (x6 : Int32) (σ : Mem) (H : Heap) (locs : List Loc) (ls : Array Slot), wd E (wA E) s σ H locs → lv_has ls 7 [(0, .ref (gE E 0)), (1, .int x1), (2, .int x2), (3, .int x3), (4, .int x4), (5, .int x5), (6, .int x6)] → wX7_beginOf_18 Q n x1 x2 x3 x4 x5 x6 σ → W p l e rX7_beginOf s m args below meth c H locs 0 0 (MQ below (wQi E Q) args s 0 0 (wA E)) (F0 m 18 ls []) := by
  have hx := C.1.1
  have hb := C.1.2.1
  intro n
  induction n with
  | zero =>
    intro x1 x2 x3 x4 x5 x6 σ  H locs ls hw hl h
    exact h.elim
  | succ n ih =>
    intro x1 x2 x3 x4 x5 x6 σ  H locs ls hw hl h
    rw [wX7_beginOf_18] at h
    refine lv_iload hx hb (dAt dX7_beginOf 13 rfl) (lv_at hl 6 rfl) ?_
    refine lv_bipush (v := 12) hx hb (dAt dX7_beginOf 14 rfl) (by decide) ?_
    refine lv_icmp_ge (tgt := 84) hx hb (dAt dX7_beginOf 15 rfl) (by decide) (fun c22 => ?_) (fun c22 => ?_)
    · replace h := h.1 c22
      exact kX7_beginOf_84 hE C hr hlk x1 x2 x3 x4 x5 σ  _ _ _ hw (lv_sub hl [0, 1, 2, 3, 4, 5] rfl) h
    · replace h := h.2 c22
      refine lv_aload_n hx hb (dAt dX7_beginOf 16 rfl) rfl (lv_at hl 0 rfl) ?_
      refine lv_iload_n hx hb (dAt dX7_beginOf 17 rfl) rfl (lv_at hl 1 rfl) ?_
      refine lv_iload hx hb (dAt dX7_beginOf 18 rfl) (lv_at hl 6 rfl) ?_
      refine x_calli C hw (x_runV (As := [.int x1, .int x6]) (rest := []) C hw (kX7_isFree l E hE x1 x6 σ _ h) mtX7_isFree lk_X7_268 (hE.1 0) (nM hE (by decide)) rfl ⟨by decide, by decide⟩ ⟨rfl, rfl⟩ rfl hl.1 rfl (Nat.le_of_ble_eq_true rfl) (dAt dX7_beginOf 19 rfl) ⟨Nat.zero_le _, Nat.zero_le _⟩) (fun r29 σ29 H locs h hw => ?_)
      refine lv_if_eq (tgt := 78) hx hb (dAt dX7_beginOf 20 rfl) (by decide) (fun c32 => ?_) (fun c32 => ?_)
      · replace h := h.1 c32
        refine lv_iinc (v := (x6 + (1 : Int32))) (lv' := [(6, .int (x6 + (1 : Int32))), (0, .ref (gE E 0)), (1, .int x1), (2, .int x2), (3, .int x3), (4, .int x4), (5, .int x5)]) hx hb (dAt dX7_beginOf 43 rfl) hl (k := 6) rfl rfl (by decide) rfl (fun ls hl => ?_)
        refine lv_goto (tgt := 18) hx hb (dAt dX7_beginOf 44 rfl) (by decide) ?_
        exact ih x1 x2 x3 x4 x5 (x6 + (1 : Int32)) σ29  _ _ _ hw (lv_sub hl [1, 2, 3, 4, 5, 6, 0] rfl) h
      · replace h := h.2 c32
        refine lv_aload_n hx hb (dAt dX7_beginOf 21 rfl) rfl (lv_at hl 0 rfl) ?_
        refine x_getr C hw fl_X7_28 (hE.1 0) (nM hE (by decide)) rfl (dAt dX7_beginOf 22 rfl) ?_
        refine lv_iconst (v := 3) hx hb (dAt dX7_beginOf 23 rfl) (by decide) ?_
        refine lv_iload_n hx hb (dAt dX7_beginOf 24 rfl) rfl (lv_at hl 1 rfl) ?_
        refine lv_imul hx hb (dAt dX7_beginOf 25 rfl) ?_
        refine lv_iload hx hb (dAt dX7_beginOf 26 rfl) (lv_at hl 6 rfl) ?_
        obtain ⟨z44, h⟩ := h
        refine x_ist C hw (hE.1 7) (nM hE (by decide)) z44 rfl (dAt dX7_beginOf 27 rfl) (fun σ44 H locs eσ44 hw => ?_)
        replace h := h σ44 eσ44
        refine lv_aload_n hx hb (dAt dX7_beginOf 28 rfl) rfl (lv_at hl 0 rfl) ?_
        refine x_callv C hw (x_runV (As := []) (rest := []) C hw (kX7_lives l E hE  σ44 _ h) mtX7_lives lk_X7_216 (hE.1 0) (nM hE (by decide)) rfl ⟨by decide, by decide⟩ ⟨rfl, rfl⟩ rfl hl.1 rfl (Nat.le_of_ble_eq_true rfl) (dAt dX7_beginOf 29 rfl) ⟨Nat.zero_le _, Nat.zero_le _⟩) (fun σ46 H locs h hw => ?_)
        refine lv_aload_n hx hb (dAt dX7_beginOf 30 rfl) rfl (lv_at hl 0 rfl) ?_
        refine x_geti C hw fl_X7_178 (hE.1 0) (nM hE (by decide)) rfl (dAt dX7_beginOf 31 rfl) ?_
        refine lv_iload hx hb (dAt dX7_beginOf 32 rfl) (lv_at hl 5 rfl) ?_
        refine x_dia (ls := ls) (pcJ := 65) (cnd := (σ46 0 20) ≤ x5) (a := x4) (b := x6) ([]) ?_ (fun ht55 hf55 => ?_)
        · refine lv_topi (fun x4_65 ex4_65 => ?_)
          replace h := h x4_65 ex4_65
          refine lv_istore (lv' := [(4, .int x4_65), (0, .ref (gE E 0)), (1, .int x1), (2, .int x2), (3, .int x3), (5, .int x5), (6, .int x6)]) hx hb (dAt dX7_beginOf 37 rfl) hl (by decide) rfl (fun ls hl => ?_)
          refine lv_aload_n hx hb (dAt dX7_beginOf 38 rfl) rfl (lv_at hl 1 rfl) ?_
          refine x_geti C hw fl_X7_178 (hE.1 0) (nM hE (by decide)) rfl (dAt dX7_beginOf 39 rfl) ?_
          refine lv_iload hx hb (dAt dX7_beginOf 40 rfl) (lv_at hl 5 rfl) ?_
          refine x_calli C hw (x_runS (As := [.int (σ46 0 20), .int x5]) (rest := []) C hw (kX7_greater l E hE (σ46 0 20) x5 σ46 _ h) mtX7_greater lk_X7_247 ⟨by decide, by decide⟩ ⟨rfl, rfl⟩ rfl hl.1 rfl (Nat.le_of_ble_eq_true rfl) (dAt dX7_beginOf 41 rfl) ⟨Nat.zero_le _, Nat.zero_le _⟩) (fun r73 σ73 H locs h hw => ?_)
          refine lv_istore (lv' := [(5, .int r73), (4, .int x4_65), (0, .ref (gE E 0)), (1, .int x1), (2, .int x2), (3, .int x3), (6, .int x6)]) hx hb (dAt dX7_beginOf 42 rfl) hl (by decide) rfl (fun ls hl => ?_)
          refine lv_iinc (v := (x6 + (1 : Int32))) (lv' := [(6, .int (x6 + (1 : Int32))), (5, .int r73), (4, .int x4_65), (0, .ref (gE E 0)), (1, .int x1), (2, .int x2), (3, .int x3)]) hx hb (dAt dX7_beginOf 43 rfl) hl (k := 6) rfl rfl (by decide) rfl (fun ls hl => ?_)
          refine lv_goto (tgt := 18) hx hb (dAt dX7_beginOf 44 rfl) (by decide) ?_
          exact ih x1 x2 x3 x4_65 r73 (x6 + (1 : Int32)) σ73  _ _ _ hw (lv_sub hl [3, 4, 5, 6, 2, 1, 0] rfl) h
        · refine lv_icmp_le (tgt := 63) hx hb (dAt dX7_beginOf 33 rfl) (by decide) (fun c55 => ?_) (fun c55 => ?_)
          · refine lv_iload hx hb (dAt dX7_beginOf 36 rfl) (lv_at hl 4 rfl) ?_
            exact ht55 c55
          · refine lv_iload hx hb (dAt dX7_beginOf 34 rfl) (lv_at hl 6 rfl) ?_
            refine lv_goto (tgt := 65) hx hb (dAt dX7_beginOf 35 rfl) (by decide) ?_
            exact hf55 c55
set_option maxHeartbeats 4000000 in
set_option maxRecDepth 100000 in
theorem kX7_beginOf (l : Launch) (E : wE) (hE : wM E) (x1 : Int32) (x2 : Int32) (σ : Mem) (Q : Int32 → Mem → Prop) (h : wX7_beginOf x1 x2 σ Q) : Met l yX7_beginOf (Cond.code yX7_beginOf cX7_beginOf 7 (some .int) :: TB) rX7_beginOf (wPc E σ [.ref (gE E 0), .int x1, .int x2]) (wQi E Q) 0 0 (wA E) := by
  refine wMet (by decide) hE.2.2 (Nat.le_of_ble_eq_true rfl) ?_
  intro p e s m args below meth c ls C hr hlk hl hw
  have hx := C.1.1
  have hb := C.1.2.1
  replace C : Cx p s m args c cX7_beginOf 7 RX7 E (wA E) := C
  replace hl : lv_has ls 7 [(0, .ref (gE E 0)), (1, .int x1), (2, .int x2)] := hl
  unfold wX7_beginOf at h
  refine lv_aload_n hx hb (dAt dX7_beginOf 0 rfl) rfl (lv_at hl 0 rfl) ?_
  refine x_getr C hw fl_X7_28 (hE.1 0) (nM hE (by decide)) rfl (dAt dX7_beginOf 1 rfl) ?_
  refine lv_iconst (v := 3) hx hb (dAt dX7_beginOf 2 rfl) (by decide) ?_
  refine lv_iload_n hx hb (dAt dX7_beginOf 3 rfl) rfl (lv_at hl 1 rfl) ?_
  refine lv_imul hx hb (dAt dX7_beginOf 4 rfl) ?_
  obtain ⟨z7, h⟩ := h
  refine x_ild C hw (hE.1 7) (nM hE (by decide)) z7 rfl (dAt dX7_beginOf 5 rfl) ?_
  refine lv_topi (fun x3_8 ex3_8 => ?_)
  replace h := h x3_8 ex3_8
  refine lv_istore_n (lv' := [(3, .int x3_8), (0, .ref (gE E 0)), (1, .int x1), (2, .int x2)]) hx hb (dAt dX7_beginOf 6 rfl) rfl hl (by decide) rfl (fun ls hl => ?_)
  refine lv_iconst (v := -1) hx hb (dAt dX7_beginOf 7 rfl) (by decide) ?_
  refine lv_istore (lv' := [(4, .int (-1 : Int32)), (3, .int x3_8), (0, .ref (gE E 0)), (1, .int x1), (2, .int x2)]) hx hb (dAt dX7_beginOf 8 rfl) hl (by decide) rfl (fun ls hl => ?_)
  refine lv_iconst (v := -1) hx hb (dAt dX7_beginOf 9 rfl) (by decide) ?_
  refine lv_istore (lv' := [(5, .int (-1 : Int32)), (4, .int (-1 : Int32)), (3, .int x3_8), (0, .ref (gE E 0)), (1, .int x1), (2, .int x2)]) hx hb (dAt dX7_beginOf 10 rfl) hl (by decide) rfl (fun ls hl => ?_)
  refine lv_iconst (v := 0) hx hb (dAt dX7_beginOf 11 rfl) (by decide) ?_
  refine lv_istore (lv' := [(6, .int (0 : Int32)), (5, .int (-1 : Int32)), (4, .int (-1 : Int32)), (3, .int x3_8), (0, .ref (gE E 0)), (1, .int x1), (2, .int x2)]) hx hb (dAt dX7_beginOf 12 rfl) hl (by decide) rfl (fun ls hl => ?_)
  obtain ⟨n18, h⟩ := h
  exact kX7_beginOf_18 hE C hr hlk n18 x1 x2 x3_8 (-1 : Int32) (-1 : Int32) (0 : Int32) σ  _ _ _ hw (lv_sub hl [4, 5, 6, 3, 2, 1, 0] rfl) h
def tX7_begin : List (Nat × Instr × Nat) := [(0, .aload_n 0, 1), (1, .invokevirtual 219, 3), (4, .aload_n 0, 1), (5, .iload_n 1, 1), (6, .invokevirtual 157, 3), (9, .ifCond .eq 19, 3), (12, .iload_n 2, 1), (13, .invokestatic 116, 3), (16, .ifCond .eq 12, 3), (19, .aload_n 0, 1), (20, .iload_n 1, 1), (21, .iload_n 2, 1), (22, .invokevirtual 271, 3), (25, .goto 5, 3), (28, .bipush (-2), 2), (30, .ireturn, 1)]
theorem dX7_begin : dOk cX7_begin tX7_begin = true := by decide +kernel
abbrev rX7_begin : Room := { frames := 7, cells := 0, slots := 0, locals := 165 }
def wX7_begin (x1 : Int32) (x2 : Int32) (σ : Mem) (Q : Int32 → Mem → Prop) : Prop := (wX7_find  σ (fun σ1 => (wX7_isDancer x1 σ1 (fun r6 σ6 => (((r6 = 0) → (Q (-2 : Int32) σ6)) ∧ ((¬ r6 = 0) → (wX7_isTwo x2 σ6 (fun r13 σ13 => (((r13 = 0) → (Q (-2 : Int32) σ13)) ∧ ((¬ r13 = 0) → (wX7_beginOf x1 x2 σ13 (fun r22 σ22 => (Q r22 σ22)))))))))))))
set_option maxHeartbeats 4000000 in
set_option maxRecDepth 100000 in
theorem kX7_begin (l : Launch) (E : wE) (hE : wM E) (x1 : Int32) (x2 : Int32) (σ : Mem) (Q : Int32 → Mem → Prop) (h : wX7_begin x1 x2 σ Q) : Met l yX7_begin (Cond.code yX7_begin cX7_begin 3 (some .int) :: TB) rX7_begin (wPc E σ [.ref (gE E 0), .int x1, .int x2]) (wQi E Q) 0 0 (wA E) := by
  refine wMet (by decide) hE.2.2 (Nat.le_of_ble_eq_true rfl) ?_
  intro p e s m args below meth c ls C hr hlk hl hw
  have hx := C.1.1
  have hb := C.1.2.1
  replace C : Cx p s m args c cX7_begin 3 RX7 E (wA E) := C
  replace hl : lv_has ls 3 [(0, .ref (gE E 0)), (1, .int x1), (2, .int x2)] := hl
  unfold wX7_begin at h
  refine lv_aload_n hx hb (dAt dX7_begin 0 rfl) rfl (lv_at hl 0 rfl) ?_
  refine x_callv C hw (x_runV (As := []) (rest := []) C hw (kX7_find l E hE  σ _ h) mtX7_find lk_X7_219 (hE.1 0) (nM hE (by decide)) rfl ⟨by decide, by decide⟩ ⟨rfl, rfl⟩ rfl hl.1 rfl (Nat.le_of_ble_eq_true rfl) (dAt dX7_begin 1 rfl) ⟨Nat.zero_le _, Nat.zero_le _⟩) (fun σ1 H locs h hw => ?_)
  refine lv_aload_n hx hb (dAt dX7_begin 2 rfl) rfl (lv_at hl 0 rfl) ?_
  refine lv_iload_n hx hb (dAt dX7_begin 3 rfl) rfl (lv_at hl 1 rfl) ?_
  refine x_calli C hw (x_runV (As := [.int x1]) (rest := []) C hw (kX7_isDancer l E hE x1 σ1 _ h) mtX7_isDancer lk_X7_157 (hE.1 0) (nM hE (by decide)) rfl ⟨by decide, by decide⟩ ⟨rfl, rfl⟩ rfl hl.1 rfl (Nat.le_of_ble_eq_true rfl) (dAt dX7_begin 4 rfl) ⟨Nat.zero_le _, Nat.zero_le _⟩) (fun r6 σ6 H locs h hw => ?_)
  refine lv_if_eq (tgt := 28) hx hb (dAt dX7_begin 5 rfl) (by decide) (fun c9 => ?_) (fun c9 => ?_)
  · replace h := h.1 c9
    refine lv_bipush (v := -2) hx hb (dAt dX7_begin 14 rfl) (by decide) ?_
    exact x_iret C hw hr hlk h (dAt dX7_begin 15 rfl)
  · replace h := h.2 c9
    refine lv_iload_n hx hb (dAt dX7_begin 6 rfl) rfl (lv_at hl 2 rfl) ?_
    refine x_calli C hw (x_runS (As := [.int x2]) (rest := []) C hw (kX7_isTwo l E hE x2 σ6 _ h) mtX7_isTwo lk_X7_116 ⟨by decide, by decide⟩ ⟨rfl, rfl⟩ rfl hl.1 rfl (Nat.le_of_ble_eq_true rfl) (dAt dX7_begin 7 rfl) ⟨Nat.zero_le _, Nat.zero_le _⟩) (fun r13 σ13 H locs h hw => ?_)
    refine lv_if_eq (tgt := 28) hx hb (dAt dX7_begin 8 rfl) (by decide) (fun c16 => ?_) (fun c16 => ?_)
    · replace h := h.1 c16
      refine lv_bipush (v := -2) hx hb (dAt dX7_begin 14 rfl) (by decide) ?_
      exact x_iret C hw hr hlk h (dAt dX7_begin 15 rfl)
    · replace h := h.2 c16
      refine lv_aload_n hx hb (dAt dX7_begin 9 rfl) rfl (lv_at hl 0 rfl) ?_
      refine lv_iload_n hx hb (dAt dX7_begin 10 rfl) rfl (lv_at hl 1 rfl) ?_
      refine lv_iload_n hx hb (dAt dX7_begin 11 rfl) rfl (lv_at hl 2 rfl) ?_
      refine x_calli C hw (x_runV (As := [.int x1, .int x2]) (rest := []) C hw (kX7_beginOf l E hE x1 x2 σ13 _ h) mtX7_beginOf lk_X7_271 (hE.1 0) (nM hE (by decide)) rfl ⟨by decide, by decide⟩ ⟨rfl, rfl⟩ rfl hl.1 rfl (Nat.le_of_ble_eq_true rfl) (dAt dX7_begin 12 rfl) ⟨Nat.zero_le _, Nat.zero_le _⟩) (fun r22 σ22 H locs h hw => ?_)
      refine lv_goto (tgt := 30) hx hb (dAt dX7_begin 13 rfl) (by decide) ?_
      exact x_iret C hw hr hlk h (dAt dX7_begin 15 rfl)
def tX7_dressOf : List (Nat × Instr × Nat) := [(0, .aload_n 0, 1), (1, .getfield 28, 3), (4, .iconst 3, 1), (5, .iload_n 1, 1), (6, .imul, 1), (7, .iconst 2, 1), (8, .iadd, 1), (9, .iaload, 1), (10, .istore_n 3, 1), (11, .aload_n 0, 1), (12, .invokevirtual 216, 3), (15, .iconst (-1), 1), (16, .istore 4, 2), (18, .sipush 999, 3), (21, .istore 5, 2), (23, .iconst 0, 1), (24, .istore 6, 2), (26, .iload 6, 2), (28, .bipush 10, 2), (30, .if_icmp .ge 53, 3), (33, .aload_n 0, 1), (34, .getfield 28, 3), (37, .iconst 3, 1), (38, .iload_n 1, 1), (39, .imul, 1), (40, .iconst 2, 1), (41, .iadd, 1), (42, .iload 6, 2), (44, .iastore, 1), (45, .aload_n 0, 1), (46, .iconst 0, 1), (47, .invokevirtual 250, 3), (50, .istore 7, 2), (52, .iload 7, 2), (54, .iload 5, 2), (56, .if_icmp .ge 8, 3), (59, .iload 6, 2), (61, .goto 5, 3), (64, .iload 4, 2), (66, .istore 4, 2), (68, .iload 7, 2), (70, .iload 5, 2), (72, .invokestatic 274, 3), (75, .istore 5, 2), (77, .iinc 6 1, 3), (80, .goto (-54), 3), (83, .aload_n 0, 1), (84, .getfield 28, 3), (87, .iconst 3, 1), (88, .iload_n 1, 1), (89, .imul, 1), (90, .iconst 2, 1), (91, .iadd, 1), (92, .iload_n 3, 1), (93, .iastore, 1), (94, .iload_n 2, 1), (95, .ifCond .ne 8, 3), (98, .iload 4, 2), (100, .goto 5, 3), (103, .iload 5, 2), (105, .ireturn, 1)]
theorem dX7_dressOf : dOk cX7_dressOf tX7_dressOf = true := by decide +kernel
abbrev rX7_dressOf : Room := { frames := 6, cells := 0, slots := 0, locals := 139 }
def wX7_dressOf_83 (Q : Int32 → Mem → Prop) (x1 : Int32) (x2 : Int32) (x3 : Int32) (x4 : Int32) (x5 : Int32) (σ : Mem) : Prop := (vp_in (((3 : Int32) * x1) + (2 : Int32)) 24 ∧ (∀ σ93 : Mem, σ93 = um σ 7 ((((3 : Int32) * x1) + (2 : Int32))).toNatClampNeg x3 → (Q (if x2 = 0 then x4 else x5) σ93)))
def wX7_dressOf_26 (Q : Int32 → Mem → Prop) : Nat → Int32 → Int32 → Int32 → Int32 → Int32 → Int32 → Mem → Prop
  | 0, _, _, _, _, _, _, _ => False
  | n + 1, x1, x2, x3, x4, x5, x6, σ => ((((10 : Int32) ≤ x6) → (wX7_dressOf_83 Q x1 x2 x3 x4 x5 σ)) ∧ ((¬ (10 : Int32) ≤ x6) → (vp_in (((3 : Int32) * x1) + (2 : Int32)) 24 ∧ (∀ σ44 : Mem, σ44 = um σ 7 ((((3 : Int32) * x1) + (2 : Int32))).toNatClampNeg x6 → (wX7_runBy (0 : Int32) σ44 (fun r47 σ47 => (∀ x4_66 : Int32, x4_66 = (if x5 ≤ r47 then x4 else x6) → (wX7_lesser r47 x5 σ47 (fun r72 σ72 => (wX7_dressOf_26 Q n x1 x2 x3 x4_66 r72 (x6 + (1 : Int32)) σ72))))))))))
def wX7_dressOf (x1 : Int32) (x2 : Int32) (σ : Mem) (Q : Int32 → Mem → Prop) : Prop := (vp_in (((3 : Int32) * x1) + (2 : Int32)) 24 ∧ (∀ x3_10 : Int32, x3_10 = (σ 7 ((((3 : Int32) * x1) + (2 : Int32))).toNatClampNeg) → (wX7_lives  σ (fun σ12 => (∃ N26, wX7_dressOf_26 Q N26 x1 x2 x3_10 (-1 : Int32) (999 : Int32) (0 : Int32) σ12)))))
set_option maxHeartbeats 4000000 in
set_option maxRecDepth 100000 in
theorem kX7_dressOf_83 {p : Program} {l : Launch} {e : Env} {s : State} {m : MethodId} {args : Array Value} {below : List Frame} {meth : Method} {c : Code} {E : wE} (hE : wM E) (C : Cx p s m args c cX7_dressOf 8 RX7 E (wA E)) (hr : meth.sig.returnType = (some .int)) (hlk : meth.locks = false) {Q : Int32 → Mem → Prop} : ∀ (x1 : Int32) (x2 : Int32) (x3 : Int32) (x4 : Int32) (x5 : Int32) (σ : Mem) (H : Heap) (locs : List Loc) (ls : Array Slot), wd E (wA E) s σ H locs → lv_has ls 8 [(0, .ref (gE E 0)), (1, .int x1), (2, .int x2), (3, .int x3), (4, .int x4), (5, .int x5)] → wX7_dressOf_83 Q x1 x2 x3 x4 x5 σ → W p l e rX7_dressOf s m args below meth c H locs 0 0 (MQ below (wQi E Q) args s 0 0 (wA E)) (F0 m 83 ls []) := by
  have hx := C.1.1
  have hb := C.1.2.1
  intro x1 x2 x3 x4 x5 σ  H locs ls hw hl h
  unfold wX7_dressOf_83 at h
  refine lv_aload_n hx hb (dAt dX7_dressOf 46 rfl) rfl (lv_at hl 0 rfl) ?_
  refine x_getr C hw fl_X7_28 (hE.1 0) (nM hE (by decide)) rfl (dAt dX7_dressOf 47 rfl) ?_
  refine lv_iconst (v := 3) hx hb (dAt dX7_dressOf 48 rfl) (by decide) ?_
  refine lv_iload_n hx hb (dAt dX7_dressOf 49 rfl) rfl (lv_at hl 1 rfl) ?_
  refine lv_imul hx hb (dAt dX7_dressOf 50 rfl) ?_
  refine lv_iconst (v := 2) hx hb (dAt dX7_dressOf 51 rfl) (by decide) ?_
  refine lv_iadd hx hb (dAt dX7_dressOf 52 rfl) ?_
  refine lv_iload_n hx hb (dAt dX7_dressOf 53 rfl) rfl (lv_at hl 3 rfl) ?_
  obtain ⟨z93, h⟩ := h
  refine x_ist C hw (hE.1 7) (nM hE (by decide)) z93 rfl (dAt dX7_dressOf 54 rfl) (fun σ93 H locs eσ93 hw => ?_)
  replace h := h σ93 eσ93
  refine lv_iload_n hx hb (dAt dX7_dressOf 55 rfl) rfl (lv_at hl 2 rfl) ?_
  refine x_dia (ls := ls) (pcJ := 105) (cnd := x2 = 0) (a := x4) (b := x5) ([]) ?_ (fun ht95 hf95 => ?_)
  · exact x_iret C hw hr hlk h (dAt dX7_dressOf 60 rfl)
  · refine lv_if_ne (tgt := 103) hx hb (dAt dX7_dressOf 56 rfl) (by decide) (fun c95 => ?_) (fun c95 => ?_)
    · refine lv_iload hx hb (dAt dX7_dressOf 59 rfl) (lv_at hl 5 rfl) ?_
      exact hf95 c95
    · refine lv_iload hx hb (dAt dX7_dressOf 57 rfl) (lv_at hl 4 rfl) ?_
      refine lv_goto (tgt := 105) hx hb (dAt dX7_dressOf 58 rfl) (by decide) ?_
      exact ht95 c95
set_option maxHeartbeats 4000000 in
set_option maxRecDepth 100000 in
theorem kX7_dressOf_26 {p : Program} {l : Launch} {e : Env} {s : State} {m : MethodId} {args : Array Value} {below : List Frame} {meth : Method} {c : Code} {E : wE} (hE : wM E) (C : Cx p s m args c cX7_dressOf 8 RX7 E (wA E)) (hr : meth.sig.returnType = (some .int)) (hlk : meth.locks = false) {Q : Int32 → Mem → Prop} : ∀ (n : Nat) (x1 : Int32) (x2 : Int32) (x3 : Int32) (x4 : Int32) (x5 : Int32) (x6 : Int32) (σ : Mem) (H : Heap) (locs : List Loc) (ls : Array Slot), wd E (wA E) s σ H locs → lv_has ls 8 [(0, .ref (gE E 0)), (1, .int x1), (2, .int x2), (3, .int x3), (4, .int x4), (5, .int x5), (6, .int x6)] → wX7_dressOf_26 Q n x1 x2 x3 x4 x5 x6 σ → W p l e rX7_dressOf s m args below meth c H locs 0 0 (MQ below (wQi E Q) args s 0 0 (wA E)) (F0 m 26 ls []) := by
  have hx := C.1.1
  have hb := C.1.2.1
  intro n
  induction n with
  | zero =>
    intro x1 x2 x3 x4 x5 x6 σ  H locs ls hw hl h
    exact h.elim
  | succ n ih =>
    intro x1 x2 x3 x4 x5 x6 σ  H locs ls hw hl h
    rw [wX7_dressOf_26] at h
    refine lv_iload hx hb (dAt dX7_dressOf 17 rfl) (lv_at hl 6 rfl) ?_
    refine lv_bipush (v := 10) hx hb (dAt dX7_dressOf 18 rfl) (by decide) ?_
    refine lv_icmp_ge (tgt := 83) hx hb (dAt dX7_dressOf 19 rfl) (by decide) (fun c30 => ?_) (fun c30 => ?_)
    · replace h := h.1 c30
      exact kX7_dressOf_83 hE C hr hlk x1 x2 x3 x4 x5 σ  _ _ _ hw (lv_sub hl [0, 1, 2, 3, 4, 5] rfl) h
    · replace h := h.2 c30
      refine lv_aload_n hx hb (dAt dX7_dressOf 20 rfl) rfl (lv_at hl 0 rfl) ?_
      refine x_getr C hw fl_X7_28 (hE.1 0) (nM hE (by decide)) rfl (dAt dX7_dressOf 21 rfl) ?_
      refine lv_iconst (v := 3) hx hb (dAt dX7_dressOf 22 rfl) (by decide) ?_
      refine lv_iload_n hx hb (dAt dX7_dressOf 23 rfl) rfl (lv_at hl 1 rfl) ?_
      refine lv_imul hx hb (dAt dX7_dressOf 24 rfl) ?_
      refine lv_iconst (v := 2) hx hb (dAt dX7_dressOf 25 rfl) (by decide) ?_
      refine lv_iadd hx hb (dAt dX7_dressOf 26 rfl) ?_
      refine lv_iload hx hb (dAt dX7_dressOf 27 rfl) (lv_at hl 6 rfl) ?_
      obtain ⟨z44, h⟩ := h
      refine x_ist C hw (hE.1 7) (nM hE (by decide)) z44 rfl (dAt dX7_dressOf 28 rfl) (fun σ44 H locs eσ44 hw => ?_)
      replace h := h σ44 eσ44
      refine lv_aload_n hx hb (dAt dX7_dressOf 29 rfl) rfl (lv_at hl 0 rfl) ?_
      refine lv_iconst (v := 0) hx hb (dAt dX7_dressOf 30 rfl) (by decide) ?_
      refine x_calli C hw (x_runV (As := [.int (0 : Int32)]) (rest := []) C hw (kX7_runBy l E hE (0 : Int32) σ44 _ h) mtX7_runBy lk_X7_250 (hE.1 0) (nM hE (by decide)) rfl ⟨by decide, by decide⟩ ⟨rfl, rfl⟩ rfl hl.1 rfl (Nat.le_of_ble_eq_true rfl) (dAt dX7_dressOf 31 rfl) ⟨Nat.zero_le _, Nat.zero_le _⟩) (fun r47 σ47 H locs h hw => ?_)
      refine lv_istore (lv' := [(7, .int r47), (0, .ref (gE E 0)), (1, .int x1), (2, .int x2), (3, .int x3), (4, .int x4), (5, .int x5), (6, .int x6)]) hx hb (dAt dX7_dressOf 32 rfl) hl (by decide) rfl (fun ls hl => ?_)
      refine lv_iload hx hb (dAt dX7_dressOf 33 rfl) (lv_at hl 0 rfl) ?_
      refine lv_iload hx hb (dAt dX7_dressOf 34 rfl) (lv_at hl 6 rfl) ?_
      refine x_dia (ls := ls) (pcJ := 66) (cnd := x5 ≤ r47) (a := x4) (b := x6) ([]) ?_ (fun ht56 hf56 => ?_)
      · refine lv_topi (fun x4_66 ex4_66 => ?_)
        replace h := h x4_66 ex4_66
        refine lv_istore (lv' := [(4, .int x4_66), (7, .int r47), (0, .ref (gE E 0)), (1, .int x1), (2, .int x2), (3, .int x3), (5, .int x5), (6, .int x6)]) hx hb (dAt dX7_dressOf 39 rfl) hl (by decide) rfl (fun ls hl => ?_)
        refine lv_iload hx hb (dAt dX7_dressOf 40 rfl) (lv_at hl 1 rfl) ?_
        refine lv_iload hx hb (dAt dX7_dressOf 41 rfl) (lv_at hl 6 rfl) ?_
        refine x_calli C hw (x_runS (As := [.int r47, .int x5]) (rest := []) C hw (kX7_lesser l E hE r47 x5 σ47 _ h) mtX7_lesser lk_X7_274 ⟨by decide, by decide⟩ ⟨rfl, rfl⟩ rfl hl.1 rfl (Nat.le_of_ble_eq_true rfl) (dAt dX7_dressOf 42 rfl) ⟨Nat.zero_le _, Nat.zero_le _⟩) (fun r72 σ72 H locs h hw => ?_)
        refine lv_istore (lv' := [(5, .int r72), (4, .int x4_66), (7, .int r47), (0, .ref (gE E 0)), (1, .int x1), (2, .int x2), (3, .int x3), (6, .int x6)]) hx hb (dAt dX7_dressOf 43 rfl) hl (by decide) rfl (fun ls hl => ?_)
        refine lv_iinc (v := (x6 + (1 : Int32))) (lv' := [(6, .int (x6 + (1 : Int32))), (5, .int r72), (4, .int x4_66), (7, .int r47), (0, .ref (gE E 0)), (1, .int x1), (2, .int x2), (3, .int x3)]) hx hb (dAt dX7_dressOf 44 rfl) hl (k := 7) rfl rfl (by decide) rfl (fun ls hl => ?_)
        refine lv_goto (tgt := 26) hx hb (dAt dX7_dressOf 45 rfl) (by decide) ?_
        exact ih x1 x2 x3 x4_66 r72 (x6 + (1 : Int32)) σ72  _ _ _ hw (lv_sub hl [4, 5, 6, 7, 2, 1, 0] rfl) h
      · refine lv_icmp_ge (tgt := 64) hx hb (dAt dX7_dressOf 35 rfl) (by decide) (fun c56 => ?_) (fun c56 => ?_)
        · refine lv_iload hx hb (dAt dX7_dressOf 38 rfl) (lv_at hl 5 rfl) ?_
          exact ht56 c56
        · refine lv_iload hx hb (dAt dX7_dressOf 36 rfl) (lv_at hl 7 rfl) ?_
          refine lv_goto (tgt := 66) hx hb (dAt dX7_dressOf 37 rfl) (by decide) ?_
          exact hf56 c56
set_option maxHeartbeats 4000000 in
set_option maxRecDepth 100000 in
theorem kX7_dressOf (l : Launch) (E : wE) (hE : wM E) (x1 : Int32) (x2 : Int32) (σ : Mem) (Q : Int32 → Mem → Prop) (h : wX7_dressOf x1 x2 σ Q) : Met l yX7_dressOf (Cond.code yX7_dressOf cX7_dressOf 8 (some .int) :: TB) rX7_dressOf (wPc E σ [.ref (gE E 0), .int x1, .int x2]) (wQi E Q) 0 0 (wA E) := by
  refine wMet (by decide) hE.2.2 (Nat.le_of_ble_eq_true rfl) ?_
  intro p e s m args below meth c ls C hr hlk hl hw
  have hx := C.1.1
  have hb := C.1.2.1
  replace C : Cx p s m args c cX7_dressOf 8 RX7 E (wA E) := C
  replace hl : lv_has ls 8 [(0, .ref (gE E 0)), (1, .int x1), (2, .int x2)] := hl
  unfold wX7_dressOf at h
  refine lv_aload_n hx hb (dAt dX7_dressOf 0 rfl) rfl (lv_at hl 0 rfl) ?_
  refine x_getr C hw fl_X7_28 (hE.1 0) (nM hE (by decide)) rfl (dAt dX7_dressOf 1 rfl) ?_
  refine lv_iconst (v := 3) hx hb (dAt dX7_dressOf 2 rfl) (by decide) ?_
  refine lv_iload_n hx hb (dAt dX7_dressOf 3 rfl) rfl (lv_at hl 1 rfl) ?_
  refine lv_imul hx hb (dAt dX7_dressOf 4 rfl) ?_
  refine lv_iconst (v := 2) hx hb (dAt dX7_dressOf 5 rfl) (by decide) ?_
  refine lv_iadd hx hb (dAt dX7_dressOf 6 rfl) ?_
  obtain ⟨z9, h⟩ := h
  refine x_ild C hw (hE.1 7) (nM hE (by decide)) z9 rfl (dAt dX7_dressOf 7 rfl) ?_
  refine lv_topi (fun x3_10 ex3_10 => ?_)
  replace h := h x3_10 ex3_10
  refine lv_istore_n (lv' := [(3, .int x3_10), (0, .ref (gE E 0)), (1, .int x1), (2, .int x2)]) hx hb (dAt dX7_dressOf 8 rfl) rfl hl (by decide) rfl (fun ls hl => ?_)
  refine lv_aload_n hx hb (dAt dX7_dressOf 9 rfl) rfl (lv_at hl 1 rfl) ?_
  refine x_callv C hw (x_runV (As := []) (rest := []) C hw (kX7_lives l E hE  σ _ h) mtX7_lives lk_X7_216 (hE.1 0) (nM hE (by decide)) rfl ⟨by decide, by decide⟩ ⟨rfl, rfl⟩ rfl hl.1 rfl (Nat.le_of_ble_eq_true rfl) (dAt dX7_dressOf 10 rfl) ⟨Nat.zero_le _, Nat.zero_le _⟩) (fun σ12 H locs h hw => ?_)
  refine lv_iconst (v := -1) hx hb (dAt dX7_dressOf 11 rfl) (by decide) ?_
  refine lv_istore (lv' := [(4, .int (-1 : Int32)), (3, .int x3_10), (0, .ref (gE E 0)), (1, .int x1), (2, .int x2)]) hx hb (dAt dX7_dressOf 12 rfl) hl (by decide) rfl (fun ls hl => ?_)
  refine lv_sipush (v := 999) hx hb (dAt dX7_dressOf 13 rfl) (by decide) ?_
  refine lv_istore (lv' := [(5, .int (999 : Int32)), (4, .int (-1 : Int32)), (3, .int x3_10), (0, .ref (gE E 0)), (1, .int x1), (2, .int x2)]) hx hb (dAt dX7_dressOf 14 rfl) hl (by decide) rfl (fun ls hl => ?_)
  refine lv_iconst (v := 0) hx hb (dAt dX7_dressOf 15 rfl) (by decide) ?_
  refine lv_istore (lv' := [(6, .int (0 : Int32)), (5, .int (999 : Int32)), (4, .int (-1 : Int32)), (3, .int x3_10), (0, .ref (gE E 0)), (1, .int x1), (2, .int x2)]) hx hb (dAt dX7_dressOf 16 rfl) hl (by decide) rfl (fun ls hl => ?_)
  obtain ⟨n26, h⟩ := h
  exact kX7_dressOf_26 hE C hr hlk n26 x1 x2 x3_10 (-1 : Int32) (999 : Int32) (0 : Int32) σ12  _ _ _ hw (lv_sub hl [4, 5, 6, 3, 2, 1, 0] rfl) h
def tX7_dress : List (Nat × Instr × Nat) := [(0, .aload_n 0, 1), (1, .invokevirtual 219, 3), (4, .aload_n 0, 1), (5, .iload_n 1, 1), (6, .invokevirtual 157, 3), (9, .ifCond .eq 19, 3), (12, .iload_n 2, 1), (13, .invokestatic 116, 3), (16, .ifCond .eq 12, 3), (19, .aload_n 0, 1), (20, .iload_n 1, 1), (21, .iload_n 2, 1), (22, .invokevirtual 277, 3), (25, .goto 5, 3), (28, .bipush (-2), 2), (30, .ireturn, 1)]
theorem dX7_dress : dOk cX7_dress tX7_dress = true := by decide +kernel
abbrev rX7_dress : Room := { frames := 7, cells := 0, slots := 0, locals := 166 }
def wX7_dress (x1 : Int32) (x2 : Int32) (σ : Mem) (Q : Int32 → Mem → Prop) : Prop := (wX7_find  σ (fun σ1 => (wX7_isDancer x1 σ1 (fun r6 σ6 => (((r6 = 0) → (Q (-2 : Int32) σ6)) ∧ ((¬ r6 = 0) → (wX7_isTwo x2 σ6 (fun r13 σ13 => (((r13 = 0) → (Q (-2 : Int32) σ13)) ∧ ((¬ r13 = 0) → (wX7_dressOf x1 x2 σ13 (fun r22 σ22 => (Q r22 σ22)))))))))))))
set_option maxHeartbeats 4000000 in
set_option maxRecDepth 100000 in
theorem kX7_dress (l : Launch) (E : wE) (hE : wM E) (x1 : Int32) (x2 : Int32) (σ : Mem) (Q : Int32 → Mem → Prop) (h : wX7_dress x1 x2 σ Q) : Met l yX7_dress (Cond.code yX7_dress cX7_dress 3 (some .int) :: TB) rX7_dress (wPc E σ [.ref (gE E 0), .int x1, .int x2]) (wQi E Q) 0 0 (wA E) := by
  refine wMet (by decide) hE.2.2 (Nat.le_of_ble_eq_true rfl) ?_
  intro p e s m args below meth c ls C hr hlk hl hw
  have hx := C.1.1
  have hb := C.1.2.1
  replace C : Cx p s m args c cX7_dress 3 RX7 E (wA E) := C
  replace hl : lv_has ls 3 [(0, .ref (gE E 0)), (1, .int x1), (2, .int x2)] := hl
  unfold wX7_dress at h
  refine lv_aload_n hx hb (dAt dX7_dress 0 rfl) rfl (lv_at hl 0 rfl) ?_
  refine x_callv C hw (x_runV (As := []) (rest := []) C hw (kX7_find l E hE  σ _ h) mtX7_find lk_X7_219 (hE.1 0) (nM hE (by decide)) rfl ⟨by decide, by decide⟩ ⟨rfl, rfl⟩ rfl hl.1 rfl (Nat.le_of_ble_eq_true rfl) (dAt dX7_dress 1 rfl) ⟨Nat.zero_le _, Nat.zero_le _⟩) (fun σ1 H locs h hw => ?_)
  refine lv_aload_n hx hb (dAt dX7_dress 2 rfl) rfl (lv_at hl 0 rfl) ?_
  refine lv_iload_n hx hb (dAt dX7_dress 3 rfl) rfl (lv_at hl 1 rfl) ?_
  refine x_calli C hw (x_runV (As := [.int x1]) (rest := []) C hw (kX7_isDancer l E hE x1 σ1 _ h) mtX7_isDancer lk_X7_157 (hE.1 0) (nM hE (by decide)) rfl ⟨by decide, by decide⟩ ⟨rfl, rfl⟩ rfl hl.1 rfl (Nat.le_of_ble_eq_true rfl) (dAt dX7_dress 4 rfl) ⟨Nat.zero_le _, Nat.zero_le _⟩) (fun r6 σ6 H locs h hw => ?_)
  refine lv_if_eq (tgt := 28) hx hb (dAt dX7_dress 5 rfl) (by decide) (fun c9 => ?_) (fun c9 => ?_)
  · replace h := h.1 c9
    refine lv_bipush (v := -2) hx hb (dAt dX7_dress 14 rfl) (by decide) ?_
    exact x_iret C hw hr hlk h (dAt dX7_dress 15 rfl)
  · replace h := h.2 c9
    refine lv_iload_n hx hb (dAt dX7_dress 6 rfl) rfl (lv_at hl 2 rfl) ?_
    refine x_calli C hw (x_runS (As := [.int x2]) (rest := []) C hw (kX7_isTwo l E hE x2 σ6 _ h) mtX7_isTwo lk_X7_116 ⟨by decide, by decide⟩ ⟨rfl, rfl⟩ rfl hl.1 rfl (Nat.le_of_ble_eq_true rfl) (dAt dX7_dress 7 rfl) ⟨Nat.zero_le _, Nat.zero_le _⟩) (fun r13 σ13 H locs h hw => ?_)
    refine lv_if_eq (tgt := 28) hx hb (dAt dX7_dress 8 rfl) (by decide) (fun c16 => ?_) (fun c16 => ?_)
    · replace h := h.1 c16
      refine lv_bipush (v := -2) hx hb (dAt dX7_dress 14 rfl) (by decide) ?_
      exact x_iret C hw hr hlk h (dAt dX7_dress 15 rfl)
    · replace h := h.2 c16
      refine lv_aload_n hx hb (dAt dX7_dress 9 rfl) rfl (lv_at hl 0 rfl) ?_
      refine lv_iload_n hx hb (dAt dX7_dress 10 rfl) rfl (lv_at hl 1 rfl) ?_
      refine lv_iload_n hx hb (dAt dX7_dress 11 rfl) rfl (lv_at hl 2 rfl) ?_
      refine x_calli C hw (x_runV (As := [.int x1, .int x2]) (rest := []) C hw (kX7_dressOf l E hE x1 x2 σ13 _ h) mtX7_dressOf lk_X7_277 (hE.1 0) (nM hE (by decide)) rfl ⟨by decide, by decide⟩ ⟨rfl, rfl⟩ rfl hl.1 rfl (Nat.le_of_ble_eq_true rfl) (dAt dX7_dress 12 rfl) ⟨Nat.zero_le _, Nat.zero_le _⟩) (fun r22 σ22 H locs h hw => ?_)
      refine lv_goto (tgt := 30) hx hb (dAt dX7_dress 13 rfl) (by decide) ?_
      exact x_iret C hw hr hlk h (dAt dX7_dress 15 rfl)
def tX7_isSpared : List (Nat × Instr × Nat) := [(0, .aload_n 0, 1), (1, .iload_n 1, 1), (2, .putfield 172, 3), (5, .aload_n 0, 1), (6, .invokevirtual 216, 3), (9, .aload_n 0, 1), (10, .iconst 0, 1), (11, .putfield 172, 3), (14, .aload_n 0, 1), (15, .getfield 178, 3), (18, .ifCond .ne 7, 3), (21, .iconst 1, 1), (22, .goto 4, 3), (25, .iconst 0, 1), (26, .ireturn, 1)]
theorem dX7_isSpared : dOk cX7_isSpared tX7_isSpared = true := by decide +kernel
abbrev rX7_isSpared : Room := { frames := 6, cells := 0, slots := 0, locals := 139 }
def wX7_isSpared (x1 : Int32) (σ : Mem) (Q : Int32 → Mem → Prop) : Prop := (∀ σ2 : Mem, σ2 = um σ 0 14 x1 → (wX7_lives  σ2 (fun σ6 => (∀ σ11 : Mem, σ11 = um σ6 0 14 (0 : Int32) → (bz (if (σ11 0 20) = 0 then (1 : Int32) else (0 : Int32)) ∧ Q (if (σ11 0 20) = 0 then (1 : Int32) else (0 : Int32)) σ11)))))
set_option maxHeartbeats 4000000 in
set_option maxRecDepth 100000 in
theorem kX7_isSpared (l : Launch) (E : wE) (hE : wM E) (x1 : Int32) (σ : Mem) (Q : Int32 → Mem → Prop) (h : wX7_isSpared x1 σ Q) : Met l yX7_isSpared (Cond.code yX7_isSpared cX7_isSpared 2 (some .boolean) :: TB) rX7_isSpared (wPc E σ [.ref (gE E 0), .int x1]) (wQi E Q) 0 0 (wA E) := by
  refine wMet (by decide) hE.2.2 (Nat.le_of_ble_eq_true rfl) ?_
  intro p e s m args below meth c ls C hr hlk hl hw
  have hx := C.1.1
  have hb := C.1.2.1
  replace C : Cx p s m args c cX7_isSpared 2 RX7 E (wA E) := C
  replace hl : lv_has ls 2 [(0, .ref (gE E 0)), (1, .int x1)] := hl
  unfold wX7_isSpared at h
  refine lv_aload_n hx hb (dAt dX7_isSpared 0 rfl) rfl (lv_at hl 0 rfl) ?_
  refine lv_iload_n hx hb (dAt dX7_isSpared 1 rfl) rfl (lv_at hl 1 rfl) ?_
  refine x_pf C hw fl_X7_172 (hE.1 0) (nM hE (by decide)) rfl rfl rfl (dAt dX7_isSpared 2 rfl) (fun σ2 H locs eσ2 hw => ?_)
  replace h := h σ2 eσ2
  refine lv_aload_n hx hb (dAt dX7_isSpared 3 rfl) rfl (lv_at hl 0 rfl) ?_
  refine x_callv C hw (x_runV (As := []) (rest := []) C hw (kX7_lives l E hE  σ2 _ h) mtX7_lives lk_X7_216 (hE.1 0) (nM hE (by decide)) rfl ⟨by decide, by decide⟩ ⟨rfl, rfl⟩ rfl hl.1 rfl (Nat.le_of_ble_eq_true rfl) (dAt dX7_isSpared 4 rfl) ⟨Nat.zero_le _, Nat.zero_le _⟩) (fun σ6 H locs h hw => ?_)
  refine lv_aload_n hx hb (dAt dX7_isSpared 5 rfl) rfl (lv_at hl 0 rfl) ?_
  refine lv_iconst (v := 0) hx hb (dAt dX7_isSpared 6 rfl) (by decide) ?_
  refine x_pf C hw fl_X7_172 (hE.1 0) (nM hE (by decide)) rfl rfl rfl (dAt dX7_isSpared 7 rfl) (fun σ11 H locs eσ11 hw => ?_)
  replace h := h σ11 eσ11
  refine lv_aload_n hx hb (dAt dX7_isSpared 8 rfl) rfl (lv_at hl 0 rfl) ?_
  refine x_geti C hw fl_X7_178 (hE.1 0) (nM hE (by decide)) rfl (dAt dX7_isSpared 9 rfl) ?_
  refine x_dia (ls := ls) (pcJ := 26) (cnd := (σ11 0 20) = 0) (a := (1 : Int32)) (b := (0 : Int32)) ([]) ?_ (fun ht18 hf18 => ?_)
  · exact x_zret C hw hr hlk h.1 h.2 (dAt dX7_isSpared 14 rfl)
  · refine lv_if_ne (tgt := 25) hx hb (dAt dX7_isSpared 10 rfl) (by decide) (fun c18 => ?_) (fun c18 => ?_)
    · refine lv_iconst (v := 0) hx hb (dAt dX7_isSpared 13 rfl) (by decide) ?_
      exact hf18 c18
    · refine lv_iconst (v := 1) hx hb (dAt dX7_isSpared 11 rfl) (by decide) ?_
      refine lv_goto (tgt := 26) hx hb (dAt dX7_isSpared 12 rfl) (by decide) ?_
      exact ht18 c18
def tX7_spareBy : List (Nat × Instr × Nat) := [(0, .aload_n 0, 1), (1, .iconst 0, 1), (2, .invokevirtual 280, 3), (5, .ifCond .eq 14, 3), (8, .iload_n 1, 1), (9, .iconst (-1), 1), (10, .if_icmp .ne 7, 3), (13, .iconst 0, 1), (14, .goto 4, 3), (17, .iconst (-1), 1), (18, .ireturn, 1), (19, .iconst 0, 1), (20, .istore_n 2, 1), (21, .iload_n 2, 1), (22, .aload_n 0, 1), (23, .getfield 167, 3), (26, .if_icmp .ge 38, 3), (29, .aload_n 0, 1), (30, .iconst 1, 1), (31, .iload_n 2, 1), (32, .ishl, 1), (33, .invokevirtual 280, 3), (36, .ifCond .eq 22, 3), (39, .iload_n 1, 1), (40, .iconst (-1), 1), (41, .if_icmp .ne 7, 3), (44, .iconst 1, 1), (45, .goto 12, 3), (48, .iload_n 1, 1), (49, .ifCond .ne 7, 3), (52, .iload_n 2, 1), (53, .goto 4, 3), (56, .iconst (-1), 1), (57, .ireturn, 1), (58, .iinc 2 1, 3), (61, .goto (-40), 3), (64, .iconst 0, 1), (65, .istore_n 2, 1), (66, .iload_n 2, 1), (67, .aload_n 0, 1), (68, .getfield 167, 3), (71, .if_icmp .ge 60, 3), (74, .iload_n 2, 1), (75, .iconst 1, 1), (76, .iadd, 1), (77, .istore_n 3, 1), (78, .iload_n 3, 1), (79, .aload_n 0, 1), (80, .getfield 167, 3), (83, .if_icmp .ge 42, 3), (86, .aload_n 0, 1), (87, .iconst 1, 1), (88, .iload_n 2, 1), (89, .ishl, 1), (90, .iconst 1, 1), (91, .iload_n 3, 1), (92, .ishl, 1), (93, .ior, 1), (94, .invokevirtual 280, 3), (97, .ifCond .eq 22, 3), (100, .iload_n 1, 1), (101, .iconst (-1), 1), (102, .if_icmp .ne 7, 3), (105, .iconst 2, 1), (106, .goto 12, 3), (109, .iload_n 1, 1), (110, .ifCond .ne 7, 3), (113, .iload_n 2, 1), (114, .goto 4, 3), (117, .iload_n 3, 1), (118, .ireturn, 1), (119, .iinc 3 1, 3), (122, .goto (-44), 3), (125, .iinc 2 1, 3), (128, .goto (-62), 3), (131, .iconst (-1), 1), (132, .ireturn, 1)]
theorem dX7_spareBy : dOk cX7_spareBy tX7_spareBy = true := by decide +kernel
abbrev rX7_spareBy : Room := { frames := 7, cells := 0, slots := 0, locals := 160 }
def wX7_spareBy_100 (Q : Int32 → Mem → Prop) (x1 : Int32) (x2 : Int32) (x3 : Int32) (σ : Mem) : Prop := (Q (if x1 = (-1 : Int32) then (2 : Int32) else (if x1 = 0 then x2 else x3)) σ)
def wX7_spareBy_78 (K66 : Int32 → Int32 → Mem → Prop) (Q : Int32 → Mem → Prop) : Nat → Int32 → Int32 → Int32 → Mem → Prop
  | 0, _, _, _, _ => False
  | n + 1, x1, x2, x3, σ => ((((σ 0 12) ≤ x3) → (K66 x1 (x2 + (1 : Int32)) σ)) ∧ ((¬ (σ 0 12) ≤ x3) → (wX7_isSpared (((1 : Int32) <<< (x2 &&& 31)) ||| ((1 : Int32) <<< (x3 &&& 31))) σ (fun r94 σ94 => (((r94 = 0) → (wX7_spareBy_78 K66 Q n x1 x2 (x3 + (1 : Int32)) σ94)) ∧ ((¬ r94 = 0) → (wX7_spareBy_100 Q x1 x2 x3 σ94)))))))
def wX7_spareBy_66 (Q : Int32 → Mem → Prop) : Nat → Int32 → Int32 → Mem → Prop
  | 0, _, _, _ => False
  | n + 1, x1, x2, σ => ((((σ 0 12) ≤ x2) → (Q (-1 : Int32) σ)) ∧ ((¬ (σ 0 12) ≤ x2) → (∀ x3_77 : Int32, x3_77 = (x2 + (1 : Int32)) → (∃ N78, wX7_spareBy_78 (fun x1 x2 ρ => wX7_spareBy_66 Q n x1 x2 ρ) Q N78 x1 x2 x3_77 σ))))
def wX7_spareBy_39 (Q : Int32 → Mem → Prop) (x1 : Int32) (x2 : Int32) (σ : Mem) : Prop := (Q (if x1 = (-1 : Int32) then (1 : Int32) else (if x1 = 0 then x2 else (-1 : Int32))) σ)
def wX7_spareBy_21 (Q : Int32 → Mem → Prop) : Nat → Int32 → Int32 → Mem → Prop
  | 0, _, _, _ => False
  | n + 1, x1, x2, σ => ((((σ 0 12) ≤ x2) → (∃ N66, wX7_spareBy_66 Q N66 x1 (0 : Int32) σ)) ∧ ((¬ (σ 0 12) ≤ x2) → (wX7_isSpared ((1 : Int32) <<< (x2 &&& 31)) σ (fun r33 σ33 => (((r33 = 0) → (wX7_spareBy_21 Q n x1 (x2 + (1 : Int32)) σ33)) ∧ ((¬ r33 = 0) → (wX7_spareBy_39 Q x1 x2 σ33)))))))
def wX7_spareBy (x1 : Int32) (σ : Mem) (Q : Int32 → Mem → Prop) : Prop := (wX7_isSpared (0 : Int32) σ (fun r2 σ2 => (((r2 = 0) → (∃ N21, wX7_spareBy_21 Q N21 x1 (0 : Int32) σ2)) ∧ ((¬ r2 = 0) → (Q (if x1 = (-1 : Int32) then (0 : Int32) else (-1 : Int32)) σ2)))))
set_option maxHeartbeats 4000000 in
set_option maxRecDepth 100000 in
theorem kX7_spareBy_100 {p : Program} {l : Launch} {e : Env} {s : State} {m : MethodId} {args : Array Value} {below : List Frame} {meth : Method} {c : Code} {E : wE} (hE : wM E) (C : Cx p s m args c cX7_spareBy 4 RX7 E (wA E)) (hr : meth.sig.returnType = (some .int)) (hlk : meth.locks = false) {Q : Int32 → Mem → Prop} : ∀ (x1 : Int32) (x2 : Int32) (x3 : Int32) (σ : Mem) (H : Heap) (locs : List Loc) (ls : Array Slot), wd E (wA E) s σ H locs → lv_has ls 4 [(1, .int x1), (2, .int x2), (3, .int x3)] → wX7_spareBy_100 Q x1 x2 x3 σ → W p l e rX7_spareBy s m args below meth c H locs 0 0 (MQ below (wQi E Q) args s 0 0 (wA E)) (F0 m 100 ls []) := by
  have hx := C.1.1
  have hb := C.1.2.1
  intro x1 x2 x3 σ  H locs ls hw hl h
  unfold wX7_spareBy_100 at h
  refine lv_iload_n hx hb (dAt dX7_spareBy 60 rfl) rfl (lv_at hl 0 rfl) ?_
  refine lv_iconst (v := -1) hx hb (dAt dX7_spareBy 61 rfl) (by decide) ?_
  refine x_dia (ls := ls) (pcJ := 118) (cnd := x1 = (-1 : Int32)) (a := (2 : Int32)) (b := (if x1 = 0 then x2 else x3)) ([]) ?_ (fun ht102 hf102 => ?_)
  · exact x_iret C hw hr hlk h (dAt dX7_spareBy 70 rfl)
  · refine lv_icmp_ne (tgt := 109) hx hb (dAt dX7_spareBy 62 rfl) (by decide) (fun c102 => ?_) (fun c102 => ?_)
    · refine lv_iload_n hx hb (dAt dX7_spareBy 65 rfl) rfl (lv_at hl 0 rfl) ?_
      refine x_dia (ls := ls) _ (hf102 c102) (fun ht102_102t hf102_102t => ?_)
      refine lv_if_ne (tgt := 117) hx hb (dAt dX7_spareBy 66 rfl) (by decide) (fun c110 => ?_) (fun c110 => ?_)
      · refine lv_iload_n hx hb (dAt dX7_spareBy 69 rfl) rfl (lv_at hl 2 rfl) ?_
        exact hf102_102t c110
      · refine lv_iload_n hx hb (dAt dX7_spareBy 67 rfl) rfl (lv_at hl 1 rfl) ?_
        refine lv_goto (tgt := 118) hx hb (dAt dX7_spareBy 68 rfl) (by decide) ?_
        exact ht102_102t c110
    · refine lv_iconst (v := 2) hx hb (dAt dX7_spareBy 63 rfl) (by decide) ?_
      refine lv_goto (tgt := 118) hx hb (dAt dX7_spareBy 64 rfl) (by decide) ?_
      exact ht102 c102
set_option maxHeartbeats 4000000 in
set_option maxRecDepth 100000 in
theorem kX7_spareBy_78 {p : Program} {l : Launch} {e : Env} {s : State} {m : MethodId} {args : Array Value} {below : List Frame} {meth : Method} {c : Code} {E : wE} (hE : wM E) (C : Cx p s m args c cX7_spareBy 4 RX7 E (wA E)) (hr : meth.sig.returnType = (some .int)) (hlk : meth.locks = false) {Q : Int32 → Mem → Prop} {K66 : Int32 → Int32 → Mem → Prop} (hK66 : ∀ (x1 : Int32) (x2 : Int32) (σ : Mem) (H : Heap) (locs : List Loc) (ls : Array Slot), wd E (wA E) s σ H locs → lv_has ls 4 [(0, .ref (gE E 0)), (1, .int x1), (2, .int x2)] → K66 x1 x2 σ → W p l e rX7_spareBy s m args below meth c H locs 0 0 (MQ below (wQi E Q) args s 0 0 (wA E)) (F0 m 66 ls [])) : ∀ (n : Nat) (x1 : Int32) (x2 : Int32) (x3 : Int32) (σ : Mem) (H : Heap) (locs : List Loc) (ls : Array Slot), wd E (wA E) s σ H locs → lv_has ls 4 [(0, .ref (gE E 0)), (1, .int x1), (2, .int x2), (3, .int x3)] → wX7_spareBy_78 K66 Q n x1 x2 x3 σ → W p l e rX7_spareBy s m args below meth c H locs 0 0 (MQ below (wQi E Q) args s 0 0 (wA E)) (F0 m 78 ls []) := by
  have hx := C.1.1
  have hb := C.1.2.1
  intro n
  induction n with
  | zero =>
    intro x1 x2 x3 σ  H locs ls hw hl h
    exact h.elim
  | succ n ih =>
    intro x1 x2 x3 σ  H locs ls hw hl h
    rw [wX7_spareBy_78] at h
    refine lv_iload_n hx hb (dAt dX7_spareBy 46 rfl) rfl (lv_at hl 3 rfl) ?_
    refine lv_aload_n hx hb (dAt dX7_spareBy 47 rfl) rfl (lv_at hl 0 rfl) ?_
    refine x_geti C hw fl_X7_167 (hE.1 0) (nM hE (by decide)) rfl (dAt dX7_spareBy 48 rfl) ?_
    refine lv_icmp_ge (tgt := 125) hx hb (dAt dX7_spareBy 49 rfl) (by decide) (fun c83 => ?_) (fun c83 => ?_)
    · replace h := h.1 c83
      refine lv_iinc (v := (x2 + (1 : Int32))) (lv' := [(2, .int (x2 + (1 : Int32))), (0, .ref (gE E 0)), (1, .int x1), (3, .int x3)]) hx hb (dAt dX7_spareBy 73 rfl) hl (k := 2) rfl rfl (by decide) rfl (fun ls hl => ?_)
      refine lv_goto (tgt := 66) hx hb (dAt dX7_spareBy 74 rfl) (by decide) ?_
      exact hK66 x1 (x2 + (1 : Int32)) σ  _ _ _ hw (lv_sub hl [1, 2, 0] rfl) h
    · replace h := h.2 c83
      refine lv_aload_n hx hb (dAt dX7_spareBy 50 rfl) rfl (lv_at hl 0 rfl) ?_
      refine lv_iconst (v := 1) hx hb (dAt dX7_spareBy 51 rfl) (by decide) ?_
      refine lv_iload_n hx hb (dAt dX7_spareBy 52 rfl) rfl (lv_at hl 2 rfl) ?_
      refine lv_ishl hx hb (dAt dX7_spareBy 53 rfl) ?_
      refine lv_iconst (v := 1) hx hb (dAt dX7_spareBy 54 rfl) (by decide) ?_
      refine lv_iload_n hx hb (dAt dX7_spareBy 55 rfl) rfl (lv_at hl 3 rfl) ?_
      refine lv_ishl hx hb (dAt dX7_spareBy 56 rfl) ?_
      refine lv_ior hx hb (dAt dX7_spareBy 57 rfl) ?_
      refine x_calli C hw (x_runV (As := [.int (((1 : Int32) <<< (x2 &&& 31)) ||| ((1 : Int32) <<< (x3 &&& 31)))]) (rest := []) C hw (kX7_isSpared l E hE (((1 : Int32) <<< (x2 &&& 31)) ||| ((1 : Int32) <<< (x3 &&& 31))) σ _ h) mtX7_isSpared lk_X7_280 (hE.1 0) (nM hE (by decide)) rfl ⟨by decide, by decide⟩ ⟨rfl, rfl⟩ rfl hl.1 rfl (Nat.le_of_ble_eq_true rfl) (dAt dX7_spareBy 58 rfl) ⟨Nat.zero_le _, Nat.zero_le _⟩) (fun r94 σ94 H locs h hw => ?_)
      refine lv_if_eq (tgt := 119) hx hb (dAt dX7_spareBy 59 rfl) (by decide) (fun c97 => ?_) (fun c97 => ?_)
      · replace h := h.1 c97
        refine lv_iinc (v := (x3 + (1 : Int32))) (lv' := [(3, .int (x3 + (1 : Int32))), (0, .ref (gE E 0)), (1, .int x1), (2, .int x2)]) hx hb (dAt dX7_spareBy 71 rfl) hl (k := 3) rfl rfl (by decide) rfl (fun ls hl => ?_)
        refine lv_goto (tgt := 78) hx hb (dAt dX7_spareBy 72 rfl) (by decide) ?_
        exact ih x1 x2 (x3 + (1 : Int32)) σ94  _ _ _ hw (lv_sub hl [1, 2, 3, 0] rfl) h
      · replace h := h.2 c97
        exact kX7_spareBy_100 hE C hr hlk x1 x2 x3 σ94  _ _ _ hw (lv_sub hl [1, 2, 3] rfl) h
set_option maxHeartbeats 4000000 in
set_option maxRecDepth 100000 in
theorem kX7_spareBy_66 {p : Program} {l : Launch} {e : Env} {s : State} {m : MethodId} {args : Array Value} {below : List Frame} {meth : Method} {c : Code} {E : wE} (hE : wM E) (C : Cx p s m args c cX7_spareBy 4 RX7 E (wA E)) (hr : meth.sig.returnType = (some .int)) (hlk : meth.locks = false) {Q : Int32 → Mem → Prop} : ∀ (n : Nat) (x1 : Int32) (x2 : Int32) (σ : Mem) (H : Heap) (locs : List Loc) (ls : Array Slot), wd E (wA E) s σ H locs → lv_has ls 4 [(0, .ref (gE E 0)), (1, .int x1), (2, .int x2)] → wX7_spareBy_66 Q n x1 x2 σ → W p l e rX7_spareBy s m args below meth c H locs 0 0 (MQ below (wQi E Q) args s 0 0 (wA E)) (F0 m 66 ls []) := by
  have hx := C.1.1
  have hb := C.1.2.1
  intro n
  induction n with
  | zero =>
    intro x1 x2 σ  H locs ls hw hl h
    exact h.elim
  | succ n ih =>
    intro x1 x2 σ  H locs ls hw hl h
    rw [wX7_spareBy_66] at h
    refine lv_iload_n hx hb (dAt dX7_spareBy 38 rfl) rfl (lv_at hl 2 rfl) ?_
    refine lv_aload_n hx hb (dAt dX7_spareBy 39 rfl) rfl (lv_at hl 0 rfl) ?_
    refine x_geti C hw fl_X7_167 (hE.1 0) (nM hE (by decide)) rfl (dAt dX7_spareBy 40 rfl) ?_
    refine lv_icmp_ge (tgt := 131) hx hb (dAt dX7_spareBy 41 rfl) (by decide) (fun c71 => ?_) (fun c71 => ?_)
    · replace h := h.1 c71
      refine lv_iconst (v := -1) hx hb (dAt dX7_spareBy 75 rfl) (by decide) ?_
      exact x_iret C hw hr hlk h (dAt dX7_spareBy 76 rfl)
    · replace h := h.2 c71
      refine lv_iload_n hx hb (dAt dX7_spareBy 42 rfl) rfl (lv_at hl 2 rfl) ?_
      refine lv_iconst (v := 1) hx hb (dAt dX7_spareBy 43 rfl) (by decide) ?_
      refine lv_iadd hx hb (dAt dX7_spareBy 44 rfl) ?_
      refine lv_topi (fun x3_77 ex3_77 => ?_)
      replace h := h x3_77 ex3_77
      refine lv_istore_n (lv' := [(3, .int x3_77), (0, .ref (gE E 0)), (1, .int x1), (2, .int x2)]) hx hb (dAt dX7_spareBy 45 rfl) rfl hl (by decide) rfl (fun ls hl => ?_)
      obtain ⟨n78, h⟩ := h
      exact kX7_spareBy_78 hE C hr hlk ih n78 x1 x2 x3_77 σ  _ _ _ hw (lv_sub hl [1, 2, 3, 0] rfl) h
set_option maxHeartbeats 4000000 in
set_option maxRecDepth 100000 in
theorem kX7_spareBy_39 {p : Program} {l : Launch} {e : Env} {s : State} {m : MethodId} {args : Array Value} {below : List Frame} {meth : Method} {c : Code} {E : wE} (hE : wM E) (C : Cx p s m args c cX7_spareBy 4 RX7 E (wA E)) (hr : meth.sig.returnType = (some .int)) (hlk : meth.locks = false) {Q : Int32 → Mem → Prop} : ∀ (x1 : Int32) (x2 : Int32) (σ : Mem) (H : Heap) (locs : List Loc) (ls : Array Slot), wd E (wA E) s σ H locs → lv_has ls 4 [(1, .int x1), (2, .int x2)] → wX7_spareBy_39 Q x1 x2 σ → W p l e rX7_spareBy s m args below meth c H locs 0 0 (MQ below (wQi E Q) args s 0 0 (wA E)) (F0 m 39 ls []) := by
  have hx := C.1.1
  have hb := C.1.2.1
  intro x1 x2 σ  H locs ls hw hl h
  unfold wX7_spareBy_39 at h
  refine lv_iload_n hx hb (dAt dX7_spareBy 23 rfl) rfl (lv_at hl 0 rfl) ?_
  refine lv_iconst (v := -1) hx hb (dAt dX7_spareBy 24 rfl) (by decide) ?_
  refine x_dia (ls := ls) (pcJ := 57) (cnd := x1 = (-1 : Int32)) (a := (1 : Int32)) (b := (if x1 = 0 then x2 else (-1 : Int32))) ([]) ?_ (fun ht41 hf41 => ?_)
  · exact x_iret C hw hr hlk h (dAt dX7_spareBy 33 rfl)
  · refine lv_icmp_ne (tgt := 48) hx hb (dAt dX7_spareBy 25 rfl) (by decide) (fun c41 => ?_) (fun c41 => ?_)
    · refine lv_iload_n hx hb (dAt dX7_spareBy 28 rfl) rfl (lv_at hl 0 rfl) ?_
      refine x_dia (ls := ls) _ (hf41 c41) (fun ht41_41t hf41_41t => ?_)
      refine lv_if_ne (tgt := 56) hx hb (dAt dX7_spareBy 29 rfl) (by decide) (fun c49 => ?_) (fun c49 => ?_)
      · refine lv_iconst (v := -1) hx hb (dAt dX7_spareBy 32 rfl) (by decide) ?_
        exact hf41_41t c49
      · refine lv_iload_n hx hb (dAt dX7_spareBy 30 rfl) rfl (lv_at hl 1 rfl) ?_
        refine lv_goto (tgt := 57) hx hb (dAt dX7_spareBy 31 rfl) (by decide) ?_
        exact ht41_41t c49
    · refine lv_iconst (v := 1) hx hb (dAt dX7_spareBy 26 rfl) (by decide) ?_
      refine lv_goto (tgt := 57) hx hb (dAt dX7_spareBy 27 rfl) (by decide) ?_
      exact ht41 c41
set_option maxHeartbeats 4000000 in
set_option maxRecDepth 100000 in
theorem kX7_spareBy_21 {p : Program} {l : Launch} {e : Env} {s : State} {m : MethodId} {args : Array Value} {below : List Frame} {meth : Method} {c : Code} {E : wE} (hE : wM E) (C : Cx p s m args c cX7_spareBy 4 RX7 E (wA E)) (hr : meth.sig.returnType = (some .int)) (hlk : meth.locks = false) {Q : Int32 → Mem → Prop} : ∀ (n : Nat) (x1 : Int32) (x2 : Int32) (σ : Mem) (H : Heap) (locs : List Loc) (ls : Array Slot), wd E (wA E) s σ H locs → lv_has ls 4 [(0, .ref (gE E 0)), (1, .int x1), (2, .int x2)] → wX7_spareBy_21 Q n x1 x2 σ → W p l e rX7_spareBy s m args below meth c H locs 0 0 (MQ below (wQi E Q) args s 0 0 (wA E)) (F0 m 21 ls []) := by
  have hx := C.1.1
  have hb := C.1.2.1
  intro n
  induction n with
  | zero =>
    intro x1 x2 σ  H locs ls hw hl h
    exact h.elim
  | succ n ih =>
    intro x1 x2 σ  H locs ls hw hl h
    rw [wX7_spareBy_21] at h
    refine lv_iload_n hx hb (dAt dX7_spareBy 13 rfl) rfl (lv_at hl 2 rfl) ?_
    refine lv_aload_n hx hb (dAt dX7_spareBy 14 rfl) rfl (lv_at hl 0 rfl) ?_
    refine x_geti C hw fl_X7_167 (hE.1 0) (nM hE (by decide)) rfl (dAt dX7_spareBy 15 rfl) ?_
    refine lv_icmp_ge (tgt := 64) hx hb (dAt dX7_spareBy 16 rfl) (by decide) (fun c26 => ?_) (fun c26 => ?_)
    · replace h := h.1 c26
      refine lv_iconst (v := 0) hx hb (dAt dX7_spareBy 36 rfl) (by decide) ?_
      refine lv_istore_n (lv' := [(2, .int (0 : Int32)), (0, .ref (gE E 0)), (1, .int x1)]) hx hb (dAt dX7_spareBy 37 rfl) rfl hl (by decide) rfl (fun ls hl => ?_)
      obtain ⟨n66, h⟩ := h
      exact kX7_spareBy_66 hE C hr hlk n66 x1 (0 : Int32) σ  _ _ _ hw (lv_sub hl [1, 2, 0] rfl) h
    · replace h := h.2 c26
      refine lv_aload_n hx hb (dAt dX7_spareBy 17 rfl) rfl (lv_at hl 0 rfl) ?_
      refine lv_iconst (v := 1) hx hb (dAt dX7_spareBy 18 rfl) (by decide) ?_
      refine lv_iload_n hx hb (dAt dX7_spareBy 19 rfl) rfl (lv_at hl 2 rfl) ?_
      refine lv_ishl hx hb (dAt dX7_spareBy 20 rfl) ?_
      refine x_calli C hw (x_runV (As := [.int ((1 : Int32) <<< (x2 &&& 31))]) (rest := []) C hw (kX7_isSpared l E hE ((1 : Int32) <<< (x2 &&& 31)) σ _ h) mtX7_isSpared lk_X7_280 (hE.1 0) (nM hE (by decide)) rfl ⟨by decide, by decide⟩ ⟨rfl, rfl⟩ rfl hl.1 rfl (Nat.le_of_ble_eq_true rfl) (dAt dX7_spareBy 21 rfl) ⟨Nat.zero_le _, Nat.zero_le _⟩) (fun r33 σ33 H locs h hw => ?_)
      refine lv_if_eq (tgt := 58) hx hb (dAt dX7_spareBy 22 rfl) (by decide) (fun c36 => ?_) (fun c36 => ?_)
      · replace h := h.1 c36
        refine lv_iinc (v := (x2 + (1 : Int32))) (lv' := [(2, .int (x2 + (1 : Int32))), (0, .ref (gE E 0)), (1, .int x1)]) hx hb (dAt dX7_spareBy 34 rfl) hl (k := 2) rfl rfl (by decide) rfl (fun ls hl => ?_)
        refine lv_goto (tgt := 21) hx hb (dAt dX7_spareBy 35 rfl) (by decide) ?_
        exact ih x1 (x2 + (1 : Int32)) σ33  _ _ _ hw (lv_sub hl [1, 2, 0] rfl) h
      · replace h := h.2 c36
        exact kX7_spareBy_39 hE C hr hlk x1 x2 σ33  _ _ _ hw (lv_sub hl [1, 2] rfl) h
set_option maxHeartbeats 4000000 in
set_option maxRecDepth 100000 in
theorem kX7_spareBy (l : Launch) (E : wE) (hE : wM E) (x1 : Int32) (σ : Mem) (Q : Int32 → Mem → Prop) (h : wX7_spareBy x1 σ Q) : Met l yX7_spareBy (Cond.code yX7_spareBy cX7_spareBy 4 (some .int) :: TB) rX7_spareBy (wPc E σ [.ref (gE E 0), .int x1]) (wQi E Q) 0 0 (wA E) := by
  refine wMet (by decide) hE.2.2 (Nat.le_of_ble_eq_true rfl) ?_
  intro p e s m args below meth c ls C hr hlk hl hw
  have hx := C.1.1
  have hb := C.1.2.1
  replace C : Cx p s m args c cX7_spareBy 4 RX7 E (wA E) := C
  replace hl : lv_has ls 4 [(0, .ref (gE E 0)), (1, .int x1)] := hl
  unfold wX7_spareBy at h
  refine lv_aload_n hx hb (dAt dX7_spareBy 0 rfl) rfl (lv_at hl 0 rfl) ?_
  refine lv_iconst (v := 0) hx hb (dAt dX7_spareBy 1 rfl) (by decide) ?_
  refine x_calli C hw (x_runV (As := [.int (0 : Int32)]) (rest := []) C hw (kX7_isSpared l E hE (0 : Int32) σ _ h) mtX7_isSpared lk_X7_280 (hE.1 0) (nM hE (by decide)) rfl ⟨by decide, by decide⟩ ⟨rfl, rfl⟩ rfl hl.1 rfl (Nat.le_of_ble_eq_true rfl) (dAt dX7_spareBy 2 rfl) ⟨Nat.zero_le _, Nat.zero_le _⟩) (fun r2 σ2 H locs h hw => ?_)
  refine lv_if_eq (tgt := 19) hx hb (dAt dX7_spareBy 3 rfl) (by decide) (fun c5 => ?_) (fun c5 => ?_)
  · replace h := h.1 c5
    refine lv_iconst (v := 0) hx hb (dAt dX7_spareBy 11 rfl) (by decide) ?_
    refine lv_istore_n (lv' := [(2, .int (0 : Int32)), (0, .ref (gE E 0)), (1, .int x1)]) hx hb (dAt dX7_spareBy 12 rfl) rfl hl (by decide) rfl (fun ls hl => ?_)
    obtain ⟨n21, h⟩ := h
    exact kX7_spareBy_21 hE C hr hlk n21 x1 (0 : Int32) σ2  _ _ _ hw (lv_sub hl [1, 2, 0] rfl) h
  · replace h := h.2 c5
    refine lv_iload_n hx hb (dAt dX7_spareBy 4 rfl) rfl (lv_at hl 1 rfl) ?_
    refine lv_iconst (v := -1) hx hb (dAt dX7_spareBy 5 rfl) (by decide) ?_
    refine x_dia (ls := ls) (pcJ := 18) (cnd := x1 = (-1 : Int32)) (a := (0 : Int32)) (b := (-1 : Int32)) ([]) ?_ (fun ht10 hf10 => ?_)
    · exact x_iret C hw hr hlk h (dAt dX7_spareBy 10 rfl)
    · refine lv_icmp_ne (tgt := 17) hx hb (dAt dX7_spareBy 6 rfl) (by decide) (fun c10 => ?_) (fun c10 => ?_)
      · refine lv_iconst (v := -1) hx hb (dAt dX7_spareBy 9 rfl) (by decide) ?_
        exact hf10 c10
      · refine lv_iconst (v := 0) hx hb (dAt dX7_spareBy 7 rfl) (by decide) ?_
        refine lv_goto (tgt := 18) hx hb (dAt dX7_spareBy 8 rfl) (by decide) ?_
        exact ht10 c10
def tX7_spare : List (Nat × Instr × Nat) := [(0, .aload_n 0, 1), (1, .invokevirtual 219, 3), (4, .iload_n 1, 1), (5, .i2l, 1), (6, .ldc2_w 283, 3), (9, .lconst 1, 1), (10, .invokestatic 88, 3), (13, .ifCond .eq 11, 3), (16, .aload_n 0, 1), (17, .iload_n 1, 1), (18, .invokevirtual 285, 3), (21, .goto 5, 3), (24, .bipush (-2), 2), (26, .ireturn, 1)]
theorem dX7_spare : dOk cX7_spare tX7_spare = true := by decide +kernel
abbrev rX7_spare : Room := { frames := 8, cells := 0, slots := 0, locals := 183 }
def wX7_spare (x1 : Int32) (σ : Mem) (Q : Int32 → Mem → Prop) : Prop := (wX7_find  σ (fun σ1 => (wX7_in ((x1).toInt64) (-1 : Int64) (1 : Int64) σ1 (fun r10 σ10 => (((r10 = 0) → (Q (-2 : Int32) σ10)) ∧ ((¬ r10 = 0) → (wX7_spareBy x1 σ10 (fun r18 σ18 => (Q r18 σ18)))))))))
set_option maxHeartbeats 4000000 in
set_option maxRecDepth 100000 in
theorem kX7_spare (l : Launch) (E : wE) (hE : wM E) (x1 : Int32) (σ : Mem) (Q : Int32 → Mem → Prop) (h : wX7_spare x1 σ Q) : Met l yX7_spare (Cond.code yX7_spare cX7_spare 2 (some .int) :: TB) rX7_spare (wPc E σ [.ref (gE E 0), .int x1]) (wQi E Q) 0 0 (wA E) := by
  refine wMet (by decide) hE.2.2 (Nat.le_of_ble_eq_true rfl) ?_
  intro p e s m args below meth c ls C hr hlk hl hw
  have hx := C.1.1
  have hb := C.1.2.1
  replace C : Cx p s m args c cX7_spare 2 RX7 E (wA E) := C
  replace hl : lv_has ls 2 [(0, .ref (gE E 0)), (1, .int x1)] := hl
  unfold wX7_spare at h
  refine lv_aload_n hx hb (dAt dX7_spare 0 rfl) rfl (lv_at hl 0 rfl) ?_
  refine x_callv C hw (x_runV (As := []) (rest := []) C hw (kX7_find l E hE  σ _ h) mtX7_find lk_X7_219 (hE.1 0) (nM hE (by decide)) rfl ⟨by decide, by decide⟩ ⟨rfl, rfl⟩ rfl hl.1 rfl (Nat.le_of_ble_eq_true rfl) (dAt dX7_spare 1 rfl) ⟨Nat.zero_le _, Nat.zero_le _⟩) (fun σ1 H locs h hw => ?_)
  refine lv_iload_n hx hb (dAt dX7_spare 2 rfl) rfl (lv_at hl 1 rfl) ?_
  refine lv_i2l hx hb (dAt dX7_spare 3 rfl) rfl ?_
  refine lv_ldc2 (v := -1) hx hb C.1.2.2.2.1 (C.1.2.2.2.2 _ ck_X7_283) (dAt dX7_spare 4 rfl) ?_
  refine lv_lconst (v := 1) hx hb (dAt dX7_spare 5 rfl) (by decide) ?_
  refine x_calli C hw (x_runS (As := [.long ((x1).toInt64), .long (-1 : Int64), .long (1 : Int64)]) (rest := []) C hw (kX7_in l E hE ((x1).toInt64) (-1 : Int64) (1 : Int64) σ1 _ h) mtX7_in lk_X7_88 ⟨by decide, by decide⟩ ⟨rfl, rfl⟩ rfl hl.1 rfl (Nat.le_of_ble_eq_true rfl) (dAt dX7_spare 6 rfl) ⟨Nat.zero_le _, Nat.zero_le _⟩) (fun r10 σ10 H locs h hw => ?_)
  refine lv_if_eq (tgt := 24) hx hb (dAt dX7_spare 7 rfl) (by decide) (fun c13 => ?_) (fun c13 => ?_)
  · replace h := h.1 c13
    refine lv_bipush (v := -2) hx hb (dAt dX7_spare 12 rfl) (by decide) ?_
    exact x_iret C hw hr hlk h (dAt dX7_spare 13 rfl)
  · replace h := h.2 c13
    refine lv_aload_n hx hb (dAt dX7_spare 8 rfl) rfl (lv_at hl 0 rfl) ?_
    refine lv_iload_n hx hb (dAt dX7_spare 9 rfl) rfl (lv_at hl 1 rfl) ?_
    refine x_calli C hw (x_runV (As := [.int x1]) (rest := []) C hw (kX7_spareBy l E hE x1 σ10 _ h) mtX7_spareBy lk_X7_285 (hE.1 0) (nM hE (by decide)) rfl ⟨by decide, by decide⟩ ⟨rfl, rfl⟩ rfl hl.1 rfl (Nat.le_of_ble_eq_true rfl) (dAt dX7_spare 10 rfl) ⟨Nat.zero_le _, Nat.zero_le _⟩) (fun r18 σ18 H locs h hw => ?_)
    refine lv_goto (tgt := 26) hx hb (dAt dX7_spare 11 rfl) (by decide) ?_
    exact x_iret C hw hr hlk h (dAt dX7_spare 13 rfl)
def tX7_seen : List (Nat × Instr × Nat) := [(0, .iload_n 1, 1), (1, .invokestatic 160, 3), (4, .ifCond .eq 15, 3), (7, .iload_n 2, 1), (8, .i2l, 1), (9, .lconst 0, 1), (10, .ldc2_w 288, 3), (13, .invokestatic 88, 3), (16, .ifCond .ne 6, 3), (19, .bipush (-2), 2), (21, .ireturn, 1), (22, .aload_n 0, 1), (23, .getfield 290, 3), (26, .bipush 8, 2), (28, .if_icmp .ne 6, 3), (31, .bipush (-4), 2), (33, .ireturn, 1), (34, .aload_n 0, 1), (35, .getfield 76, 3), (38, .iconst 2, 1), (39, .aload_n 0, 1), (40, .getfield 290, 3), (43, .imul, 1), (44, .iload_n 1, 1), (45, .iastore, 1), (46, .aload_n 0, 1), (47, .getfield 76, 3), (50, .iconst 2, 1), (51, .aload_n 0, 1), (52, .getfield 290, 3), (55, .imul, 1), (56, .iconst 1, 1), (57, .iadd, 1), (58, .iload_n 2, 1), (59, .iastore, 1), (60, .aload_n 0, 1), (61, .dup, 1), (62, .getfield 290, 3), (65, .iconst 1, 1), (66, .iadd, 1), (67, .putfield 290, 3), (70, .aload_n 0, 1), (71, .getfield 290, 3), (74, .ireturn, 1)]
theorem dX7_seen : dOk cX7_seen tX7_seen = true := by decide +kernel
abbrev rX7_seen : Room := { frames := 2, cells := 0, slots := 0, locals := 45 }
def wX7_seen (x1 : Int32) (x2 : Int32) (σ : Mem) (Q : Int32 → Mem → Prop) : Prop := (wX7_isBeat x1 σ (fun r1 σ1 => (((r1 = 0) → (Q (-2 : Int32) σ1)) ∧ ((¬ r1 = 0) → (wX7_in ((x2).toInt64) (0 : Int64) (120 : Int64) σ1 (fun r13 σ13 => (((¬ r13 = 0) → (((¬ (σ13 0 33) = (8 : Int32)) → (vp_in ((2 : Int32) * (σ13 0 33)) 16 ∧ (∀ σ45 : Mem, σ45 = um σ13 23 (((2 : Int32) * (σ13 0 33))).toNatClampNeg x1 → (vp_in (((2 : Int32) * (σ45 0 33)) + (1 : Int32)) 16 ∧ (∀ σ59 : Mem, σ59 = um σ45 23 ((((2 : Int32) * (σ45 0 33)) + (1 : Int32))).toNatClampNeg x2 → (∀ σ67 : Mem, σ67 = um σ59 0 33 ((σ59 0 33) + (1 : Int32)) → (Q (σ67 0 33) σ67))))))) ∧ (((σ13 0 33) = (8 : Int32)) → (Q (-4 : Int32) σ13)))) ∧ ((r13 = 0) → (Q (-2 : Int32) σ13)))))))))
set_option maxHeartbeats 4000000 in
set_option maxRecDepth 100000 in
theorem kX7_seen (l : Launch) (E : wE) (hE : wM E) (x1 : Int32) (x2 : Int32) (σ : Mem) (Q : Int32 → Mem → Prop) (h : wX7_seen x1 x2 σ Q) : Met l yX7_seen (Cond.code yX7_seen cX7_seen 3 (some .int) :: TB) rX7_seen (wPc E σ [.ref (gE E 0), .int x1, .int x2]) (wQi E Q) 0 0 (wA E) := by
  refine wMet (by decide) hE.2.2 (Nat.le_of_ble_eq_true rfl) ?_
  intro p e s m args below meth c ls C hr hlk hl hw
  have hx := C.1.1
  have hb := C.1.2.1
  replace C : Cx p s m args c cX7_seen 3 RX7 E (wA E) := C
  replace hl : lv_has ls 3 [(0, .ref (gE E 0)), (1, .int x1), (2, .int x2)] := hl
  unfold wX7_seen at h
  refine lv_iload_n hx hb (dAt dX7_seen 0 rfl) rfl (lv_at hl 1 rfl) ?_
  refine x_calli C hw (x_runS (As := [.int x1]) (rest := []) C hw (kX7_isBeat l E hE x1 σ _ h) mtX7_isBeat lk_X7_160 ⟨by decide, by decide⟩ ⟨rfl, rfl⟩ rfl hl.1 rfl (Nat.le_of_ble_eq_true rfl) (dAt dX7_seen 1 rfl) ⟨Nat.zero_le _, Nat.zero_le _⟩) (fun r1 σ1 H locs h hw => ?_)
  refine lv_if_eq (tgt := 19) hx hb (dAt dX7_seen 2 rfl) (by decide) (fun c4 => ?_) (fun c4 => ?_)
  · replace h := h.1 c4
    refine lv_bipush (v := -2) hx hb (dAt dX7_seen 9 rfl) (by decide) ?_
    exact x_iret C hw hr hlk h (dAt dX7_seen 10 rfl)
  · replace h := h.2 c4
    refine lv_iload_n hx hb (dAt dX7_seen 3 rfl) rfl (lv_at hl 2 rfl) ?_
    refine lv_i2l hx hb (dAt dX7_seen 4 rfl) rfl ?_
    refine lv_lconst (v := 0) hx hb (dAt dX7_seen 5 rfl) (by decide) ?_
    refine lv_ldc2 (v := 120) hx hb C.1.2.2.2.1 (C.1.2.2.2.2 _ ck_X7_288) (dAt dX7_seen 6 rfl) ?_
    refine x_calli C hw (x_runS (As := [.long ((x2).toInt64), .long (0 : Int64), .long (120 : Int64)]) (rest := []) C hw (kX7_in l E hE ((x2).toInt64) (0 : Int64) (120 : Int64) σ1 _ h) mtX7_in lk_X7_88 ⟨by decide, by decide⟩ ⟨rfl, rfl⟩ rfl hl.1 rfl (Nat.le_of_ble_eq_true rfl) (dAt dX7_seen 7 rfl) ⟨Nat.zero_le _, Nat.zero_le _⟩) (fun r13 σ13 H locs h hw => ?_)
    refine lv_if_ne (tgt := 22) hx hb (dAt dX7_seen 8 rfl) (by decide) (fun c16 => ?_) (fun c16 => ?_)
    · replace h := h.1 c16
      refine lv_aload_n hx hb (dAt dX7_seen 11 rfl) rfl (lv_at hl 0 rfl) ?_
      refine x_geti C hw fl_X7_290 (hE.1 0) (nM hE (by decide)) rfl (dAt dX7_seen 12 rfl) ?_
      refine lv_bipush (v := 8) hx hb (dAt dX7_seen 13 rfl) (by decide) ?_
      refine lv_icmp_ne (tgt := 34) hx hb (dAt dX7_seen 14 rfl) (by decide) (fun c28 => ?_) (fun c28 => ?_)
      · replace h := h.1 c28
        refine lv_aload_n hx hb (dAt dX7_seen 17 rfl) rfl (lv_at hl 0 rfl) ?_
        refine x_getr C hw fl_X7_76 (hE.1 0) (nM hE (by decide)) rfl (dAt dX7_seen 18 rfl) ?_
        refine lv_iconst (v := 2) hx hb (dAt dX7_seen 19 rfl) (by decide) ?_
        refine lv_aload_n hx hb (dAt dX7_seen 20 rfl) rfl (lv_at hl 0 rfl) ?_
        refine x_geti C hw fl_X7_290 (hE.1 0) (nM hE (by decide)) rfl (dAt dX7_seen 21 rfl) ?_
        refine lv_imul hx hb (dAt dX7_seen 22 rfl) ?_
        refine lv_iload_n hx hb (dAt dX7_seen 23 rfl) rfl (lv_at hl 1 rfl) ?_
        obtain ⟨z45, h⟩ := h
        refine x_ist C hw (hE.1 23) (nM hE (by decide)) z45 rfl (dAt dX7_seen 24 rfl) (fun σ45 H locs eσ45 hw => ?_)
        replace h := h σ45 eσ45
        refine lv_aload_n hx hb (dAt dX7_seen 25 rfl) rfl (lv_at hl 0 rfl) ?_
        refine x_getr C hw fl_X7_76 (hE.1 0) (nM hE (by decide)) rfl (dAt dX7_seen 26 rfl) ?_
        refine lv_iconst (v := 2) hx hb (dAt dX7_seen 27 rfl) (by decide) ?_
        refine lv_aload_n hx hb (dAt dX7_seen 28 rfl) rfl (lv_at hl 0 rfl) ?_
        refine x_geti C hw fl_X7_290 (hE.1 0) (nM hE (by decide)) rfl (dAt dX7_seen 29 rfl) ?_
        refine lv_imul hx hb (dAt dX7_seen 30 rfl) ?_
        refine lv_iconst (v := 1) hx hb (dAt dX7_seen 31 rfl) (by decide) ?_
        refine lv_iadd hx hb (dAt dX7_seen 32 rfl) ?_
        refine lv_iload_n hx hb (dAt dX7_seen 33 rfl) rfl (lv_at hl 2 rfl) ?_
        obtain ⟨z59, h⟩ := h
        refine x_ist C hw (hE.1 23) (nM hE (by decide)) z59 rfl (dAt dX7_seen 34 rfl) (fun σ59 H locs eσ59 hw => ?_)
        replace h := h σ59 eσ59
        refine lv_aload_n hx hb (dAt dX7_seen 35 rfl) rfl (lv_at hl 0 rfl) ?_
        refine lv_dup hx hb (dAt dX7_seen 36 rfl) rfl ?_
        refine x_geti C hw fl_X7_290 (hE.1 0) (nM hE (by decide)) rfl (dAt dX7_seen 37 rfl) ?_
        refine lv_iconst (v := 1) hx hb (dAt dX7_seen 38 rfl) (by decide) ?_
        refine lv_iadd hx hb (dAt dX7_seen 39 rfl) ?_
        refine x_pf C hw fl_X7_290 (hE.1 0) (nM hE (by decide)) rfl rfl rfl (dAt dX7_seen 40 rfl) (fun σ67 H locs eσ67 hw => ?_)
        replace h := h σ67 eσ67
        refine lv_aload_n hx hb (dAt dX7_seen 41 rfl) rfl (lv_at hl 0 rfl) ?_
        refine x_geti C hw fl_X7_290 (hE.1 0) (nM hE (by decide)) rfl (dAt dX7_seen 42 rfl) ?_
        exact x_iret C hw hr hlk h (dAt dX7_seen 43 rfl)
      · replace h := h.2 c28
        refine lv_bipush (v := -4) hx hb (dAt dX7_seen 15 rfl) (by decide) ?_
        exact x_iret C hw hr hlk h (dAt dX7_seen 16 rfl)
    · replace h := h.2 c16
      refine lv_bipush (v := -2) hx hb (dAt dX7_seen 9 rfl) (by decide) ?_
      exact x_iret C hw hr hlk h (dAt dX7_seen 10 rfl)
def tX7_forget : List (Nat × Instr × Nat) := [(0, .aload_n 0, 1), (1, .getfield 290, 3), (4, .istore_n 1, 1), (5, .aload_n 0, 1), (6, .iconst 0, 1), (7, .putfield 290, 3), (10, .iload_n 1, 1), (11, .ireturn, 1)]
theorem dX7_forget : dOk cX7_forget tX7_forget = true := by decide +kernel
abbrev rX7_forget : Room := { frames := 0, cells := 0, slots := 0, locals := 0 }
def wX7_forget (σ : Mem) (Q : Int32 → Mem → Prop) : Prop := (∀ x1_4 : Int32, x1_4 = (σ 0 33) → (∀ σ7 : Mem, σ7 = um σ 0 33 (0 : Int32) → (Q x1_4 σ7)))
set_option maxHeartbeats 4000000 in
set_option maxRecDepth 100000 in
theorem kX7_forget (l : Launch) (E : wE) (hE : wM E) (σ : Mem) (Q : Int32 → Mem → Prop) (h : wX7_forget  σ Q) : Met l yX7_forget (Cond.code yX7_forget cX7_forget 2 (some .int) :: TB) rX7_forget (wPc E σ [.ref (gE E 0)]) (wQi E Q) 0 0 (wA E) := by
  refine wMet (by decide) hE.2.2 (Nat.le_of_ble_eq_true rfl) ?_
  intro p e s m args below meth c ls C hr hlk hl hw
  have hx := C.1.1
  have hb := C.1.2.1
  replace C : Cx p s m args c cX7_forget 2 RX7 E (wA E) := C
  replace hl : lv_has ls 2 [(0, .ref (gE E 0))] := hl
  unfold wX7_forget at h
  refine lv_aload_n hx hb (dAt dX7_forget 0 rfl) rfl (lv_at hl 0 rfl) ?_
  refine x_geti C hw fl_X7_290 (hE.1 0) (nM hE (by decide)) rfl (dAt dX7_forget 1 rfl) ?_
  refine lv_topi (fun x1_4 ex1_4 => ?_)
  replace h := h x1_4 ex1_4
  refine lv_istore_n (lv' := [(1, .int x1_4), (0, .ref (gE E 0))]) hx hb (dAt dX7_forget 2 rfl) rfl hl (by decide) rfl (fun ls hl => ?_)
  refine lv_aload_n hx hb (dAt dX7_forget 3 rfl) rfl (lv_at hl 1 rfl) ?_
  refine lv_iconst (v := 0) hx hb (dAt dX7_forget 4 rfl) (by decide) ?_
  refine x_pf C hw fl_X7_290 (hE.1 0) (nM hE (by decide)) rfl rfl rfl (dAt dX7_forget 5 rfl) (fun σ7 H locs eσ7 hw => ?_)
  replace h := h σ7 eσ7
  refine lv_iload_n hx hb (dAt dX7_forget 6 rfl) rfl (lv_at hl 0 rfl) ?_
  exact x_iret C hw hr hlk h (dAt dX7_forget 7 rfl)
def tX7_isSeen : List (Nat × Instr × Nat) := [(0, .aload_n 0, 1), (1, .invokevirtual 216, 3), (4, .iconst 1, 1), (5, .istore_n 1, 1), (6, .iconst 0, 1), (7, .istore_n 2, 1), (8, .iload_n 2, 1), (9, .aload_n 0, 1), (10, .getfield 290, 3), (13, .if_icmp .ge 45, 3), (16, .iload_n 1, 1), (17, .ifCond .eq 33, 3), (20, .aload_n 0, 1), (21, .getfield 70, 3), (24, .aload_n 0, 1), (25, .getfield 76, 3), (28, .iconst 2, 1), (29, .iload_n 2, 1), (30, .imul, 1), (31, .iaload, 1), (32, .iaload, 1), (33, .aload_n 0, 1), (34, .getfield 76, 3), (37, .iconst 2, 1), (38, .iload_n 2, 1), (39, .imul, 1), (40, .iconst 1, 1), (41, .iadd, 1), (42, .iaload, 1), (43, .if_icmp .ne 7, 3), (46, .iconst 1, 1), (47, .goto 4, 3), (50, .iconst 0, 1), (51, .istore_n 1, 1), (52, .iinc 2 1, 3), (55, .goto (-47), 3), (58, .iload_n 1, 1), (59, .ireturn, 1)]
theorem dX7_isSeen : dOk cX7_isSeen tX7_isSeen = true := by decide +kernel
abbrev rX7_isSeen : Room := { frames := 6, cells := 0, slots := 0, locals := 139 }
def wX7_isSeen_8 (Q : Int32 → Mem → Prop) : Nat → Int32 → Int32 → Mem → Prop
  | 0, _, _, _ => False
  | n + 1, x1, x2, σ => ((((σ 0 33) ≤ x2) → (bz x1 ∧ Q x1 σ)) ∧ ((¬ (σ 0 33) ≤ x2) → (((x1 = 0) → (wX7_isSeen_8 Q n (0 : Int32) (x2 + (1 : Int32)) σ)) ∧ ((¬ x1 = 0) → (vp_in ((2 : Int32) * x2) 16 ∧ (vp_in (σ 23 (((2 : Int32) * x2)).toNatClampNeg) 24 ∧ (vp_in (((2 : Int32) * x2) + (1 : Int32)) 16 ∧ (((¬ (σ 21 ((σ 23 (((2 : Int32) * x2)).toNatClampNeg)).toNatClampNeg) = (σ 23 ((((2 : Int32) * x2) + (1 : Int32))).toNatClampNeg)) → (wX7_isSeen_8 Q n (0 : Int32) (x2 + (1 : Int32)) σ)) ∧ (((σ 21 ((σ 23 (((2 : Int32) * x2)).toNatClampNeg)).toNatClampNeg) = (σ 23 ((((2 : Int32) * x2) + (1 : Int32))).toNatClampNeg)) → (wX7_isSeen_8 Q n (1 : Int32) (x2 + (1 : Int32)) σ))))))))))
def wX7_isSeen (σ : Mem) (Q : Int32 → Mem → Prop) : Prop := (wX7_lives  σ (fun σ1 => (∃ N8, wX7_isSeen_8 Q N8 (1 : Int32) (0 : Int32) σ1)))
set_option maxHeartbeats 4000000 in
set_option maxRecDepth 100000 in
theorem kX7_isSeen_8 {p : Program} {l : Launch} {e : Env} {s : State} {m : MethodId} {args : Array Value} {below : List Frame} {meth : Method} {c : Code} {E : wE} (hE : wM E) (C : Cx p s m args c cX7_isSeen 3 RX7 E (wA E)) (hr : meth.sig.returnType = (some .boolean)) (hlk : meth.locks = false) {Q : Int32 → Mem → Prop} : ∀ (n : Nat) (x1 : Int32) (x2 : Int32) (σ : Mem) (H : Heap) (locs : List Loc) (ls : Array Slot), wd E (wA E) s σ H locs → lv_has ls 3 [(0, .ref (gE E 0)), (1, .int x1), (2, .int x2)] → wX7_isSeen_8 Q n x1 x2 σ → W p l e rX7_isSeen s m args below meth c H locs 0 0 (MQ below (wQi E Q) args s 0 0 (wA E)) (F0 m 8 ls []) := by
  have hx := C.1.1
  have hb := C.1.2.1
  intro n
  induction n with
  | zero =>
    intro x1 x2 σ  H locs ls hw hl h
    exact h.elim
  | succ n ih =>
    intro x1 x2 σ  H locs ls hw hl h
    rw [wX7_isSeen_8] at h
    refine lv_iload_n hx hb (dAt dX7_isSeen 6 rfl) rfl (lv_at hl 2 rfl) ?_
    refine lv_aload_n hx hb (dAt dX7_isSeen 7 rfl) rfl (lv_at hl 0 rfl) ?_
    refine x_geti C hw fl_X7_290 (hE.1 0) (nM hE (by decide)) rfl (dAt dX7_isSeen 8 rfl) ?_
    refine lv_icmp_ge (tgt := 58) hx hb (dAt dX7_isSeen 9 rfl) (by decide) (fun c13 => ?_) (fun c13 => ?_)
    · replace h := h.1 c13
      refine lv_iload_n hx hb (dAt dX7_isSeen 36 rfl) rfl (lv_at hl 1 rfl) ?_
      exact x_zret C hw hr hlk h.1 h.2 (dAt dX7_isSeen 37 rfl)
    · replace h := h.2 c13
      refine lv_iload_n hx hb (dAt dX7_isSeen 10 rfl) rfl (lv_at hl 1 rfl) ?_
      refine lv_if_eq (tgt := 50) hx hb (dAt dX7_isSeen 11 rfl) (by decide) (fun c17 => ?_) (fun c17 => ?_)
      · replace h := h.1 c17
        refine lv_iconst (v := 0) hx hb (dAt dX7_isSeen 32 rfl) (by decide) ?_
        refine lv_istore_n (lv' := [(1, .int (0 : Int32)), (0, .ref (gE E 0)), (2, .int x2)]) hx hb (dAt dX7_isSeen 33 rfl) rfl hl (by decide) rfl (fun ls hl => ?_)
        refine lv_iinc (v := (x2 + (1 : Int32))) (lv' := [(2, .int (x2 + (1 : Int32))), (1, .int (0 : Int32)), (0, .ref (gE E 0))]) hx hb (dAt dX7_isSeen 34 rfl) hl (k := 2) rfl rfl (by decide) rfl (fun ls hl => ?_)
        refine lv_goto (tgt := 8) hx hb (dAt dX7_isSeen 35 rfl) (by decide) ?_
        exact ih (0 : Int32) (x2 + (1 : Int32)) σ  _ _ _ hw (lv_sub hl [2, 1, 0] rfl) h
      · replace h := h.2 c17
        refine lv_aload_n hx hb (dAt dX7_isSeen 12 rfl) rfl (lv_at hl 0 rfl) ?_
        refine x_getr C hw fl_X7_70 (hE.1 0) (nM hE (by decide)) rfl (dAt dX7_isSeen 13 rfl) ?_
        refine lv_aload_n hx hb (dAt dX7_isSeen 14 rfl) rfl (lv_at hl 0 rfl) ?_
        refine x_getr C hw fl_X7_76 (hE.1 0) (nM hE (by decide)) rfl (dAt dX7_isSeen 15 rfl) ?_
        refine lv_iconst (v := 2) hx hb (dAt dX7_isSeen 16 rfl) (by decide) ?_
        refine lv_iload_n hx hb (dAt dX7_isSeen 17 rfl) rfl (lv_at hl 2 rfl) ?_
        refine lv_imul hx hb (dAt dX7_isSeen 18 rfl) ?_
        obtain ⟨z31, h⟩ := h
        refine x_ild C hw (hE.1 23) (nM hE (by decide)) z31 rfl (dAt dX7_isSeen 19 rfl) ?_
        obtain ⟨z32, h⟩ := h
        refine x_ild C hw (hE.1 21) (nM hE (by decide)) z32 rfl (dAt dX7_isSeen 20 rfl) ?_
        refine lv_aload_n hx hb (dAt dX7_isSeen 21 rfl) rfl (lv_at hl 0 rfl) ?_
        refine x_getr C hw fl_X7_76 (hE.1 0) (nM hE (by decide)) rfl (dAt dX7_isSeen 22 rfl) ?_
        refine lv_iconst (v := 2) hx hb (dAt dX7_isSeen 23 rfl) (by decide) ?_
        refine lv_iload_n hx hb (dAt dX7_isSeen 24 rfl) rfl (lv_at hl 2 rfl) ?_
        refine lv_imul hx hb (dAt dX7_isSeen 25 rfl) ?_
        refine lv_iconst (v := 1) hx hb (dAt dX7_isSeen 26 rfl) (by decide) ?_
        refine lv_iadd hx hb (dAt dX7_isSeen 27 rfl) ?_
        obtain ⟨z42, h⟩ := h
        refine x_ild C hw (hE.1 23) (nM hE (by decide)) z42 rfl (dAt dX7_isSeen 28 rfl) ?_
        refine lv_icmp_ne (tgt := 50) hx hb (dAt dX7_isSeen 29 rfl) (by decide) (fun c43 => ?_) (fun c43 => ?_)
        · replace h := h.1 c43
          refine lv_iconst (v := 0) hx hb (dAt dX7_isSeen 32 rfl) (by decide) ?_
          refine lv_istore_n (lv' := [(1, .int (0 : Int32)), (0, .ref (gE E 0)), (2, .int x2)]) hx hb (dAt dX7_isSeen 33 rfl) rfl hl (by decide) rfl (fun ls hl => ?_)
          refine lv_iinc (v := (x2 + (1 : Int32))) (lv' := [(2, .int (x2 + (1 : Int32))), (1, .int (0 : Int32)), (0, .ref (gE E 0))]) hx hb (dAt dX7_isSeen 34 rfl) hl (k := 2) rfl rfl (by decide) rfl (fun ls hl => ?_)
          refine lv_goto (tgt := 8) hx hb (dAt dX7_isSeen 35 rfl) (by decide) ?_
          exact ih (0 : Int32) (x2 + (1 : Int32)) σ  _ _ _ hw (lv_sub hl [2, 1, 0] rfl) h
        · replace h := h.2 c43
          refine lv_iconst (v := 1) hx hb (dAt dX7_isSeen 30 rfl) (by decide) ?_
          refine lv_goto (tgt := 51) hx hb (dAt dX7_isSeen 31 rfl) (by decide) ?_
          refine lv_istore_n (lv' := [(1, .int (1 : Int32)), (0, .ref (gE E 0)), (2, .int x2)]) hx hb (dAt dX7_isSeen 33 rfl) rfl hl (by decide) rfl (fun ls hl => ?_)
          refine lv_iinc (v := (x2 + (1 : Int32))) (lv' := [(2, .int (x2 + (1 : Int32))), (1, .int (1 : Int32)), (0, .ref (gE E 0))]) hx hb (dAt dX7_isSeen 34 rfl) hl (k := 2) rfl rfl (by decide) rfl (fun ls hl => ?_)
          refine lv_goto (tgt := 8) hx hb (dAt dX7_isSeen 35 rfl) (by decide) ?_
          exact ih (1 : Int32) (x2 + (1 : Int32)) σ  _ _ _ hw (lv_sub hl [2, 1, 0] rfl) h
set_option maxHeartbeats 4000000 in
set_option maxRecDepth 100000 in
theorem kX7_isSeen (l : Launch) (E : wE) (hE : wM E) (σ : Mem) (Q : Int32 → Mem → Prop) (h : wX7_isSeen  σ Q) : Met l yX7_isSeen (Cond.code yX7_isSeen cX7_isSeen 3 (some .boolean) :: TB) rX7_isSeen (wPc E σ [.ref (gE E 0)]) (wQi E Q) 0 0 (wA E) := by
  refine wMet (by decide) hE.2.2 (Nat.le_of_ble_eq_true rfl) ?_
  intro p e s m args below meth c ls C hr hlk hl hw
  have hx := C.1.1
  have hb := C.1.2.1
  replace C : Cx p s m args c cX7_isSeen 3 RX7 E (wA E) := C
  replace hl : lv_has ls 3 [(0, .ref (gE E 0))] := hl
  unfold wX7_isSeen at h
  refine lv_aload_n hx hb (dAt dX7_isSeen 0 rfl) rfl (lv_at hl 0 rfl) ?_
  refine x_callv C hw (x_runV (As := []) (rest := []) C hw (kX7_lives l E hE  σ _ h) mtX7_lives lk_X7_216 (hE.1 0) (nM hE (by decide)) rfl ⟨by decide, by decide⟩ ⟨rfl, rfl⟩ rfl hl.1 rfl (Nat.le_of_ble_eq_true rfl) (dAt dX7_isSeen 1 rfl) ⟨Nat.zero_le _, Nat.zero_le _⟩) (fun σ1 H locs h hw => ?_)
  refine lv_iconst (v := 1) hx hb (dAt dX7_isSeen 2 rfl) (by decide) ?_
  refine lv_istore_n (lv' := [(1, .int (1 : Int32)), (0, .ref (gE E 0))]) hx hb (dAt dX7_isSeen 3 rfl) rfl hl (by decide) rfl (fun ls hl => ?_)
  refine lv_iconst (v := 0) hx hb (dAt dX7_isSeen 4 rfl) (by decide) ?_
  refine lv_istore_n (lv' := [(2, .int (0 : Int32)), (1, .int (1 : Int32)), (0, .ref (gE E 0))]) hx hb (dAt dX7_isSeen 5 rfl) rfl hl (by decide) rfl (fun ls hl => ?_)
  obtain ⟨n8, h⟩ := h
  exact kX7_isSeen_8 hE C hr hlk n8 (1 : Int32) (0 : Int32) σ1  _ _ _ hw (lv_sub hl [2, 1, 0] rfl) h
def tX7_neverNow : List (Nat × Instr × Nat) := [(0, .iconst 0, 1), (1, .istore_n 1, 1), (2, .iconst 0, 1), (3, .istore_n 2, 1), (4, .iload_n 2, 1), (5, .aload_n 0, 1), (6, .getfield 167, 3), (9, .if_icmp .ge 33, 3), (12, .aload_n 0, 1), (13, .iconst 1, 1), (14, .iload_n 2, 1), (15, .ishl, 1), (16, .putfield 172, 3), (19, .iload_n 1, 1), (20, .aload_n 0, 1), (21, .invokevirtual 293, 3), (24, .ifCond .eq 9, 3), (27, .iconst 1, 1), (28, .iload_n 2, 1), (29, .ishl, 1), (30, .goto 4, 3), (33, .iconst 0, 1), (34, .ior, 1), (35, .istore_n 1, 1), (36, .iinc 2 1, 3), (39, .goto (-35), 3), (42, .aload_n 0, 1), (43, .iconst 0, 1), (44, .putfield 172, 3), (47, .iload_n 1, 1), (48, .ireturn, 1)]
theorem dX7_neverNow : dOk cX7_neverNow tX7_neverNow = true := by decide +kernel
abbrev rX7_neverNow : Room := { frames := 7, cells := 0, slots := 0, locals := 161 }
def wX7_neverNow_4 (Q : Int32 → Mem → Prop) : Nat → Int32 → Int32 → Mem → Prop
  | 0, _, _, _ => False
  | n + 1, x1, x2, σ => ((((σ 0 12) ≤ x2) → (∀ σ44 : Mem, σ44 = um σ 0 14 (0 : Int32) → (Q x1 σ44))) ∧ ((¬ (σ 0 12) ≤ x2) → (∀ σ16 : Mem, σ16 = um σ 0 14 ((1 : Int32) <<< (x2 &&& 31)) → (wX7_isSeen  σ16 (fun r21 σ21 => (∀ x1_35 : Int32, x1_35 = (x1 ||| (if r21 = 0 then (0 : Int32) else ((1 : Int32) <<< (x2 &&& 31)))) → (wX7_neverNow_4 Q n x1_35 (x2 + (1 : Int32)) σ21)))))))
def wX7_neverNow (σ : Mem) (Q : Int32 → Mem → Prop) : Prop := (∃ N4, wX7_neverNow_4 Q N4 (0 : Int32) (0 : Int32) σ)
set_option maxHeartbeats 4000000 in
set_option maxRecDepth 100000 in
theorem kX7_neverNow_4 {p : Program} {l : Launch} {e : Env} {s : State} {m : MethodId} {args : Array Value} {below : List Frame} {meth : Method} {c : Code} {E : wE} (hE : wM E) (C : Cx p s m args c cX7_neverNow 3 RX7 E (wA E)) (hr : meth.sig.returnType = (some .int)) (hlk : meth.locks = false) {Q : Int32 → Mem → Prop} : ∀ (n : Nat) (x1 : Int32) (x2 : Int32) (σ : Mem) (H : Heap) (locs : List Loc) (ls : Array Slot), wd E (wA E) s σ H locs → lv_has ls 3 [(0, .ref (gE E 0)), (1, .int x1), (2, .int x2)] → wX7_neverNow_4 Q n x1 x2 σ → W p l e rX7_neverNow s m args below meth c H locs 0 0 (MQ below (wQi E Q) args s 0 0 (wA E)) (F0 m 4 ls []) := by
  have hx := C.1.1
  have hb := C.1.2.1
  intro n
  induction n with
  | zero =>
    intro x1 x2 σ  H locs ls hw hl h
    exact h.elim
  | succ n ih =>
    intro x1 x2 σ  H locs ls hw hl h
    rw [wX7_neverNow_4] at h
    refine lv_iload_n hx hb (dAt dX7_neverNow 4 rfl) rfl (lv_at hl 2 rfl) ?_
    refine lv_aload_n hx hb (dAt dX7_neverNow 5 rfl) rfl (lv_at hl 0 rfl) ?_
    refine x_geti C hw fl_X7_167 (hE.1 0) (nM hE (by decide)) rfl (dAt dX7_neverNow 6 rfl) ?_
    refine lv_icmp_ge (tgt := 42) hx hb (dAt dX7_neverNow 7 rfl) (by decide) (fun c9 => ?_) (fun c9 => ?_)
    · replace h := h.1 c9
      refine lv_aload_n hx hb (dAt dX7_neverNow 26 rfl) rfl (lv_at hl 0 rfl) ?_
      refine lv_iconst (v := 0) hx hb (dAt dX7_neverNow 27 rfl) (by decide) ?_
      refine x_pf C hw fl_X7_172 (hE.1 0) (nM hE (by decide)) rfl rfl rfl (dAt dX7_neverNow 28 rfl) (fun σ44 H locs eσ44 hw => ?_)
      replace h := h σ44 eσ44
      refine lv_iload_n hx hb (dAt dX7_neverNow 29 rfl) rfl (lv_at hl 1 rfl) ?_
      exact x_iret C hw hr hlk h (dAt dX7_neverNow 30 rfl)
    · replace h := h.2 c9
      refine lv_aload_n hx hb (dAt dX7_neverNow 8 rfl) rfl (lv_at hl 0 rfl) ?_
      refine lv_iconst (v := 1) hx hb (dAt dX7_neverNow 9 rfl) (by decide) ?_
      refine lv_iload_n hx hb (dAt dX7_neverNow 10 rfl) rfl (lv_at hl 2 rfl) ?_
      refine lv_ishl hx hb (dAt dX7_neverNow 11 rfl) ?_
      refine x_pf C hw fl_X7_172 (hE.1 0) (nM hE (by decide)) rfl rfl rfl (dAt dX7_neverNow 12 rfl) (fun σ16 H locs eσ16 hw => ?_)
      replace h := h σ16 eσ16
      refine lv_iload_n hx hb (dAt dX7_neverNow 13 rfl) rfl (lv_at hl 1 rfl) ?_
      refine lv_aload_n hx hb (dAt dX7_neverNow 14 rfl) rfl (lv_at hl 0 rfl) ?_
      refine x_calli C hw (x_runV (As := []) (rest := [.int x1]) C hw (kX7_isSeen l E hE  σ16 _ h) mtX7_isSeen lk_X7_293 (hE.1 0) (nM hE (by decide)) rfl ⟨by decide, by decide⟩ ⟨rfl, rfl⟩ rfl hl.1 rfl (Nat.le_of_ble_eq_true rfl) (dAt dX7_neverNow 15 rfl) ⟨Nat.zero_le _, Nat.zero_le _⟩) (fun r21 σ21 H locs h hw => ?_)
      refine x_dia (ls := ls) (pcJ := 34) (cnd := r21 = 0) (a := (0 : Int32)) (b := ((1 : Int32) <<< (x2 &&& 31))) ([.int x1]) ?_ (fun ht24 hf24 => ?_)
      · refine lv_ior hx hb (dAt dX7_neverNow 22 rfl) ?_
        refine lv_topi (fun x1_35 ex1_35 => ?_)
        replace h := h x1_35 ex1_35
        refine lv_istore_n (lv' := [(1, .int x1_35), (0, .ref (gE E 0)), (2, .int x2)]) hx hb (dAt dX7_neverNow 23 rfl) rfl hl (by decide) rfl (fun ls hl => ?_)
        refine lv_iinc (v := (x2 + (1 : Int32))) (lv' := [(2, .int (x2 + (1 : Int32))), (1, .int x1_35), (0, .ref (gE E 0))]) hx hb (dAt dX7_neverNow 24 rfl) hl (k := 2) rfl rfl (by decide) rfl (fun ls hl => ?_)
        refine lv_goto (tgt := 4) hx hb (dAt dX7_neverNow 25 rfl) (by decide) ?_
        exact ih x1_35 (x2 + (1 : Int32)) σ21  _ _ _ hw (lv_sub hl [2, 1, 0] rfl) h
      · refine lv_if_eq (tgt := 33) hx hb (dAt dX7_neverNow 16 rfl) (by decide) (fun c24 => ?_) (fun c24 => ?_)
        · refine lv_iconst (v := 0) hx hb (dAt dX7_neverNow 21 rfl) (by decide) ?_
          exact ht24 c24
        · refine lv_iconst (v := 1) hx hb (dAt dX7_neverNow 17 rfl) (by decide) ?_
          refine lv_iload_n hx hb (dAt dX7_neverNow 18 rfl) rfl (lv_at hl 2 rfl) ?_
          refine lv_ishl hx hb (dAt dX7_neverNow 19 rfl) ?_
          refine lv_goto (tgt := 34) hx hb (dAt dX7_neverNow 20 rfl) (by decide) ?_
          exact hf24 c24
set_option maxHeartbeats 4000000 in
set_option maxRecDepth 100000 in
theorem kX7_neverNow (l : Launch) (E : wE) (hE : wM E) (σ : Mem) (Q : Int32 → Mem → Prop) (h : wX7_neverNow  σ Q) : Met l yX7_neverNow (Cond.code yX7_neverNow cX7_neverNow 3 (some .int) :: TB) rX7_neverNow (wPc E σ [.ref (gE E 0)]) (wQi E Q) 0 0 (wA E) := by
  refine wMet (by decide) hE.2.2 (Nat.le_of_ble_eq_true rfl) ?_
  intro p e s m args below meth c ls C hr hlk hl hw
  have hx := C.1.1
  have hb := C.1.2.1
  replace C : Cx p s m args c cX7_neverNow 3 RX7 E (wA E) := C
  replace hl : lv_has ls 3 [(0, .ref (gE E 0))] := hl
  unfold wX7_neverNow at h
  refine lv_iconst (v := 0) hx hb (dAt dX7_neverNow 0 rfl) (by decide) ?_
  refine lv_istore_n (lv' := [(1, .int (0 : Int32)), (0, .ref (gE E 0))]) hx hb (dAt dX7_neverNow 1 rfl) rfl hl (by decide) rfl (fun ls hl => ?_)
  refine lv_iconst (v := 0) hx hb (dAt dX7_neverNow 2 rfl) (by decide) ?_
  refine lv_istore_n (lv' := [(2, .int (0 : Int32)), (1, .int (0 : Int32)), (0, .ref (gE E 0))]) hx hb (dAt dX7_neverNow 3 rfl) rfl hl (by decide) rfl (fun ls hl => ?_)
  obtain ⟨n4, h⟩ := h
  exact kX7_neverNow_4 hE C hr hlk n4 (0 : Int32) (0 : Int32) σ  _ _ _ hw (lv_sub hl [2, 1, 0] rfl) h
def tX7_never : List (Nat × Instr × Nat) := [(0, .aload_n 0, 1), (1, .invokevirtual 219, 3), (4, .aload_n 0, 1), (5, .invokevirtual 297, 3), (8, .ireturn, 1)]
theorem dX7_never : dOk cX7_never tX7_never = true := by decide +kernel
abbrev rX7_never : Room := { frames := 8, cells := 0, slots := 0, locals := 183 }
def wX7_never (σ : Mem) (Q : Int32 → Mem → Prop) : Prop := (wX7_find  σ (fun σ1 => (wX7_neverNow  σ1 (fun r5 σ5 => (Q r5 σ5)))))
set_option maxHeartbeats 4000000 in
set_option maxRecDepth 100000 in
theorem kX7_never (l : Launch) (E : wE) (hE : wM E) (σ : Mem) (Q : Int32 → Mem → Prop) (h : wX7_never  σ Q) : Met l yX7_never (Cond.code yX7_never cX7_never 1 (some .int) :: TB) rX7_never (wPc E σ [.ref (gE E 0)]) (wQi E Q) 0 0 (wA E) := by
  refine wMet (by decide) hE.2.2 (Nat.le_of_ble_eq_true rfl) ?_
  intro p e s m args below meth c ls C hr hlk hl hw
  have hx := C.1.1
  have hb := C.1.2.1
  replace C : Cx p s m args c cX7_never 1 RX7 E (wA E) := C
  replace hl : lv_has ls 1 [(0, .ref (gE E 0))] := hl
  unfold wX7_never at h
  refine lv_aload_n hx hb (dAt dX7_never 0 rfl) rfl (lv_at hl 0 rfl) ?_
  refine x_callv C hw (x_runV (As := []) (rest := []) C hw (kX7_find l E hE  σ _ h) mtX7_find lk_X7_219 (hE.1 0) (nM hE (by decide)) rfl ⟨by decide, by decide⟩ ⟨rfl, rfl⟩ rfl hl.1 rfl (Nat.le_of_ble_eq_true rfl) (dAt dX7_never 1 rfl) ⟨Nat.zero_le _, Nat.zero_le _⟩) (fun σ1 H locs h hw => ?_)
  refine lv_aload_n hx hb (dAt dX7_never 2 rfl) rfl (lv_at hl 0 rfl) ?_
  refine x_calli C hw (x_runV (As := []) (rest := []) C hw (kX7_neverNow l E hE  σ1 _ h) mtX7_neverNow lk_X7_297 (hE.1 0) (nM hE (by decide)) rfl ⟨by decide, by decide⟩ ⟨rfl, rfl⟩ rfl hl.1 rfl (Nat.le_of_ble_eq_true rfl) (dAt dX7_never 3 rfl) ⟨Nat.zero_le _, Nat.zero_le _⟩) (fun r5 σ5 H locs h hw => ?_)
  exact x_iret C hw hr hlk h (dAt dX7_never 4 rfl)
def tX7_waysOf : List (Nat × Instr × Nat) := [(0, .aload_n 0, 1), (1, .getfield 28, 3), (4, .iconst 3, 1), (5, .iload_n 1, 1), (6, .imul, 1), (7, .iconst 1, 1), (8, .iadd, 1), (9, .iaload, 1), (10, .istore_n 2, 1), (11, .iconst 0, 1), (12, .istore_n 3, 1), (13, .iconst 0, 1), (14, .istore 4, 2), (16, .iload 4, 2), (18, .iconst 2, 1), (19, .if_icmp .ge 39, 3), (22, .aload_n 0, 1), (23, .getfield 28, 3), (26, .iconst 3, 1), (27, .iload_n 1, 1), (28, .imul, 1), (29, .iconst 1, 1), (30, .iadd, 1), (31, .iload 4, 2), (33, .iastore, 1), (34, .iload_n 3, 1), (35, .aload_n 0, 1), (36, .invokevirtual 293, 3), (39, .ifCond .eq 10, 3), (42, .iconst 1, 1), (43, .iload 4, 2), (45, .ishl, 1), (46, .goto 4, 3), (49, .iconst 0, 1), (50, .ior, 1), (51, .istore_n 3, 1), (52, .iinc 4 1, 3), (55, .goto (-39), 3), (58, .aload_n 0, 1), (59, .getfield 28, 3), (62, .iconst 3, 1), (63, .iload_n 1, 1), (64, .imul, 1), (65, .iconst 1, 1), (66, .iadd, 1), (67, .iload_n 2, 1), (68, .iastore, 1), (69, .iload_n 3, 1), (70, .ireturn, 1)]
theorem dX7_waysOf : dOk cX7_waysOf tX7_waysOf = true := by decide +kernel
abbrev rX7_waysOf : Room := { frames := 7, cells := 0, slots := 0, locals := 161 }
def wX7_waysOf_58 (Q : Int32 → Mem → Prop) (x1 : Int32) (x2 : Int32) (x3 : Int32) (σ : Mem) : Prop := (vp_in (((3 : Int32) * x1) + (1 : Int32)) 24 ∧ (∀ σ68 : Mem, σ68 = um σ 7 ((((3 : Int32) * x1) + (1 : Int32))).toNatClampNeg x2 → (Q x3 σ68)))
def wX7_waysOf_16 (Q : Int32 → Mem → Prop) : Nat → Int32 → Int32 → Int32 → Int32 → Mem → Prop
  | 0, _, _, _, _, _ => False
  | n + 1, x1, x2, x3, x4, σ => ((((2 : Int32) ≤ x4) → (wX7_waysOf_58 Q x1 x2 x3 σ)) ∧ ((¬ (2 : Int32) ≤ x4) → (vp_in (((3 : Int32) * x1) + (1 : Int32)) 24 ∧ (∀ σ33 : Mem, σ33 = um σ 7 ((((3 : Int32) * x1) + (1 : Int32))).toNatClampNeg x4 → (wX7_isSeen  σ33 (fun r36 σ36 => (∀ x3_51 : Int32, x3_51 = (x3 ||| (if r36 = 0 then (0 : Int32) else ((1 : Int32) <<< (x4 &&& 31)))) → (wX7_waysOf_16 Q n x1 x2 x3_51 (x4 + (1 : Int32)) σ36))))))))
def wX7_waysOf (x1 : Int32) (σ : Mem) (Q : Int32 → Mem → Prop) : Prop := (vp_in (((3 : Int32) * x1) + (1 : Int32)) 24 ∧ (∀ x2_10 : Int32, x2_10 = (σ 7 ((((3 : Int32) * x1) + (1 : Int32))).toNatClampNeg) → (∃ N16, wX7_waysOf_16 Q N16 x1 x2_10 (0 : Int32) (0 : Int32) σ)))
set_option maxHeartbeats 4000000 in
set_option maxRecDepth 100000 in
theorem kX7_waysOf_58 {p : Program} {l : Launch} {e : Env} {s : State} {m : MethodId} {args : Array Value} {below : List Frame} {meth : Method} {c : Code} {E : wE} (hE : wM E) (C : Cx p s m args c cX7_waysOf 5 RX7 E (wA E)) (hr : meth.sig.returnType = (some .int)) (hlk : meth.locks = false) {Q : Int32 → Mem → Prop} : ∀ (x1 : Int32) (x2 : Int32) (x3 : Int32) (σ : Mem) (H : Heap) (locs : List Loc) (ls : Array Slot), wd E (wA E) s σ H locs → lv_has ls 5 [(0, .ref (gE E 0)), (1, .int x1), (2, .int x2), (3, .int x3)] → wX7_waysOf_58 Q x1 x2 x3 σ → W p l e rX7_waysOf s m args below meth c H locs 0 0 (MQ below (wQi E Q) args s 0 0 (wA E)) (F0 m 58 ls []) := by
  have hx := C.1.1
  have hb := C.1.2.1
  intro x1 x2 x3 σ  H locs ls hw hl h
  unfold wX7_waysOf_58 at h
  refine lv_aload_n hx hb (dAt dX7_waysOf 38 rfl) rfl (lv_at hl 0 rfl) ?_
  refine x_getr C hw fl_X7_28 (hE.1 0) (nM hE (by decide)) rfl (dAt dX7_waysOf 39 rfl) ?_
  refine lv_iconst (v := 3) hx hb (dAt dX7_waysOf 40 rfl) (by decide) ?_
  refine lv_iload_n hx hb (dAt dX7_waysOf 41 rfl) rfl (lv_at hl 1 rfl) ?_
  refine lv_imul hx hb (dAt dX7_waysOf 42 rfl) ?_
  refine lv_iconst (v := 1) hx hb (dAt dX7_waysOf 43 rfl) (by decide) ?_
  refine lv_iadd hx hb (dAt dX7_waysOf 44 rfl) ?_
  refine lv_iload_n hx hb (dAt dX7_waysOf 45 rfl) rfl (lv_at hl 2 rfl) ?_
  obtain ⟨z68, h⟩ := h
  refine x_ist C hw (hE.1 7) (nM hE (by decide)) z68 rfl (dAt dX7_waysOf 46 rfl) (fun σ68 H locs eσ68 hw => ?_)
  replace h := h σ68 eσ68
  refine lv_iload_n hx hb (dAt dX7_waysOf 47 rfl) rfl (lv_at hl 3 rfl) ?_
  exact x_iret C hw hr hlk h (dAt dX7_waysOf 48 rfl)
set_option maxHeartbeats 4000000 in
set_option maxRecDepth 100000 in
theorem kX7_waysOf_16 {p : Program} {l : Launch} {e : Env} {s : State} {m : MethodId} {args : Array Value} {below : List Frame} {meth : Method} {c : Code} {E : wE} (hE : wM E) (C : Cx p s m args c cX7_waysOf 5 RX7 E (wA E)) (hr : meth.sig.returnType = (some .int)) (hlk : meth.locks = false) {Q : Int32 → Mem → Prop} : ∀ (n : Nat) (x1 : Int32) (x2 : Int32) (x3 : Int32) (x4 : Int32) (σ : Mem) (H : Heap) (locs : List Loc) (ls : Array Slot), wd E (wA E) s σ H locs → lv_has ls 5 [(0, .ref (gE E 0)), (1, .int x1), (2, .int x2), (3, .int x3), (4, .int x4)] → wX7_waysOf_16 Q n x1 x2 x3 x4 σ → W p l e rX7_waysOf s m args below meth c H locs 0 0 (MQ below (wQi E Q) args s 0 0 (wA E)) (F0 m 16 ls []) := by
  have hx := C.1.1
  have hb := C.1.2.1
  intro n
  induction n with
  | zero =>
    intro x1 x2 x3 x4 σ  H locs ls hw hl h
    exact h.elim
  | succ n ih =>
    intro x1 x2 x3 x4 σ  H locs ls hw hl h
    rw [wX7_waysOf_16] at h
    refine lv_iload hx hb (dAt dX7_waysOf 13 rfl) (lv_at hl 4 rfl) ?_
    refine lv_iconst (v := 2) hx hb (dAt dX7_waysOf 14 rfl) (by decide) ?_
    refine lv_icmp_ge (tgt := 58) hx hb (dAt dX7_waysOf 15 rfl) (by decide) (fun c19 => ?_) (fun c19 => ?_)
    · replace h := h.1 c19
      exact kX7_waysOf_58 hE C hr hlk x1 x2 x3 σ  _ _ _ hw (lv_sub hl [0, 1, 2, 3] rfl) h
    · replace h := h.2 c19
      refine lv_aload_n hx hb (dAt dX7_waysOf 16 rfl) rfl (lv_at hl 0 rfl) ?_
      refine x_getr C hw fl_X7_28 (hE.1 0) (nM hE (by decide)) rfl (dAt dX7_waysOf 17 rfl) ?_
      refine lv_iconst (v := 3) hx hb (dAt dX7_waysOf 18 rfl) (by decide) ?_
      refine lv_iload_n hx hb (dAt dX7_waysOf 19 rfl) rfl (lv_at hl 1 rfl) ?_
      refine lv_imul hx hb (dAt dX7_waysOf 20 rfl) ?_
      refine lv_iconst (v := 1) hx hb (dAt dX7_waysOf 21 rfl) (by decide) ?_
      refine lv_iadd hx hb (dAt dX7_waysOf 22 rfl) ?_
      refine lv_iload hx hb (dAt dX7_waysOf 23 rfl) (lv_at hl 4 rfl) ?_
      obtain ⟨z33, h⟩ := h
      refine x_ist C hw (hE.1 7) (nM hE (by decide)) z33 rfl (dAt dX7_waysOf 24 rfl) (fun σ33 H locs eσ33 hw => ?_)
      replace h := h σ33 eσ33
      refine lv_iload_n hx hb (dAt dX7_waysOf 25 rfl) rfl (lv_at hl 3 rfl) ?_
      refine lv_aload_n hx hb (dAt dX7_waysOf 26 rfl) rfl (lv_at hl 0 rfl) ?_
      refine x_calli C hw (x_runV (As := []) (rest := [.int x3]) C hw (kX7_isSeen l E hE  σ33 _ h) mtX7_isSeen lk_X7_293 (hE.1 0) (nM hE (by decide)) rfl ⟨by decide, by decide⟩ ⟨rfl, rfl⟩ rfl hl.1 rfl (Nat.le_of_ble_eq_true rfl) (dAt dX7_waysOf 27 rfl) ⟨Nat.zero_le _, Nat.zero_le _⟩) (fun r36 σ36 H locs h hw => ?_)
      refine x_dia (ls := ls) (pcJ := 50) (cnd := r36 = 0) (a := (0 : Int32)) (b := ((1 : Int32) <<< (x4 &&& 31))) ([.int x3]) ?_ (fun ht39 hf39 => ?_)
      · refine lv_ior hx hb (dAt dX7_waysOf 34 rfl) ?_
        refine lv_topi (fun x3_51 ex3_51 => ?_)
        replace h := h x3_51 ex3_51
        refine lv_istore_n (lv' := [(3, .int x3_51), (0, .ref (gE E 0)), (1, .int x1), (2, .int x2), (4, .int x4)]) hx hb (dAt dX7_waysOf 35 rfl) rfl hl (by decide) rfl (fun ls hl => ?_)
        refine lv_iinc (v := (x4 + (1 : Int32))) (lv' := [(4, .int (x4 + (1 : Int32))), (3, .int x3_51), (0, .ref (gE E 0)), (1, .int x1), (2, .int x2)]) hx hb (dAt dX7_waysOf 36 rfl) hl (k := 4) rfl rfl (by decide) rfl (fun ls hl => ?_)
        refine lv_goto (tgt := 16) hx hb (dAt dX7_waysOf 37 rfl) (by decide) ?_
        exact ih x1 x2 x3_51 (x4 + (1 : Int32)) σ36  _ _ _ hw (lv_sub hl [2, 3, 4, 1, 0] rfl) h
      · refine lv_if_eq (tgt := 49) hx hb (dAt dX7_waysOf 28 rfl) (by decide) (fun c39 => ?_) (fun c39 => ?_)
        · refine lv_iconst (v := 0) hx hb (dAt dX7_waysOf 33 rfl) (by decide) ?_
          exact ht39 c39
        · refine lv_iconst (v := 1) hx hb (dAt dX7_waysOf 29 rfl) (by decide) ?_
          refine lv_iload hx hb (dAt dX7_waysOf 30 rfl) (lv_at hl 4 rfl) ?_
          refine lv_ishl hx hb (dAt dX7_waysOf 31 rfl) ?_
          refine lv_goto (tgt := 50) hx hb (dAt dX7_waysOf 32 rfl) (by decide) ?_
          exact hf39 c39
set_option maxHeartbeats 4000000 in
set_option maxRecDepth 100000 in
theorem kX7_waysOf (l : Launch) (E : wE) (hE : wM E) (x1 : Int32) (σ : Mem) (Q : Int32 → Mem → Prop) (h : wX7_waysOf x1 σ Q) : Met l yX7_waysOf (Cond.code yX7_waysOf cX7_waysOf 5 (some .int) :: TB) rX7_waysOf (wPc E σ [.ref (gE E 0), .int x1]) (wQi E Q) 0 0 (wA E) := by
  refine wMet (by decide) hE.2.2 (Nat.le_of_ble_eq_true rfl) ?_
  intro p e s m args below meth c ls C hr hlk hl hw
  have hx := C.1.1
  have hb := C.1.2.1
  replace C : Cx p s m args c cX7_waysOf 5 RX7 E (wA E) := C
  replace hl : lv_has ls 5 [(0, .ref (gE E 0)), (1, .int x1)] := hl
  unfold wX7_waysOf at h
  refine lv_aload_n hx hb (dAt dX7_waysOf 0 rfl) rfl (lv_at hl 0 rfl) ?_
  refine x_getr C hw fl_X7_28 (hE.1 0) (nM hE (by decide)) rfl (dAt dX7_waysOf 1 rfl) ?_
  refine lv_iconst (v := 3) hx hb (dAt dX7_waysOf 2 rfl) (by decide) ?_
  refine lv_iload_n hx hb (dAt dX7_waysOf 3 rfl) rfl (lv_at hl 1 rfl) ?_
  refine lv_imul hx hb (dAt dX7_waysOf 4 rfl) ?_
  refine lv_iconst (v := 1) hx hb (dAt dX7_waysOf 5 rfl) (by decide) ?_
  refine lv_iadd hx hb (dAt dX7_waysOf 6 rfl) ?_
  obtain ⟨z9, h⟩ := h
  refine x_ild C hw (hE.1 7) (nM hE (by decide)) z9 rfl (dAt dX7_waysOf 7 rfl) ?_
  refine lv_topi (fun x2_10 ex2_10 => ?_)
  replace h := h x2_10 ex2_10
  refine lv_istore_n (lv' := [(2, .int x2_10), (0, .ref (gE E 0)), (1, .int x1)]) hx hb (dAt dX7_waysOf 8 rfl) rfl hl (by decide) rfl (fun ls hl => ?_)
  refine lv_iconst (v := 0) hx hb (dAt dX7_waysOf 9 rfl) (by decide) ?_
  refine lv_istore_n (lv' := [(3, .int (0 : Int32)), (2, .int x2_10), (0, .ref (gE E 0)), (1, .int x1)]) hx hb (dAt dX7_waysOf 10 rfl) rfl hl (by decide) rfl (fun ls hl => ?_)
  refine lv_iconst (v := 0) hx hb (dAt dX7_waysOf 11 rfl) (by decide) ?_
  refine lv_istore (lv' := [(4, .int (0 : Int32)), (3, .int (0 : Int32)), (2, .int x2_10), (0, .ref (gE E 0)), (1, .int x1)]) hx hb (dAt dX7_waysOf 12 rfl) hl (by decide) rfl (fun ls hl => ?_)
  obtain ⟨n16, h⟩ := h
  exact kX7_waysOf_16 hE C hr hlk n16 x1 x2_10 (0 : Int32) (0 : Int32) σ  _ _ _ hw (lv_sub hl [3, 4, 2, 1, 0] rfl) h
def tX7_ways : List (Nat × Instr × Nat) := [(0, .aload_n 0, 1), (1, .invokevirtual 219, 3), (4, .aload_n 0, 1), (5, .iload_n 1, 1), (6, .invokevirtual 157, 3), (9, .ifCond .eq 11, 3), (12, .aload_n 0, 1), (13, .iload_n 1, 1), (14, .invokevirtual 300, 3), (17, .goto 5, 3), (20, .bipush (-2), 2), (22, .ireturn, 1)]
theorem dX7_ways : dOk cX7_ways tX7_ways = true := by decide +kernel
abbrev rX7_ways : Room := { frames := 8, cells := 0, slots := 0, locals := 185 }
def wX7_ways (x1 : Int32) (σ : Mem) (Q : Int32 → Mem → Prop) : Prop := (wX7_find  σ (fun σ1 => (wX7_isDancer x1 σ1 (fun r6 σ6 => (((r6 = 0) → (Q (-2 : Int32) σ6)) ∧ ((¬ r6 = 0) → (wX7_waysOf x1 σ6 (fun r14 σ14 => (Q r14 σ14)))))))))
set_option maxHeartbeats 4000000 in
set_option maxRecDepth 100000 in
theorem kX7_ways (l : Launch) (E : wE) (hE : wM E) (x1 : Int32) (σ : Mem) (Q : Int32 → Mem → Prop) (h : wX7_ways x1 σ Q) : Met l yX7_ways (Cond.code yX7_ways cX7_ways 2 (some .int) :: TB) rX7_ways (wPc E σ [.ref (gE E 0), .int x1]) (wQi E Q) 0 0 (wA E) := by
  refine wMet (by decide) hE.2.2 (Nat.le_of_ble_eq_true rfl) ?_
  intro p e s m args below meth c ls C hr hlk hl hw
  have hx := C.1.1
  have hb := C.1.2.1
  replace C : Cx p s m args c cX7_ways 2 RX7 E (wA E) := C
  replace hl : lv_has ls 2 [(0, .ref (gE E 0)), (1, .int x1)] := hl
  unfold wX7_ways at h
  refine lv_aload_n hx hb (dAt dX7_ways 0 rfl) rfl (lv_at hl 0 rfl) ?_
  refine x_callv C hw (x_runV (As := []) (rest := []) C hw (kX7_find l E hE  σ _ h) mtX7_find lk_X7_219 (hE.1 0) (nM hE (by decide)) rfl ⟨by decide, by decide⟩ ⟨rfl, rfl⟩ rfl hl.1 rfl (Nat.le_of_ble_eq_true rfl) (dAt dX7_ways 1 rfl) ⟨Nat.zero_le _, Nat.zero_le _⟩) (fun σ1 H locs h hw => ?_)
  refine lv_aload_n hx hb (dAt dX7_ways 2 rfl) rfl (lv_at hl 0 rfl) ?_
  refine lv_iload_n hx hb (dAt dX7_ways 3 rfl) rfl (lv_at hl 1 rfl) ?_
  refine x_calli C hw (x_runV (As := [.int x1]) (rest := []) C hw (kX7_isDancer l E hE x1 σ1 _ h) mtX7_isDancer lk_X7_157 (hE.1 0) (nM hE (by decide)) rfl ⟨by decide, by decide⟩ ⟨rfl, rfl⟩ rfl hl.1 rfl (Nat.le_of_ble_eq_true rfl) (dAt dX7_ways 4 rfl) ⟨Nat.zero_le _, Nat.zero_le _⟩) (fun r6 σ6 H locs h hw => ?_)
  refine lv_if_eq (tgt := 20) hx hb (dAt dX7_ways 5 rfl) (by decide) (fun c9 => ?_) (fun c9 => ?_)
  · replace h := h.1 c9
    refine lv_bipush (v := -2) hx hb (dAt dX7_ways 10 rfl) (by decide) ?_
    exact x_iret C hw hr hlk h (dAt dX7_ways 11 rfl)
  · replace h := h.2 c9
    refine lv_aload_n hx hb (dAt dX7_ways 6 rfl) rfl (lv_at hl 0 rfl) ?_
    refine lv_iload_n hx hb (dAt dX7_ways 7 rfl) rfl (lv_at hl 1 rfl) ?_
    refine x_calli C hw (x_runV (As := [.int x1]) (rest := []) C hw (kX7_waysOf l E hE x1 σ6 _ h) mtX7_waysOf lk_X7_300 (hE.1 0) (nM hE (by decide)) rfl ⟨by decide, by decide⟩ ⟨rfl, rfl⟩ rfl hl.1 rfl (Nat.le_of_ble_eq_true rfl) (dAt dX7_ways 8 rfl) ⟨Nat.zero_le _, Nat.zero_le _⟩) (fun r14 σ14 H locs h hw => ?_)
    refine lv_goto (tgt := 22) hx hb (dAt dX7_ways 9 rfl) (by decide) ?_
    exact x_iret C hw hr hlk h (dAt dX7_ways 11 rfl)
def tX7_lengthsNow : List (Nat × Instr × Nat) := [(0, .aload_n 0, 1), (1, .getfield 82, 3), (4, .istore_n 1, 1), (5, .iconst 0, 1), (6, .istore_n 2, 1), (7, .iconst 2, 1), (8, .istore_n 3, 1), (9, .iload_n 3, 1), (10, .bipush 31, 2), (12, .if_icmp .ge 66, 3), (15, .aload_n 0, 1), (16, .iload_n 3, 1), (17, .putfield 82, 3), (20, .iload_n 2, 1), (21, .aload_n 0, 1), (22, .invokevirtual 293, 3), (25, .ifCond .eq 9, 3), (28, .iconst 1, 1), (29, .iload_n 3, 1), (30, .ishl, 1), (31, .goto 4, 3), (34, .iconst 0, 1), (35, .ior, 1), (36, .istore_n 2, 1), (37, .iconst 0, 1), (38, .istore 4, 2), (40, .iload 4, 2), (42, .bipush 24, 2), (44, .if_icmp .ge 28, 3), (47, .aload_n 0, 1), (48, .getfield 79, 3), (51, .bipush 24, 2), (53, .iload_n 3, 1), (54, .imul, 1), (55, .iload 4, 2), (57, .iadd, 1), (58, .aload_n 0, 1), (59, .getfield 70, 3), (62, .iload 4, 2), (64, .iaload, 1), (65, .iastore, 1), (66, .iinc 4 1, 3), (69, .goto (-29), 3), (72, .iinc 3 1, 3), (75, .goto (-66), 3), (78, .aload_n 0, 1), (79, .iload_n 1, 1), (80, .putfield 82, 3), (83, .iload_n 2, 1), (84, .ireturn, 1)]
theorem dX7_lengthsNow : dOk cX7_lengthsNow tX7_lengthsNow = true := by decide +kernel
abbrev rX7_lengthsNow : Room := { frames := 7, cells := 0, slots := 0, locals := 161 }
def wX7_lengthsNow_40 (K9 : Int32 → Int32 → Int32 → Mem → Prop) (Q : Int32 → Mem → Prop) : Nat → Int32 → Int32 → Int32 → Int32 → Mem → Prop
  | 0, _, _, _, _, _ => False
  | n + 1, x1, x2, x3, x4, σ => ((((24 : Int32) ≤ x4) → (K9 x1 x2 (x3 + (1 : Int32)) σ)) ∧ ((¬ (24 : Int32) ≤ x4) → (vp_in x4 24 ∧ (vp_in (((24 : Int32) * x3) + x4) 744 ∧ (∀ σ65 : Mem, σ65 = um σ 24 ((((24 : Int32) * x3) + x4)).toNatClampNeg (σ 21 (x4).toNatClampNeg) → (wX7_lengthsNow_40 K9 Q n x1 x2 x3 (x4 + (1 : Int32)) σ65))))))
def wX7_lengthsNow_9 (Q : Int32 → Mem → Prop) : Nat → Int32 → Int32 → Int32 → Mem → Prop
  | 0, _, _, _, _ => False
  | n + 1, x1, x2, x3, σ => ((((31 : Int32) ≤ x3) → (∀ σ80 : Mem, σ80 = um σ 0 11 x1 → (Q x2 σ80))) ∧ ((¬ (31 : Int32) ≤ x3) → (∀ σ17 : Mem, σ17 = um σ 0 11 x3 → (wX7_isSeen  σ17 (fun r22 σ22 => (∀ x2_36 : Int32, x2_36 = (x2 ||| (if r22 = 0 then (0 : Int32) else ((1 : Int32) <<< (x3 &&& 31)))) → (∃ N40, wX7_lengthsNow_40 (fun x1 x2 x3 ρ => wX7_lengthsNow_9 Q n x1 x2 x3 ρ) Q N40 x1 x2_36 x3 (0 : Int32) σ22)))))))
def wX7_lengthsNow (σ : Mem) (Q : Int32 → Mem → Prop) : Prop := (∀ x1_4 : Int32, x1_4 = (σ 0 11) → (∃ N9, wX7_lengthsNow_9 Q N9 x1_4 (0 : Int32) (2 : Int32) σ))
set_option maxHeartbeats 4000000 in
set_option maxRecDepth 100000 in
theorem kX7_lengthsNow_40 {p : Program} {l : Launch} {e : Env} {s : State} {m : MethodId} {args : Array Value} {below : List Frame} {meth : Method} {c : Code} {E : wE} (hE : wM E) (C : Cx p s m args c cX7_lengthsNow 5 RX7 E (wA E)) (hr : meth.sig.returnType = (some .int)) (hlk : meth.locks = false) {Q : Int32 → Mem → Prop} {K9 : Int32 → Int32 → Int32 → Mem → Prop} (hK9 : ∀ (x1 : Int32) (x2 : Int32) (x3 : Int32) (σ : Mem) (H : Heap) (locs : List Loc) (ls : Array Slot), wd E (wA E) s σ H locs → lv_has ls 5 [(0, .ref (gE E 0)), (1, .int x1), (2, .int x2), (3, .int x3)] → K9 x1 x2 x3 σ → W p l e rX7_lengthsNow s m args below meth c H locs 0 0 (MQ below (wQi E Q) args s 0 0 (wA E)) (F0 m 9 ls [])) : ∀ (n : Nat) (x1 : Int32) (x2 : Int32) (x3 : Int32) (x4 : Int32) (σ : Mem) (H : Heap) (locs : List Loc) (ls : Array Slot), wd E (wA E) s σ H locs → lv_has ls 5 [(0, .ref (gE E 0)), (1, .int x1), (2, .int x2), (3, .int x3), (4, .int x4)] → wX7_lengthsNow_40 K9 Q n x1 x2 x3 x4 σ → W p l e rX7_lengthsNow s m args below meth c H locs 0 0 (MQ below (wQi E Q) args s 0 0 (wA E)) (F0 m 40 ls []) := by
  have hx := C.1.1
  have hb := C.1.2.1
  intro n
  induction n with
  | zero =>
    intro x1 x2 x3 x4 σ  H locs ls hw hl h
    exact h.elim
  | succ n ih =>
    intro x1 x2 x3 x4 σ  H locs ls hw hl h
    rw [wX7_lengthsNow_40] at h
    refine lv_iload hx hb (dAt dX7_lengthsNow 26 rfl) (lv_at hl 4 rfl) ?_
    refine lv_bipush (v := 24) hx hb (dAt dX7_lengthsNow 27 rfl) (by decide) ?_
    refine lv_icmp_ge (tgt := 72) hx hb (dAt dX7_lengthsNow 28 rfl) (by decide) (fun c44 => ?_) (fun c44 => ?_)
    · replace h := h.1 c44
      refine lv_iinc (v := (x3 + (1 : Int32))) (lv' := [(3, .int (x3 + (1 : Int32))), (0, .ref (gE E 0)), (1, .int x1), (2, .int x2), (4, .int x4)]) hx hb (dAt dX7_lengthsNow 43 rfl) hl (k := 3) rfl rfl (by decide) rfl (fun ls hl => ?_)
      refine lv_goto (tgt := 9) hx hb (dAt dX7_lengthsNow 44 rfl) (by decide) ?_
      exact hK9 x1 x2 (x3 + (1 : Int32)) σ  _ _ _ hw (lv_sub hl [1, 2, 3, 0] rfl) h
    · replace h := h.2 c44
      refine lv_aload_n hx hb (dAt dX7_lengthsNow 29 rfl) rfl (lv_at hl 0 rfl) ?_
      refine x_getr C hw fl_X7_79 (hE.1 0) (nM hE (by decide)) rfl (dAt dX7_lengthsNow 30 rfl) ?_
      refine lv_bipush (v := 24) hx hb (dAt dX7_lengthsNow 31 rfl) (by decide) ?_
      refine lv_iload_n hx hb (dAt dX7_lengthsNow 32 rfl) rfl (lv_at hl 3 rfl) ?_
      refine lv_imul hx hb (dAt dX7_lengthsNow 33 rfl) ?_
      refine lv_iload hx hb (dAt dX7_lengthsNow 34 rfl) (lv_at hl 4 rfl) ?_
      refine lv_iadd hx hb (dAt dX7_lengthsNow 35 rfl) ?_
      refine lv_aload_n hx hb (dAt dX7_lengthsNow 36 rfl) rfl (lv_at hl 0 rfl) ?_
      refine x_getr C hw fl_X7_70 (hE.1 0) (nM hE (by decide)) rfl (dAt dX7_lengthsNow 37 rfl) ?_
      refine lv_iload hx hb (dAt dX7_lengthsNow 38 rfl) (lv_at hl 4 rfl) ?_
      obtain ⟨z64, h⟩ := h
      refine x_ild C hw (hE.1 21) (nM hE (by decide)) z64 rfl (dAt dX7_lengthsNow 39 rfl) ?_
      obtain ⟨z65, h⟩ := h
      refine x_ist C hw (hE.1 24) (nM hE (by decide)) z65 rfl (dAt dX7_lengthsNow 40 rfl) (fun σ65 H locs eσ65 hw => ?_)
      replace h := h σ65 eσ65
      refine lv_iinc (v := (x4 + (1 : Int32))) (lv' := [(4, .int (x4 + (1 : Int32))), (0, .ref (gE E 0)), (1, .int x1), (2, .int x2), (3, .int x3)]) hx hb (dAt dX7_lengthsNow 41 rfl) hl (k := 4) rfl rfl (by decide) rfl (fun ls hl => ?_)
      refine lv_goto (tgt := 40) hx hb (dAt dX7_lengthsNow 42 rfl) (by decide) ?_
      exact ih x1 x2 x3 (x4 + (1 : Int32)) σ65  _ _ _ hw (lv_sub hl [1, 2, 3, 4, 0] rfl) h
set_option maxHeartbeats 4000000 in
set_option maxRecDepth 100000 in
theorem kX7_lengthsNow_9 {p : Program} {l : Launch} {e : Env} {s : State} {m : MethodId} {args : Array Value} {below : List Frame} {meth : Method} {c : Code} {E : wE} (hE : wM E) (C : Cx p s m args c cX7_lengthsNow 5 RX7 E (wA E)) (hr : meth.sig.returnType = (some .int)) (hlk : meth.locks = false) {Q : Int32 → Mem → Prop} : ∀ (n : Nat) (x1 : Int32) (x2 : Int32) (x3 : Int32) (σ : Mem) (H : Heap) (locs : List Loc) (ls : Array Slot), wd E (wA E) s σ H locs → lv_has ls 5 [(0, .ref (gE E 0)), (1, .int x1), (2, .int x2), (3, .int x3)] → wX7_lengthsNow_9 Q n x1 x2 x3 σ → W p l e rX7_lengthsNow s m args below meth c H locs 0 0 (MQ below (wQi E Q) args s 0 0 (wA E)) (F0 m 9 ls []) := by
  have hx := C.1.1
  have hb := C.1.2.1
  intro n
  induction n with
  | zero =>
    intro x1 x2 x3 σ  H locs ls hw hl h
    exact h.elim
  | succ n ih =>
    intro x1 x2 x3 σ  H locs ls hw hl h
    rw [wX7_lengthsNow_9] at h
    refine lv_iload_n hx hb (dAt dX7_lengthsNow 7 rfl) rfl (lv_at hl 3 rfl) ?_
    refine lv_bipush (v := 31) hx hb (dAt dX7_lengthsNow 8 rfl) (by decide) ?_
    refine lv_icmp_ge (tgt := 78) hx hb (dAt dX7_lengthsNow 9 rfl) (by decide) (fun c12 => ?_) (fun c12 => ?_)
    · replace h := h.1 c12
      refine lv_aload_n hx hb (dAt dX7_lengthsNow 45 rfl) rfl (lv_at hl 0 rfl) ?_
      refine lv_iload_n hx hb (dAt dX7_lengthsNow 46 rfl) rfl (lv_at hl 1 rfl) ?_
      refine x_pf C hw fl_X7_82 (hE.1 0) (nM hE (by decide)) rfl rfl rfl (dAt dX7_lengthsNow 47 rfl) (fun σ80 H locs eσ80 hw => ?_)
      replace h := h σ80 eσ80
      refine lv_iload_n hx hb (dAt dX7_lengthsNow 48 rfl) rfl (lv_at hl 2 rfl) ?_
      exact x_iret C hw hr hlk h (dAt dX7_lengthsNow 49 rfl)
    · replace h := h.2 c12
      refine lv_aload_n hx hb (dAt dX7_lengthsNow 10 rfl) rfl (lv_at hl 0 rfl) ?_
      refine lv_iload_n hx hb (dAt dX7_lengthsNow 11 rfl) rfl (lv_at hl 3 rfl) ?_
      refine x_pf C hw fl_X7_82 (hE.1 0) (nM hE (by decide)) rfl rfl rfl (dAt dX7_lengthsNow 12 rfl) (fun σ17 H locs eσ17 hw => ?_)
      replace h := h σ17 eσ17
      refine lv_iload_n hx hb (dAt dX7_lengthsNow 13 rfl) rfl (lv_at hl 2 rfl) ?_
      refine lv_aload_n hx hb (dAt dX7_lengthsNow 14 rfl) rfl (lv_at hl 0 rfl) ?_
      refine x_calli C hw (x_runV (As := []) (rest := [.int x2]) C hw (kX7_isSeen l E hE  σ17 _ h) mtX7_isSeen lk_X7_293 (hE.1 0) (nM hE (by decide)) rfl ⟨by decide, by decide⟩ ⟨rfl, rfl⟩ rfl hl.1 rfl (Nat.le_of_ble_eq_true rfl) (dAt dX7_lengthsNow 15 rfl) ⟨Nat.zero_le _, Nat.zero_le _⟩) (fun r22 σ22 H locs h hw => ?_)
      refine x_dia (ls := ls) (pcJ := 35) (cnd := r22 = 0) (a := (0 : Int32)) (b := ((1 : Int32) <<< (x3 &&& 31))) ([.int x2]) ?_ (fun ht25 hf25 => ?_)
      · refine lv_ior hx hb (dAt dX7_lengthsNow 22 rfl) ?_
        refine lv_topi (fun x2_36 ex2_36 => ?_)
        replace h := h x2_36 ex2_36
        refine lv_istore_n (lv' := [(2, .int x2_36), (0, .ref (gE E 0)), (1, .int x1), (3, .int x3)]) hx hb (dAt dX7_lengthsNow 23 rfl) rfl hl (by decide) rfl (fun ls hl => ?_)
        refine lv_iconst (v := 0) hx hb (dAt dX7_lengthsNow 24 rfl) (by decide) ?_
        refine lv_istore (lv' := [(4, .int (0 : Int32)), (2, .int x2_36), (0, .ref (gE E 0)), (1, .int x1), (3, .int x3)]) hx hb (dAt dX7_lengthsNow 25 rfl) hl (by decide) rfl (fun ls hl => ?_)
        obtain ⟨n40, h⟩ := h
        exact kX7_lengthsNow_40 hE C hr hlk ih n40 x1 x2_36 x3 (0 : Int32) σ22  _ _ _ hw (lv_sub hl [2, 3, 1, 4, 0] rfl) h
      · refine lv_if_eq (tgt := 34) hx hb (dAt dX7_lengthsNow 16 rfl) (by decide) (fun c25 => ?_) (fun c25 => ?_)
        · refine lv_iconst (v := 0) hx hb (dAt dX7_lengthsNow 21 rfl) (by decide) ?_
          exact ht25 c25
        · refine lv_iconst (v := 1) hx hb (dAt dX7_lengthsNow 17 rfl) (by decide) ?_
          refine lv_iload_n hx hb (dAt dX7_lengthsNow 18 rfl) rfl (lv_at hl 3 rfl) ?_
          refine lv_ishl hx hb (dAt dX7_lengthsNow 19 rfl) ?_
          refine lv_goto (tgt := 35) hx hb (dAt dX7_lengthsNow 20 rfl) (by decide) ?_
          exact hf25 c25
set_option maxHeartbeats 4000000 in
set_option maxRecDepth 100000 in
theorem kX7_lengthsNow (l : Launch) (E : wE) (hE : wM E) (σ : Mem) (Q : Int32 → Mem → Prop) (h : wX7_lengthsNow  σ Q) : Met l yX7_lengthsNow (Cond.code yX7_lengthsNow cX7_lengthsNow 5 (some .int) :: TB) rX7_lengthsNow (wPc E σ [.ref (gE E 0)]) (wQi E Q) 0 0 (wA E) := by
  refine wMet (by decide) hE.2.2 (Nat.le_of_ble_eq_true rfl) ?_
  intro p e s m args below meth c ls C hr hlk hl hw
  have hx := C.1.1
  have hb := C.1.2.1
  replace C : Cx p s m args c cX7_lengthsNow 5 RX7 E (wA E) := C
  replace hl : lv_has ls 5 [(0, .ref (gE E 0))] := hl
  unfold wX7_lengthsNow at h
  refine lv_aload_n hx hb (dAt dX7_lengthsNow 0 rfl) rfl (lv_at hl 0 rfl) ?_
  refine x_geti C hw fl_X7_82 (hE.1 0) (nM hE (by decide)) rfl (dAt dX7_lengthsNow 1 rfl) ?_
  refine lv_topi (fun x1_4 ex1_4 => ?_)
  replace h := h x1_4 ex1_4
  refine lv_istore_n (lv' := [(1, .int x1_4), (0, .ref (gE E 0))]) hx hb (dAt dX7_lengthsNow 2 rfl) rfl hl (by decide) rfl (fun ls hl => ?_)
  refine lv_iconst (v := 0) hx hb (dAt dX7_lengthsNow 3 rfl) (by decide) ?_
  refine lv_istore_n (lv' := [(2, .int (0 : Int32)), (1, .int x1_4), (0, .ref (gE E 0))]) hx hb (dAt dX7_lengthsNow 4 rfl) rfl hl (by decide) rfl (fun ls hl => ?_)
  refine lv_iconst (v := 2) hx hb (dAt dX7_lengthsNow 5 rfl) (by decide) ?_
  refine lv_istore_n (lv' := [(3, .int (2 : Int32)), (2, .int (0 : Int32)), (1, .int x1_4), (0, .ref (gE E 0))]) hx hb (dAt dX7_lengthsNow 6 rfl) rfl hl (by decide) rfl (fun ls hl => ?_)
  obtain ⟨n9, h⟩ := h
  exact kX7_lengthsNow_9 hE C hr hlk n9 x1_4 (0 : Int32) (2 : Int32) σ  _ _ _ hw (lv_sub hl [3, 2, 1, 0] rfl) h
def tX7_lengths : List (Nat × Instr × Nat) := [(0, .aload_n 0, 1), (1, .invokevirtual 219, 3), (4, .aload_n 0, 1), (5, .invokevirtual 303, 3), (8, .ireturn, 1)]
theorem dX7_lengths : dOk cX7_lengths tX7_lengths = true := by decide +kernel
abbrev rX7_lengths : Room := { frames := 8, cells := 0, slots := 0, locals := 185 }
def wX7_lengths (σ : Mem) (Q : Int32 → Mem → Prop) : Prop := (wX7_find  σ (fun σ1 => (wX7_lengthsNow  σ1 (fun r5 σ5 => (Q r5 σ5)))))
set_option maxHeartbeats 4000000 in
set_option maxRecDepth 100000 in
theorem kX7_lengths (l : Launch) (E : wE) (hE : wM E) (σ : Mem) (Q : Int32 → Mem → Prop) (h : wX7_lengths  σ Q) : Met l yX7_lengths (Cond.code yX7_lengths cX7_lengths 1 (some .int) :: TB) rX7_lengths (wPc E σ [.ref (gE E 0)]) (wQi E Q) 0 0 (wA E) := by
  refine wMet (by decide) hE.2.2 (Nat.le_of_ble_eq_true rfl) ?_
  intro p e s m args below meth c ls C hr hlk hl hw
  have hx := C.1.1
  have hb := C.1.2.1
  replace C : Cx p s m args c cX7_lengths 1 RX7 E (wA E) := C
  replace hl : lv_has ls 1 [(0, .ref (gE E 0))] := hl
  unfold wX7_lengths at h
  refine lv_aload_n hx hb (dAt dX7_lengths 0 rfl) rfl (lv_at hl 0 rfl) ?_
  refine x_callv C hw (x_runV (As := []) (rest := []) C hw (kX7_find l E hE  σ _ h) mtX7_find lk_X7_219 (hE.1 0) (nM hE (by decide)) rfl ⟨by decide, by decide⟩ ⟨rfl, rfl⟩ rfl hl.1 rfl (Nat.le_of_ble_eq_true rfl) (dAt dX7_lengths 1 rfl) ⟨Nat.zero_le _, Nat.zero_le _⟩) (fun σ1 H locs h hw => ?_)
  refine lv_aload_n hx hb (dAt dX7_lengths 2 rfl) rfl (lv_at hl 0 rfl) ?_
  refine x_calli C hw (x_runV (As := []) (rest := []) C hw (kX7_lengthsNow l E hE  σ1 _ h) mtX7_lengthsNow lk_X7_303 (hE.1 0) (nM hE (by decide)) rfl ⟨by decide, by decide⟩ ⟨rfl, rfl⟩ rfl hl.1 rfl (Nat.le_of_ble_eq_true rfl) (dAt dX7_lengths 3 rfl) ⟨Nat.zero_le _, Nat.zero_le _⟩) (fun r5 σ5 H locs h hw => ?_)
  exact x_iret C hw hr hlk h (dAt dX7_lengths 4 rfl)
def tX7_alike : List (Nat × Instr × Nat) := [(0, .iconst 0, 1), (1, .istore_n 3, 1), (2, .iconst 2, 1), (3, .istore 4, 2), (5, .iload 4, 2), (7, .bipush 31, 2), (9, .if_icmp .ge 90, 3), (12, .iconst 0, 1), (13, .istore 5, 2), (15, .iconst 2, 1), (16, .istore 6, 2), (18, .iload 6, 2), (20, .bipush 31, 2), (22, .if_icmp .ge 64, 3), (25, .iload 5, 2), (27, .iload_n 1, 1), (28, .iload 4, 2), (30, .invokestatic 175, 3), (33, .ifCond .eq 43, 3), (36, .iload_n 1, 1), (37, .iload 6, 2), (39, .invokestatic 175, 3), (42, .ifCond .eq 34, 3), (45, .aload_n 0, 1), (46, .getfield 79, 3), (49, .bipush 24, 2), (51, .iload 4, 2), (53, .imul, 1), (54, .iload_n 2, 1), (55, .iadd, 1), (56, .iaload, 1), (57, .aload_n 0, 1), (58, .getfield 79, 3), (61, .bipush 24, 2), (63, .iload 6, 2), (65, .imul, 1), (66, .iload_n 2, 1), (67, .iadd, 1), (68, .iaload, 1), (69, .if_icmp .ne 7, 3), (72, .iconst 1, 1), (73, .goto 4, 3), (76, .iconst 0, 1), (77, .iadd, 1), (78, .istore 5, 2), (80, .iinc 6 1, 3), (83, .goto (-65), 3), (86, .iload 5, 2), (88, .iload_n 3, 1), (89, .invokestatic 247, 3), (92, .istore_n 3, 1), (93, .iinc 4 1, 3), (96, .goto (-91), 3), (99, .iload_n 3, 1), (100, .ireturn, 1)]
theorem dX7_alike : dOk cX7_alike tX7_alike = true := by decide +kernel
abbrev rX7_alike : Room := { frames := 1, cells := 0, slots := 0, locals := 21 }
def wX7_alike_18 (K5 : Int32 → Int32 → Int32 → Int32 → Mem → Prop) (Q : Int32 → Mem → Prop) : Nat → Int32 → Int32 → Int32 → Int32 → Int32 → Int32 → Mem → Prop
  | 0, _, _, _, _, _, _, _ => False
  | n + 1, x1, x2, x3, x4, x5, x6, σ => ((((31 : Int32) ≤ x6) → (wX7_greater x5 x3 σ (fun r89 σ89 => (K5 x1 x2 r89 (x4 + (1 : Int32)) σ89)))) ∧ ((¬ (31 : Int32) ≤ x6) → (wX7_isIn x1 x4 σ (fun r30 σ30 => (((r30 = 0) → (∀ x5_78 : Int32, x5_78 = (x5 + (0 : Int32)) → (wX7_alike_18 K5 Q n x1 x2 x3 x4 x5_78 (x6 + (1 : Int32)) σ30))) ∧ ((¬ r30 = 0) → (wX7_isIn x1 x6 σ30 (fun r39 σ39 => (((r39 = 0) → (∀ x5_78 : Int32, x5_78 = (x5 + (0 : Int32)) → (wX7_alike_18 K5 Q n x1 x2 x3 x4 x5_78 (x6 + (1 : Int32)) σ39))) ∧ ((¬ r39 = 0) → (vp_in (((24 : Int32) * x4) + x2) 744 ∧ (vp_in (((24 : Int32) * x6) + x2) 744 ∧ (((¬ (σ39 24 ((((24 : Int32) * x4) + x2)).toNatClampNeg) = (σ39 24 ((((24 : Int32) * x6) + x2)).toNatClampNeg)) → (∀ x5_78 : Int32, x5_78 = (x5 + (0 : Int32)) → (wX7_alike_18 K5 Q n x1 x2 x3 x4 x5_78 (x6 + (1 : Int32)) σ39))) ∧ (((σ39 24 ((((24 : Int32) * x4) + x2)).toNatClampNeg) = (σ39 24 ((((24 : Int32) * x6) + x2)).toNatClampNeg)) → (∀ x5_78 : Int32, x5_78 = (x5 + (1 : Int32)) → (wX7_alike_18 K5 Q n x1 x2 x3 x4 x5_78 (x6 + (1 : Int32)) σ39))))))))))))))))
def wX7_alike_5 (Q : Int32 → Mem → Prop) : Nat → Int32 → Int32 → Int32 → Int32 → Mem → Prop
  | 0, _, _, _, _, _ => False
  | n + 1, x1, x2, x3, x4, σ => ((((31 : Int32) ≤ x4) → (Q x3 σ)) ∧ ((¬ (31 : Int32) ≤ x4) → (∃ N18, wX7_alike_18 (fun x1 x2 x3 x4 ρ => wX7_alike_5 Q n x1 x2 x3 x4 ρ) Q N18 x1 x2 x3 x4 (0 : Int32) (2 : Int32) σ)))
def wX7_alike (x1 : Int32) (x2 : Int32) (σ : Mem) (Q : Int32 → Mem → Prop) : Prop := (∃ N5, wX7_alike_5 Q N5 x1 x2 (0 : Int32) (2 : Int32) σ)
set_option maxHeartbeats 4000000 in
set_option maxRecDepth 100000 in
theorem kX7_alike_18 {p : Program} {l : Launch} {e : Env} {s : State} {m : MethodId} {args : Array Value} {below : List Frame} {meth : Method} {c : Code} {E : wE} (hE : wM E) (C : Cx p s m args c cX7_alike 7 RX7 E (wA E)) (hr : meth.sig.returnType = (some .int)) (hlk : meth.locks = false) {Q : Int32 → Mem → Prop} {K5 : Int32 → Int32 → Int32 → Int32 → Mem → Prop} (hK5 : ∀ (x1 : Int32) (x2 : Int32) (x3 : Int32) (x4 : Int32) (σ : Mem) (H : Heap) (locs : List Loc) (ls : Array Slot), wd E (wA E) s σ H locs → lv_has ls 7 [(0, .ref (gE E 0)), (1, .int x1), (2, .int x2), (3, .int x3), (4, .int x4)] → K5 x1 x2 x3 x4 σ → W p l e rX7_alike s m args below meth c H locs 0 0 (MQ below (wQi E Q) args s 0 0 (wA E)) (F0 m 5 ls [])) : ∀ (n : Nat) (x1 : Int32) (x2 : Int32) (x3 : Int32) (x4 : Int32) (x5 : Int32) (x6 : Int32) (σ : Mem) (H : Heap) (locs : List Loc) (ls : Array Slot), wd E (wA E) s σ H locs → lv_has ls 7 [(0, .ref (gE E 0)), (1, .int x1), (2, .int x2), (3, .int x3), (4, .int x4), (5, .int x5), (6, .int x6)] → wX7_alike_18 K5 Q n x1 x2 x3 x4 x5 x6 σ → W p l e rX7_alike s m args below meth c H locs 0 0 (MQ below (wQi E Q) args s 0 0 (wA E)) (F0 m 18 ls []) := by
  have hx := C.1.1
  have hb := C.1.2.1
  intro n
  induction n with
  | zero =>
    intro x1 x2 x3 x4 x5 x6 σ  H locs ls hw hl h
    exact h.elim
  | succ n ih =>
    intro x1 x2 x3 x4 x5 x6 σ  H locs ls hw hl h
    rw [wX7_alike_18] at h
    refine lv_iload hx hb (dAt dX7_alike 11 rfl) (lv_at hl 6 rfl) ?_
    refine lv_bipush (v := 31) hx hb (dAt dX7_alike 12 rfl) (by decide) ?_
    refine lv_icmp_ge (tgt := 86) hx hb (dAt dX7_alike 13 rfl) (by decide) (fun c22 => ?_) (fun c22 => ?_)
    · replace h := h.1 c22
      refine lv_iload hx hb (dAt dX7_alike 47 rfl) (lv_at hl 5 rfl) ?_
      refine lv_iload_n hx hb (dAt dX7_alike 48 rfl) rfl (lv_at hl 3 rfl) ?_
      refine x_calli C hw (x_runS (As := [.int x5, .int x3]) (rest := []) C hw (kX7_greater l E hE x5 x3 σ _ h) mtX7_greater lk_X7_247 ⟨by decide, by decide⟩ ⟨rfl, rfl⟩ rfl hl.1 rfl (Nat.le_of_ble_eq_true rfl) (dAt dX7_alike 49 rfl) ⟨Nat.zero_le _, Nat.zero_le _⟩) (fun r89 σ89 H locs h hw => ?_)
      refine lv_istore_n (lv' := [(3, .int r89), (0, .ref (gE E 0)), (1, .int x1), (2, .int x2), (4, .int x4), (5, .int x5), (6, .int x6)]) hx hb (dAt dX7_alike 50 rfl) rfl hl (by decide) rfl (fun ls hl => ?_)
      refine lv_iinc (v := (x4 + (1 : Int32))) (lv' := [(4, .int (x4 + (1 : Int32))), (3, .int r89), (0, .ref (gE E 0)), (1, .int x1), (2, .int x2), (5, .int x5), (6, .int x6)]) hx hb (dAt dX7_alike 51 rfl) hl (k := 4) rfl rfl (by decide) rfl (fun ls hl => ?_)
      refine lv_goto (tgt := 5) hx hb (dAt dX7_alike 52 rfl) (by decide) ?_
      exact hK5 x1 x2 r89 (x4 + (1 : Int32)) σ89  _ _ _ hw (lv_sub hl [2, 3, 4, 1, 0] rfl) h
    · replace h := h.2 c22
      refine lv_iload hx hb (dAt dX7_alike 14 rfl) (lv_at hl 5 rfl) ?_
      refine lv_iload_n hx hb (dAt dX7_alike 15 rfl) rfl (lv_at hl 1 rfl) ?_
      refine lv_iload hx hb (dAt dX7_alike 16 rfl) (lv_at hl 4 rfl) ?_
      refine x_calli C hw (x_runS (As := [.int x1, .int x4]) (rest := [.int x5]) C hw (kX7_isIn l E hE x1 x4 σ _ h) mtX7_isIn lk_X7_175 ⟨by decide, by decide⟩ ⟨rfl, rfl⟩ rfl hl.1 rfl (Nat.le_of_ble_eq_true rfl) (dAt dX7_alike 17 rfl) ⟨Nat.zero_le _, Nat.zero_le _⟩) (fun r30 σ30 H locs h hw => ?_)
      refine lv_if_eq (tgt := 76) hx hb (dAt dX7_alike 18 rfl) (by decide) (fun c33 => ?_) (fun c33 => ?_)
      · replace h := h.1 c33
        refine lv_iconst (v := 0) hx hb (dAt dX7_alike 42 rfl) (by decide) ?_
        refine lv_iadd hx hb (dAt dX7_alike 43 rfl) ?_
        refine lv_topi (fun x5_78 ex5_78 => ?_)
        replace h := h x5_78 ex5_78
        refine lv_istore (lv' := [(5, .int x5_78), (0, .ref (gE E 0)), (1, .int x1), (2, .int x2), (3, .int x3), (4, .int x4), (6, .int x6)]) hx hb (dAt dX7_alike 44 rfl) hl (by decide) rfl (fun ls hl => ?_)
        refine lv_iinc (v := (x6 + (1 : Int32))) (lv' := [(6, .int (x6 + (1 : Int32))), (5, .int x5_78), (0, .ref (gE E 0)), (1, .int x1), (2, .int x2), (3, .int x3), (4, .int x4)]) hx hb (dAt dX7_alike 45 rfl) hl (k := 6) rfl rfl (by decide) rfl (fun ls hl => ?_)
        refine lv_goto (tgt := 18) hx hb (dAt dX7_alike 46 rfl) (by decide) ?_
        exact ih x1 x2 x3 x4 x5_78 (x6 + (1 : Int32)) σ30  _ _ _ hw (lv_sub hl [2, 3, 4, 5, 6, 1, 0] rfl) h
      · replace h := h.2 c33
        refine lv_iload_n hx hb (dAt dX7_alike 19 rfl) rfl (lv_at hl 1 rfl) ?_
        refine lv_iload hx hb (dAt dX7_alike 20 rfl) (lv_at hl 6 rfl) ?_
        refine x_calli C hw (x_runS (As := [.int x1, .int x6]) (rest := [.int x5]) C hw (kX7_isIn l E hE x1 x6 σ30 _ h) mtX7_isIn lk_X7_175 ⟨by decide, by decide⟩ ⟨rfl, rfl⟩ rfl hl.1 rfl (Nat.le_of_ble_eq_true rfl) (dAt dX7_alike 21 rfl) ⟨Nat.zero_le _, Nat.zero_le _⟩) (fun r39 σ39 H locs h hw => ?_)
        refine lv_if_eq (tgt := 76) hx hb (dAt dX7_alike 22 rfl) (by decide) (fun c42 => ?_) (fun c42 => ?_)
        · replace h := h.1 c42
          refine lv_iconst (v := 0) hx hb (dAt dX7_alike 42 rfl) (by decide) ?_
          refine lv_iadd hx hb (dAt dX7_alike 43 rfl) ?_
          refine lv_topi (fun x5_78 ex5_78 => ?_)
          replace h := h x5_78 ex5_78
          refine lv_istore (lv' := [(5, .int x5_78), (0, .ref (gE E 0)), (1, .int x1), (2, .int x2), (3, .int x3), (4, .int x4), (6, .int x6)]) hx hb (dAt dX7_alike 44 rfl) hl (by decide) rfl (fun ls hl => ?_)
          refine lv_iinc (v := (x6 + (1 : Int32))) (lv' := [(6, .int (x6 + (1 : Int32))), (5, .int x5_78), (0, .ref (gE E 0)), (1, .int x1), (2, .int x2), (3, .int x3), (4, .int x4)]) hx hb (dAt dX7_alike 45 rfl) hl (k := 6) rfl rfl (by decide) rfl (fun ls hl => ?_)
          refine lv_goto (tgt := 18) hx hb (dAt dX7_alike 46 rfl) (by decide) ?_
          exact ih x1 x2 x3 x4 x5_78 (x6 + (1 : Int32)) σ39  _ _ _ hw (lv_sub hl [2, 3, 4, 5, 6, 1, 0] rfl) h
        · replace h := h.2 c42
          refine lv_aload_n hx hb (dAt dX7_alike 23 rfl) rfl (lv_at hl 0 rfl) ?_
          refine x_getr C hw fl_X7_79 (hE.1 0) (nM hE (by decide)) rfl (dAt dX7_alike 24 rfl) ?_
          refine lv_bipush (v := 24) hx hb (dAt dX7_alike 25 rfl) (by decide) ?_
          refine lv_iload hx hb (dAt dX7_alike 26 rfl) (lv_at hl 4 rfl) ?_
          refine lv_imul hx hb (dAt dX7_alike 27 rfl) ?_
          refine lv_iload_n hx hb (dAt dX7_alike 28 rfl) rfl (lv_at hl 2 rfl) ?_
          refine lv_iadd hx hb (dAt dX7_alike 29 rfl) ?_
          obtain ⟨z56, h⟩ := h
          refine x_ild C hw (hE.1 24) (nM hE (by decide)) z56 rfl (dAt dX7_alike 30 rfl) ?_
          refine lv_aload_n hx hb (dAt dX7_alike 31 rfl) rfl (lv_at hl 0 rfl) ?_
          refine x_getr C hw fl_X7_79 (hE.1 0) (nM hE (by decide)) rfl (dAt dX7_alike 32 rfl) ?_
          refine lv_bipush (v := 24) hx hb (dAt dX7_alike 33 rfl) (by decide) ?_
          refine lv_iload hx hb (dAt dX7_alike 34 rfl) (lv_at hl 6 rfl) ?_
          refine lv_imul hx hb (dAt dX7_alike 35 rfl) ?_
          refine lv_iload_n hx hb (dAt dX7_alike 36 rfl) rfl (lv_at hl 2 rfl) ?_
          refine lv_iadd hx hb (dAt dX7_alike 37 rfl) ?_
          obtain ⟨z68, h⟩ := h
          refine x_ild C hw (hE.1 24) (nM hE (by decide)) z68 rfl (dAt dX7_alike 38 rfl) ?_
          refine lv_icmp_ne (tgt := 76) hx hb (dAt dX7_alike 39 rfl) (by decide) (fun c69 => ?_) (fun c69 => ?_)
          · replace h := h.1 c69
            refine lv_iconst (v := 0) hx hb (dAt dX7_alike 42 rfl) (by decide) ?_
            refine lv_iadd hx hb (dAt dX7_alike 43 rfl) ?_
            refine lv_topi (fun x5_78 ex5_78 => ?_)
            replace h := h x5_78 ex5_78
            refine lv_istore (lv' := [(5, .int x5_78), (0, .ref (gE E 0)), (1, .int x1), (2, .int x2), (3, .int x3), (4, .int x4), (6, .int x6)]) hx hb (dAt dX7_alike 44 rfl) hl (by decide) rfl (fun ls hl => ?_)
            refine lv_iinc (v := (x6 + (1 : Int32))) (lv' := [(6, .int (x6 + (1 : Int32))), (5, .int x5_78), (0, .ref (gE E 0)), (1, .int x1), (2, .int x2), (3, .int x3), (4, .int x4)]) hx hb (dAt dX7_alike 45 rfl) hl (k := 6) rfl rfl (by decide) rfl (fun ls hl => ?_)
            refine lv_goto (tgt := 18) hx hb (dAt dX7_alike 46 rfl) (by decide) ?_
            exact ih x1 x2 x3 x4 x5_78 (x6 + (1 : Int32)) σ39  _ _ _ hw (lv_sub hl [2, 3, 4, 5, 6, 1, 0] rfl) h
          · replace h := h.2 c69
            refine lv_iconst (v := 1) hx hb (dAt dX7_alike 40 rfl) (by decide) ?_
            refine lv_goto (tgt := 77) hx hb (dAt dX7_alike 41 rfl) (by decide) ?_
            refine lv_iadd hx hb (dAt dX7_alike 43 rfl) ?_
            refine lv_topi (fun x5_78 ex5_78 => ?_)
            replace h := h x5_78 ex5_78
            refine lv_istore (lv' := [(5, .int x5_78), (0, .ref (gE E 0)), (1, .int x1), (2, .int x2), (3, .int x3), (4, .int x4), (6, .int x6)]) hx hb (dAt dX7_alike 44 rfl) hl (by decide) rfl (fun ls hl => ?_)
            refine lv_iinc (v := (x6 + (1 : Int32))) (lv' := [(6, .int (x6 + (1 : Int32))), (5, .int x5_78), (0, .ref (gE E 0)), (1, .int x1), (2, .int x2), (3, .int x3), (4, .int x4)]) hx hb (dAt dX7_alike 45 rfl) hl (k := 6) rfl rfl (by decide) rfl (fun ls hl => ?_)
            refine lv_goto (tgt := 18) hx hb (dAt dX7_alike 46 rfl) (by decide) ?_
            exact ih x1 x2 x3 x4 x5_78 (x6 + (1 : Int32)) σ39  _ _ _ hw (lv_sub hl [2, 3, 4, 5, 6, 1, 0] rfl) h
set_option maxHeartbeats 4000000 in
set_option maxRecDepth 100000 in
theorem kX7_alike_5 {p : Program} {l : Launch} {e : Env} {s : State} {m : MethodId} {args : Array Value} {below : List Frame} {meth : Method} {c : Code} {E : wE} (hE : wM E) (C : Cx p s m args c cX7_alike 7 RX7 E (wA E)) (hr : meth.sig.returnType = (some .int)) (hlk : meth.locks = false) {Q : Int32 → Mem → Prop} : ∀ (n : Nat) (x1 : Int32) (x2 : Int32) (x3 : Int32) (x4 : Int32) (σ : Mem) (H : Heap) (locs : List Loc) (ls : Array Slot), wd E (wA E) s σ H locs → lv_has ls 7 [(0, .ref (gE E 0)), (1, .int x1), (2, .int x2), (3, .int x3), (4, .int x4)] → wX7_alike_5 Q n x1 x2 x3 x4 σ → W p l e rX7_alike s m args below meth c H locs 0 0 (MQ below (wQi E Q) args s 0 0 (wA E)) (F0 m 5 ls []) := by
  have hx := C.1.1
  have hb := C.1.2.1
  intro n
  induction n with
  | zero =>
    intro x1 x2 x3 x4 σ  H locs ls hw hl h
    exact h.elim
  | succ n ih =>
    intro x1 x2 x3 x4 σ  H locs ls hw hl h
    rw [wX7_alike_5] at h
    refine lv_iload hx hb (dAt dX7_alike 4 rfl) (lv_at hl 4 rfl) ?_
    refine lv_bipush (v := 31) hx hb (dAt dX7_alike 5 rfl) (by decide) ?_
    refine lv_icmp_ge (tgt := 99) hx hb (dAt dX7_alike 6 rfl) (by decide) (fun c9 => ?_) (fun c9 => ?_)
    · replace h := h.1 c9
      refine lv_iload_n hx hb (dAt dX7_alike 53 rfl) rfl (lv_at hl 3 rfl) ?_
      exact x_iret C hw hr hlk h (dAt dX7_alike 54 rfl)
    · replace h := h.2 c9
      refine lv_iconst (v := 0) hx hb (dAt dX7_alike 7 rfl) (by decide) ?_
      refine lv_istore (lv' := [(5, .int (0 : Int32)), (0, .ref (gE E 0)), (1, .int x1), (2, .int x2), (3, .int x3), (4, .int x4)]) hx hb (dAt dX7_alike 8 rfl) hl (by decide) rfl (fun ls hl => ?_)
      refine lv_iconst (v := 2) hx hb (dAt dX7_alike 9 rfl) (by decide) ?_
      refine lv_istore (lv' := [(6, .int (2 : Int32)), (5, .int (0 : Int32)), (0, .ref (gE E 0)), (1, .int x1), (2, .int x2), (3, .int x3), (4, .int x4)]) hx hb (dAt dX7_alike 10 rfl) hl (by decide) rfl (fun ls hl => ?_)
      obtain ⟨n18, h⟩ := h
      exact kX7_alike_18 hE C hr hlk ih n18 x1 x2 x3 x4 (0 : Int32) (2 : Int32) σ  _ _ _ hw (lv_sub hl [2, 3, 4, 5, 6, 1, 0] rfl) h
set_option maxHeartbeats 4000000 in
set_option maxRecDepth 100000 in
theorem kX7_alike (l : Launch) (E : wE) (hE : wM E) (x1 : Int32) (x2 : Int32) (σ : Mem) (Q : Int32 → Mem → Prop) (h : wX7_alike x1 x2 σ Q) : Met l yX7_alike (Cond.code yX7_alike cX7_alike 7 (some .int) :: TB) rX7_alike (wPc E σ [.ref (gE E 0), .int x1, .int x2]) (wQi E Q) 0 0 (wA E) := by
  refine wMet (by decide) hE.2.2 (Nat.le_of_ble_eq_true rfl) ?_
  intro p e s m args below meth c ls C hr hlk hl hw
  have hx := C.1.1
  have hb := C.1.2.1
  replace C : Cx p s m args c cX7_alike 7 RX7 E (wA E) := C
  replace hl : lv_has ls 7 [(0, .ref (gE E 0)), (1, .int x1), (2, .int x2)] := hl
  unfold wX7_alike at h
  refine lv_iconst (v := 0) hx hb (dAt dX7_alike 0 rfl) (by decide) ?_
  refine lv_istore_n (lv' := [(3, .int (0 : Int32)), (0, .ref (gE E 0)), (1, .int x1), (2, .int x2)]) hx hb (dAt dX7_alike 1 rfl) rfl hl (by decide) rfl (fun ls hl => ?_)
  refine lv_iconst (v := 2) hx hb (dAt dX7_alike 2 rfl) (by decide) ?_
  refine lv_istore (lv' := [(4, .int (2 : Int32)), (3, .int (0 : Int32)), (0, .ref (gE E 0)), (1, .int x1), (2, .int x2)]) hx hb (dAt dX7_alike 3 rfl) hl (by decide) rfl (fun ls hl => ?_)
  obtain ⟨n5, h⟩ := h
  exact kX7_alike_5 hE C hr hlk n5 x1 x2 (0 : Int32) (2 : Int32) σ  _ _ _ hw (lv_sub hl [2, 3, 4, 1, 0] rfl) h
def tX7_askNow : List (Nat × Instr × Nat) := [(0, .aload_n 0, 1), (1, .invokevirtual 303, 3), (4, .istore_n 1, 1), (5, .iconst 0, 1), (6, .istore_n 2, 1), (7, .iconst 1, 1), (8, .istore_n 3, 1), (9, .iload_n 3, 1), (10, .bipush 24, 2), (12, .if_icmp .ge 30, 3), (15, .aload_n 0, 1), (16, .iload_n 1, 1), (17, .iload_n 3, 1), (18, .invokevirtual 306, 3), (21, .aload_n 0, 1), (22, .iload_n 1, 1), (23, .iload_n 2, 1), (24, .invokevirtual 306, 3), (27, .if_icmp .ge 7, 3), (30, .iload_n 3, 1), (31, .goto 4, 3), (34, .iload_n 2, 1), (35, .istore_n 2, 1), (36, .iinc 3 1, 3), (39, .goto (-30), 3), (42, .iload_n 2, 1), (43, .ireturn, 1)]
theorem dX7_askNow : dOk cX7_askNow tX7_askNow = true := by decide +kernel
abbrev rX7_askNow : Room := { frames := 8, cells := 0, slots := 0, locals := 185 }
def wX7_askNow_9 (Q : Int32 → Mem → Prop) : Nat → Int32 → Int32 → Int32 → Mem → Prop
  | 0, _, _, _, _ => False
  | n + 1, x1, x2, x3, σ => ((((24 : Int32) ≤ x3) → (Q x2 σ)) ∧ ((¬ (24 : Int32) ≤ x3) → (wX7_alike x1 x3 σ (fun r18 σ18 => (wX7_alike x1 x2 σ18 (fun r24 σ24 => (∀ x2_35 : Int32, x2_35 = (if r24 ≤ r18 then x2 else x3) → (wX7_askNow_9 Q n x1 x2_35 (x3 + (1 : Int32)) σ24))))))))
def wX7_askNow (σ : Mem) (Q : Int32 → Mem → Prop) : Prop := (wX7_lengthsNow  σ (fun r1 σ1 => (∃ N9, wX7_askNow_9 Q N9 r1 (0 : Int32) (1 : Int32) σ1)))
set_option maxHeartbeats 4000000 in
set_option maxRecDepth 100000 in
theorem kX7_askNow_9 {p : Program} {l : Launch} {e : Env} {s : State} {m : MethodId} {args : Array Value} {below : List Frame} {meth : Method} {c : Code} {E : wE} (hE : wM E) (C : Cx p s m args c cX7_askNow 4 RX7 E (wA E)) (hr : meth.sig.returnType = (some .int)) (hlk : meth.locks = false) {Q : Int32 → Mem → Prop} : ∀ (n : Nat) (x1 : Int32) (x2 : Int32) (x3 : Int32) (σ : Mem) (H : Heap) (locs : List Loc) (ls : Array Slot), wd E (wA E) s σ H locs → lv_has ls 4 [(0, .ref (gE E 0)), (1, .int x1), (2, .int x2), (3, .int x3)] → wX7_askNow_9 Q n x1 x2 x3 σ → W p l e rX7_askNow s m args below meth c H locs 0 0 (MQ below (wQi E Q) args s 0 0 (wA E)) (F0 m 9 ls []) := by
  have hx := C.1.1
  have hb := C.1.2.1
  intro n
  induction n with
  | zero =>
    intro x1 x2 x3 σ  H locs ls hw hl h
    exact h.elim
  | succ n ih =>
    intro x1 x2 x3 σ  H locs ls hw hl h
    rw [wX7_askNow_9] at h
    refine lv_iload_n hx hb (dAt dX7_askNow 7 rfl) rfl (lv_at hl 3 rfl) ?_
    refine lv_bipush (v := 24) hx hb (dAt dX7_askNow 8 rfl) (by decide) ?_
    refine lv_icmp_ge (tgt := 42) hx hb (dAt dX7_askNow 9 rfl) (by decide) (fun c12 => ?_) (fun c12 => ?_)
    · replace h := h.1 c12
      refine lv_iload_n hx hb (dAt dX7_askNow 25 rfl) rfl (lv_at hl 2 rfl) ?_
      exact x_iret C hw hr hlk h (dAt dX7_askNow 26 rfl)
    · replace h := h.2 c12
      refine lv_aload_n hx hb (dAt dX7_askNow 10 rfl) rfl (lv_at hl 0 rfl) ?_
      refine lv_iload_n hx hb (dAt dX7_askNow 11 rfl) rfl (lv_at hl 1 rfl) ?_
      refine lv_iload_n hx hb (dAt dX7_askNow 12 rfl) rfl (lv_at hl 3 rfl) ?_
      refine x_calli C hw (x_runV (As := [.int x1, .int x3]) (rest := []) C hw (kX7_alike l E hE x1 x3 σ _ h) mtX7_alike lk_X7_306 (hE.1 0) (nM hE (by decide)) rfl ⟨by decide, by decide⟩ ⟨rfl, rfl⟩ rfl hl.1 rfl (Nat.le_of_ble_eq_true rfl) (dAt dX7_askNow 13 rfl) ⟨Nat.zero_le _, Nat.zero_le _⟩) (fun r18 σ18 H locs h hw => ?_)
      refine lv_aload_n hx hb (dAt dX7_askNow 14 rfl) rfl (lv_at hl 0 rfl) ?_
      refine lv_iload_n hx hb (dAt dX7_askNow 15 rfl) rfl (lv_at hl 1 rfl) ?_
      refine lv_iload_n hx hb (dAt dX7_askNow 16 rfl) rfl (lv_at hl 2 rfl) ?_
      refine x_calli C hw (x_runV (As := [.int x1, .int x2]) (rest := [.int r18]) C hw (kX7_alike l E hE x1 x2 σ18 _ h) mtX7_alike lk_X7_306 (hE.1 0) (nM hE (by decide)) rfl ⟨by decide, by decide⟩ ⟨rfl, rfl⟩ rfl hl.1 rfl (Nat.le_of_ble_eq_true rfl) (dAt dX7_askNow 17 rfl) ⟨Nat.zero_le _, Nat.zero_le _⟩) (fun r24 σ24 H locs h hw => ?_)
      refine x_dia (ls := ls) (pcJ := 35) (cnd := r24 ≤ r18) (a := x2) (b := x3) ([]) ?_ (fun ht27 hf27 => ?_)
      · refine lv_topi (fun x2_35 ex2_35 => ?_)
        replace h := h x2_35 ex2_35
        refine lv_istore_n (lv' := [(2, .int x2_35), (0, .ref (gE E 0)), (1, .int x1), (3, .int x3)]) hx hb (dAt dX7_askNow 22 rfl) rfl hl (by decide) rfl (fun ls hl => ?_)
        refine lv_iinc (v := (x3 + (1 : Int32))) (lv' := [(3, .int (x3 + (1 : Int32))), (2, .int x2_35), (0, .ref (gE E 0)), (1, .int x1)]) hx hb (dAt dX7_askNow 23 rfl) hl (k := 3) rfl rfl (by decide) rfl (fun ls hl => ?_)
        refine lv_goto (tgt := 9) hx hb (dAt dX7_askNow 24 rfl) (by decide) ?_
        exact ih x1 x2_35 (x3 + (1 : Int32)) σ24  _ _ _ hw (lv_sub hl [2, 3, 1, 0] rfl) h
      · refine lv_icmp_ge (tgt := 34) hx hb (dAt dX7_askNow 18 rfl) (by decide) (fun c27 => ?_) (fun c27 => ?_)
        · refine lv_iload_n hx hb (dAt dX7_askNow 21 rfl) rfl (lv_at hl 2 rfl) ?_
          exact ht27 c27
        · refine lv_iload_n hx hb (dAt dX7_askNow 19 rfl) rfl (lv_at hl 3 rfl) ?_
          refine lv_goto (tgt := 35) hx hb (dAt dX7_askNow 20 rfl) (by decide) ?_
          exact hf27 c27
set_option maxHeartbeats 4000000 in
set_option maxRecDepth 100000 in
theorem kX7_askNow (l : Launch) (E : wE) (hE : wM E) (σ : Mem) (Q : Int32 → Mem → Prop) (h : wX7_askNow  σ Q) : Met l yX7_askNow (Cond.code yX7_askNow cX7_askNow 4 (some .int) :: TB) rX7_askNow (wPc E σ [.ref (gE E 0)]) (wQi E Q) 0 0 (wA E) := by
  refine wMet (by decide) hE.2.2 (Nat.le_of_ble_eq_true rfl) ?_
  intro p e s m args below meth c ls C hr hlk hl hw
  have hx := C.1.1
  have hb := C.1.2.1
  replace C : Cx p s m args c cX7_askNow 4 RX7 E (wA E) := C
  replace hl : lv_has ls 4 [(0, .ref (gE E 0))] := hl
  unfold wX7_askNow at h
  refine lv_aload_n hx hb (dAt dX7_askNow 0 rfl) rfl (lv_at hl 0 rfl) ?_
  refine x_calli C hw (x_runV (As := []) (rest := []) C hw (kX7_lengthsNow l E hE  σ _ h) mtX7_lengthsNow lk_X7_303 (hE.1 0) (nM hE (by decide)) rfl ⟨by decide, by decide⟩ ⟨rfl, rfl⟩ rfl hl.1 rfl (Nat.le_of_ble_eq_true rfl) (dAt dX7_askNow 1 rfl) ⟨Nat.zero_le _, Nat.zero_le _⟩) (fun r1 σ1 H locs h hw => ?_)
  refine lv_istore_n (lv' := [(1, .int r1), (0, .ref (gE E 0))]) hx hb (dAt dX7_askNow 2 rfl) rfl hl (by decide) rfl (fun ls hl => ?_)
  refine lv_iconst (v := 0) hx hb (dAt dX7_askNow 3 rfl) (by decide) ?_
  refine lv_istore_n (lv' := [(2, .int (0 : Int32)), (1, .int r1), (0, .ref (gE E 0))]) hx hb (dAt dX7_askNow 4 rfl) rfl hl (by decide) rfl (fun ls hl => ?_)
  refine lv_iconst (v := 1) hx hb (dAt dX7_askNow 5 rfl) (by decide) ?_
  refine lv_istore_n (lv' := [(3, .int (1 : Int32)), (2, .int (0 : Int32)), (1, .int r1), (0, .ref (gE E 0))]) hx hb (dAt dX7_askNow 6 rfl) rfl hl (by decide) rfl (fun ls hl => ?_)
  obtain ⟨n9, h⟩ := h
  exact kX7_askNow_9 hE C hr hlk n9 r1 (0 : Int32) (1 : Int32) σ1  _ _ _ hw (lv_sub hl [3, 2, 1, 0] rfl) h
def tX7_ask : List (Nat × Instr × Nat) := [(0, .aload_n 0, 1), (1, .invokevirtual 219, 3), (4, .aload_n 0, 1), (5, .invokevirtual 309, 3), (8, .ireturn, 1)]
theorem dX7_ask : dOk cX7_ask tX7_ask = true := by decide +kernel
abbrev rX7_ask : Room := { frames := 9, cells := 0, slots := 0, locals := 208 }
def wX7_ask (σ : Mem) (Q : Int32 → Mem → Prop) : Prop := (wX7_find  σ (fun σ1 => (wX7_askNow  σ1 (fun r5 σ5 => (Q r5 σ5)))))
set_option maxHeartbeats 4000000 in
set_option maxRecDepth 100000 in
theorem kX7_ask (l : Launch) (E : wE) (hE : wM E) (σ : Mem) (Q : Int32 → Mem → Prop) (h : wX7_ask  σ Q) : Met l yX7_ask (Cond.code yX7_ask cX7_ask 1 (some .int) :: TB) rX7_ask (wPc E σ [.ref (gE E 0)]) (wQi E Q) 0 0 (wA E) := by
  refine wMet (by decide) hE.2.2 (Nat.le_of_ble_eq_true rfl) ?_
  intro p e s m args below meth c ls C hr hlk hl hw
  have hx := C.1.1
  have hb := C.1.2.1
  replace C : Cx p s m args c cX7_ask 1 RX7 E (wA E) := C
  replace hl : lv_has ls 1 [(0, .ref (gE E 0))] := hl
  unfold wX7_ask at h
  refine lv_aload_n hx hb (dAt dX7_ask 0 rfl) rfl (lv_at hl 0 rfl) ?_
  refine x_callv C hw (x_runV (As := []) (rest := []) C hw (kX7_find l E hE  σ _ h) mtX7_find lk_X7_219 (hE.1 0) (nM hE (by decide)) rfl ⟨by decide, by decide⟩ ⟨rfl, rfl⟩ rfl hl.1 rfl (Nat.le_of_ble_eq_true rfl) (dAt dX7_ask 1 rfl) ⟨Nat.zero_le _, Nat.zero_le _⟩) (fun σ1 H locs h hw => ?_)
  refine lv_aload_n hx hb (dAt dX7_ask 2 rfl) rfl (lv_at hl 0 rfl) ?_
  refine x_calli C hw (x_runV (As := []) (rest := []) C hw (kX7_askNow l E hE  σ1 _ h) mtX7_askNow lk_X7_309 (hE.1 0) (nM hE (by decide)) rfl ⟨by decide, by decide⟩ ⟨rfl, rfl⟩ rfl hl.1 rfl (Nat.le_of_ble_eq_true rfl) (dAt dX7_ask 3 rfl) ⟨Nat.zero_le _, Nat.zero_le _⟩) (fun r5 σ5 H locs h hw => ?_)
  exact x_iret C hw hr hlk h (dAt dX7_ask 4 rfl)
def tX7_chanceOf : List (Nat × Instr × Nat) := [(0, .lconst 0, 1), (1, .lstore 4, 2), (3, .iconst 0, 1), (4, .istore 6, 2), (6, .iload 6, 2), (8, .iconst 1, 1), (9, .aload_n 0, 1), (10, .getfield 167, 3), (13, .ishl, 1), (14, .if_icmp .ge 85, 3), (17, .aload_n 0, 1), (18, .iload 6, 2), (20, .putfield 172, 3), (23, .aload_n 0, 1), (24, .invokevirtual 216, 3), (27, .aload_n 0, 1), (28, .getfield 70, 3), (31, .iload_n 2, 1), (32, .iaload, 1), (33, .ifCond .ne 7, 3), (36, .lconst 1, 1), (37, .goto 4, 3), (40, .lconst 0, 1), (41, .lstore 7, 2), (43, .iconst 0, 1), (44, .istore 9, 2), (46, .iload 9, 2), (48, .aload_n 0, 1), (49, .getfield 167, 3), (52, .if_icmp .ge 34, 3), (55, .lload 7, 2), (57, .iload 6, 2), (59, .iload 9, 2), (61, .invokestatic 175, 3), (64, .ifCond .eq 11, 3), (67, .bipush 16, 2), (69, .iload_n 1, 1), (70, .isub, 1), (71, .i2l, 1), (72, .goto 5, 3), (75, .iload_n 1, 1), (76, .i2l, 1), (77, .lmul, 1), (78, .lstore 7, 2), (80, .iinc 9 1, 3), (83, .goto (-37), 3), (86, .lload 4, 2), (88, .lload 7, 2), (90, .ladd, 1), (91, .lstore 4, 2), (93, .iinc 6 1, 3), (96, .goto (-90), 3), (99, .aload_n 0, 1), (100, .iconst 0, 1), (101, .putfield 172, 3), (104, .lload 4, 2), (106, .lconst 1, 1), (107, .iconst 4, 1), (108, .aload_n 0, 1), (109, .getfield 167, 3), (112, .imul, 1), (113, .lshl, 1), (114, .iload_n 3, 1), (115, .invokestatic 312, 3), (118, .lreturn, 1)]
theorem dX7_chanceOf : dOk cX7_chanceOf tX7_chanceOf = true := by decide +kernel
abbrev rX7_chanceOf : Room := { frames := 6, cells := 0, slots := 0, locals := 139 }
def wX7_chanceOf_99 (Q : Int64 → Mem → Prop) (x3 : Int32) (x4 : Int64) (σ : Mem) : Prop := (∀ σ101 : Mem, σ101 = um σ 0 14 (0 : Int32) → (wX7_part x4 ((1 : Int64) <<< ((((4 : Int32) * (σ101 0 12))).toInt64 &&& 63)) x3 σ101 (fun r115 σ115 => (Q r115 σ115))))
def wX7_chanceOf_46 (K6 : Int32 → Int32 → Int32 → Int64 → Int32 → Mem → Prop) (Q : Int64 → Mem → Prop) : Nat → Int32 → Int32 → Int32 → Int64 → Int32 → Int64 → Int32 → Mem → Prop
  | 0, _, _, _, _, _, _, _, _ => False
  | n + 1, x1, x2, x3, x4, x6, x7, x9, σ => ((((σ 0 12) ≤ x9) → (∀ x4_91 : Int64, x4_91 = (x4 + x7) → (K6 x1 x2 x3 x4_91 (x6 + (1 : Int32)) σ))) ∧ ((¬ (σ 0 12) ≤ x9) → (wX7_isIn x6 x9 σ (fun r61 σ61 => (((r61 = 0) → (∀ x7_78 : Int64, x7_78 = (x7 * ((x1).toInt64)) → (wX7_chanceOf_46 K6 Q n x1 x2 x3 x4 x6 x7_78 (x9 + (1 : Int32)) σ61))) ∧ ((¬ r61 = 0) → (∀ x7_78 : Int64, x7_78 = (x7 * ((((16 : Int32) - x1)).toInt64)) → (wX7_chanceOf_46 K6 Q n x1 x2 x3 x4 x6 x7_78 (x9 + (1 : Int32)) σ61))))))))
def wX7_chanceOf_6 (Q : Int64 → Mem → Prop) : Nat → Int32 → Int32 → Int32 → Int64 → Int32 → Mem → Prop
  | 0, _, _, _, _, _, _ => False
  | n + 1, x1, x2, x3, x4, x6, σ => (((((1 : Int32) <<< ((σ 0 12) &&& 31)) ≤ x6) → (wX7_chanceOf_99 Q x3 x4 σ)) ∧ ((¬ ((1 : Int32) <<< ((σ 0 12) &&& 31)) ≤ x6) → (∀ σ20 : Mem, σ20 = um σ 0 14 x6 → (wX7_lives  σ20 (fun σ24 => (vp_in x2 24 ∧ (((¬ (σ24 21 (x2).toNatClampNeg) = 0) → (∃ N46, wX7_chanceOf_46 (fun x1 x2 x3 x4 x6 ρ => wX7_chanceOf_6 Q n x1 x2 x3 x4 x6 ρ) Q N46 x1 x2 x3 x4 x6 (0 : Int64) (0 : Int32) σ24)) ∧ (((σ24 21 (x2).toNatClampNeg) = 0) → (∃ N46, wX7_chanceOf_46 (fun x1 x2 x3 x4 x6 ρ => wX7_chanceOf_6 Q n x1 x2 x3 x4 x6 ρ) Q N46 x1 x2 x3 x4 x6 (1 : Int64) (0 : Int32) σ24)))))))))
def wX7_chanceOf (x1 : Int32) (x2 : Int32) (x3 : Int32) (σ : Mem) (Q : Int64 → Mem → Prop) : Prop := (∃ N6, wX7_chanceOf_6 Q N6 x1 x2 x3 (0 : Int64) (0 : Int32) σ)
set_option maxHeartbeats 4000000 in
set_option maxRecDepth 100000 in
theorem kX7_chanceOf_99 {p : Program} {l : Launch} {e : Env} {s : State} {m : MethodId} {args : Array Value} {below : List Frame} {meth : Method} {c : Code} {E : wE} (hE : wM E) (C : Cx p s m args c cX7_chanceOf 10 RX7 E (wA E)) (hr : meth.sig.returnType = (some .long)) (hlk : meth.locks = false) {Q : Int64 → Mem → Prop} : ∀ (x3 : Int32) (x4 : Int64) (σ : Mem) (H : Heap) (locs : List Loc) (ls : Array Slot), wd E (wA E) s σ H locs → lv_has ls 10 [(0, .ref (gE E 0)), (3, .int x3), (4, .long x4)] → wX7_chanceOf_99 Q x3 x4 σ → W p l e rX7_chanceOf s m args below meth c H locs 0 0 (MQ below (wQl E Q) args s 0 0 (wA E)) (F0 m 99 ls []) := by
  have hx := C.1.1
  have hb := C.1.2.1
  intro x3 x4 σ  H locs ls hw hl h
  unfold wX7_chanceOf_99 at h
  refine lv_aload_n hx hb (dAt dX7_chanceOf 52 rfl) rfl (lv_at hl 0 rfl) ?_
  refine lv_iconst (v := 0) hx hb (dAt dX7_chanceOf 53 rfl) (by decide) ?_
  refine x_pf C hw fl_X7_172 (hE.1 0) (nM hE (by decide)) rfl rfl rfl (dAt dX7_chanceOf 54 rfl) (fun σ101 H locs eσ101 hw => ?_)
  replace h := h σ101 eσ101
  refine lv_lload hx hb (dAt dX7_chanceOf 55 rfl) (lv_at hl 2 rfl) ?_
  refine lv_lconst (v := 1) hx hb (dAt dX7_chanceOf 56 rfl) (by decide) ?_
  refine lv_iconst (v := 4) hx hb (dAt dX7_chanceOf 57 rfl) (by decide) ?_
  refine lv_aload_n hx hb (dAt dX7_chanceOf 58 rfl) rfl (lv_at hl 0 rfl) ?_
  refine x_geti C hw fl_X7_167 (hE.1 0) (nM hE (by decide)) rfl (dAt dX7_chanceOf 59 rfl) ?_
  refine lv_imul hx hb (dAt dX7_chanceOf 60 rfl) ?_
  refine lv_lshl hx hb (dAt dX7_chanceOf 61 rfl) rfl ?_
  refine lv_iload_n hx hb (dAt dX7_chanceOf 62 rfl) rfl (lv_at hl 1 rfl) ?_
  refine x_calll C hw (x_runS (As := [.long x4, .long ((1 : Int64) <<< ((((4 : Int32) * (σ101 0 12))).toInt64 &&& 63)), .int x3]) (rest := []) C hw (kX7_part l E hE x4 ((1 : Int64) <<< ((((4 : Int32) * (σ101 0 12))).toInt64 &&& 63)) x3 σ101 _ h) mtX7_part lk_X7_312 ⟨by decide, by decide⟩ ⟨rfl, rfl⟩ rfl hl.1 rfl (Nat.le_of_ble_eq_true rfl) (dAt dX7_chanceOf 63 rfl) ⟨Nat.zero_le _, Nat.zero_le _⟩) (fun r115 σ115 H locs h hw => ?_)
  exact x_lret C hw hr hlk h (dAt dX7_chanceOf 64 rfl)
set_option maxHeartbeats 4000000 in
set_option maxRecDepth 100000 in
theorem kX7_chanceOf_46 {p : Program} {l : Launch} {e : Env} {s : State} {m : MethodId} {args : Array Value} {below : List Frame} {meth : Method} {c : Code} {E : wE} (hE : wM E) (C : Cx p s m args c cX7_chanceOf 10 RX7 E (wA E)) (hr : meth.sig.returnType = (some .long)) (hlk : meth.locks = false) {Q : Int64 → Mem → Prop} {K6 : Int32 → Int32 → Int32 → Int64 → Int32 → Mem → Prop} (hK6 : ∀ (x1 : Int32) (x2 : Int32) (x3 : Int32) (x4 : Int64) (x6 : Int32) (σ : Mem) (H : Heap) (locs : List Loc) (ls : Array Slot), wd E (wA E) s σ H locs → lv_has ls 10 [(0, .ref (gE E 0)), (1, .int x1), (2, .int x2), (3, .int x3), (4, .long x4), (6, .int x6)] → K6 x1 x2 x3 x4 x6 σ → W p l e rX7_chanceOf s m args below meth c H locs 0 0 (MQ below (wQl E Q) args s 0 0 (wA E)) (F0 m 6 ls [])) : ∀ (n : Nat) (x1 : Int32) (x2 : Int32) (x3 : Int32) (x4 : Int64) (x6 : Int32) (x7 : Int64) (x9 : Int32) (σ : Mem) (H : Heap) (locs : List Loc) (ls : Array Slot), wd E (wA E) s σ H locs → lv_has ls 10 [(0, .ref (gE E 0)), (1, .int x1), (2, .int x2), (3, .int x3), (4, .long x4), (6, .int x6), (7, .long x7), (9, .int x9)] → wX7_chanceOf_46 K6 Q n x1 x2 x3 x4 x6 x7 x9 σ → W p l e rX7_chanceOf s m args below meth c H locs 0 0 (MQ below (wQl E Q) args s 0 0 (wA E)) (F0 m 46 ls []) := by
  have hx := C.1.1
  have hb := C.1.2.1
  intro n
  induction n with
  | zero =>
    intro x1 x2 x3 x4 x6 x7 x9 σ  H locs ls hw hl h
    exact h.elim
  | succ n ih =>
    intro x1 x2 x3 x4 x6 x7 x9 σ  H locs ls hw hl h
    rw [wX7_chanceOf_46] at h
    refine lv_iload hx hb (dAt dX7_chanceOf 26 rfl) (lv_at hl 7 rfl) ?_
    refine lv_aload_n hx hb (dAt dX7_chanceOf 27 rfl) rfl (lv_at hl 0 rfl) ?_
    refine x_geti C hw fl_X7_167 (hE.1 0) (nM hE (by decide)) rfl (dAt dX7_chanceOf 28 rfl) ?_
    refine lv_icmp_ge (tgt := 86) hx hb (dAt dX7_chanceOf 29 rfl) (by decide) (fun c52 => ?_) (fun c52 => ?_)
    · replace h := h.1 c52
      refine lv_lload hx hb (dAt dX7_chanceOf 46 rfl) (lv_at hl 4 rfl) ?_
      refine lv_lload hx hb (dAt dX7_chanceOf 47 rfl) (lv_at hl 6 rfl) ?_
      refine lv_ladd hx hb (dAt dX7_chanceOf 48 rfl) ?_
      refine lv_topl (fun x4_91 ex4_91 => ?_)
      replace h := h x4_91 ex4_91
      refine lv_lstore (lv' := [(4, .long x4_91), (0, .ref (gE E 0)), (1, .int x1), (2, .int x2), (3, .int x3), (6, .int x6), (7, .long x7), (9, .int x9)]) hx hb (dAt dX7_chanceOf 49 rfl) hl (by decide) rfl (fun ls hl => ?_)
      refine lv_iinc (v := (x6 + (1 : Int32))) (lv' := [(6, .int (x6 + (1 : Int32))), (4, .long x4_91), (0, .ref (gE E 0)), (1, .int x1), (2, .int x2), (3, .int x3), (7, .long x7), (9, .int x9)]) hx hb (dAt dX7_chanceOf 50 rfl) hl (k := 5) rfl rfl (by decide) rfl (fun ls hl => ?_)
      refine lv_goto (tgt := 6) hx hb (dAt dX7_chanceOf 51 rfl) (by decide) ?_
      exact hK6 x1 x2 x3 x4_91 (x6 + (1 : Int32)) σ  _ _ _ hw (lv_sub hl [2, 3, 4, 5, 1, 0] rfl) h
    · replace h := h.2 c52
      refine lv_lload hx hb (dAt dX7_chanceOf 30 rfl) (lv_at hl 6 rfl) ?_
      refine lv_iload hx hb (dAt dX7_chanceOf 31 rfl) (lv_at hl 5 rfl) ?_
      refine lv_iload hx hb (dAt dX7_chanceOf 32 rfl) (lv_at hl 7 rfl) ?_
      refine x_calli C hw (x_runS (As := [.int x6, .int x9]) (rest := [.long x7]) C hw (kX7_isIn l E hE x6 x9 σ _ h) mtX7_isIn lk_X7_175 ⟨by decide, by decide⟩ ⟨rfl, rfl⟩ rfl hl.1 rfl (Nat.le_of_ble_eq_true rfl) (dAt dX7_chanceOf 33 rfl) ⟨Nat.zero_le _, Nat.zero_le _⟩) (fun r61 σ61 H locs h hw => ?_)
      refine lv_if_eq (tgt := 75) hx hb (dAt dX7_chanceOf 34 rfl) (by decide) (fun c64 => ?_) (fun c64 => ?_)
      · replace h := h.1 c64
        refine lv_iload_n hx hb (dAt dX7_chanceOf 40 rfl) rfl (lv_at hl 1 rfl) ?_
        refine lv_i2l hx hb (dAt dX7_chanceOf 41 rfl) rfl ?_
        refine lv_lmul hx hb (dAt dX7_chanceOf 42 rfl) ?_
        refine lv_topl (fun x7_78 ex7_78 => ?_)
        replace h := h x7_78 ex7_78
        refine lv_lstore (lv' := [(7, .long x7_78), (0, .ref (gE E 0)), (1, .int x1), (2, .int x2), (3, .int x3), (4, .long x4), (6, .int x6), (9, .int x9)]) hx hb (dAt dX7_chanceOf 43 rfl) hl (by decide) rfl (fun ls hl => ?_)
        refine lv_iinc (v := (x9 + (1 : Int32))) (lv' := [(9, .int (x9 + (1 : Int32))), (7, .long x7_78), (0, .ref (gE E 0)), (1, .int x1), (2, .int x2), (3, .int x3), (4, .long x4), (6, .int x6)]) hx hb (dAt dX7_chanceOf 44 rfl) hl (k := 7) rfl rfl (by decide) rfl (fun ls hl => ?_)
        refine lv_goto (tgt := 46) hx hb (dAt dX7_chanceOf 45 rfl) (by decide) ?_
        exact ih x1 x2 x3 x4 x6 x7_78 (x9 + (1 : Int32)) σ61  _ _ _ hw (lv_sub hl [2, 3, 4, 5, 6, 7, 1, 0] rfl) h
      · replace h := h.2 c64
        refine lv_bipush (v := 16) hx hb (dAt dX7_chanceOf 35 rfl) (by decide) ?_
        refine lv_iload_n hx hb (dAt dX7_chanceOf 36 rfl) rfl (lv_at hl 1 rfl) ?_
        refine lv_isub hx hb (dAt dX7_chanceOf 37 rfl) ?_
        refine lv_i2l hx hb (dAt dX7_chanceOf 38 rfl) rfl ?_
        refine lv_goto (tgt := 77) hx hb (dAt dX7_chanceOf 39 rfl) (by decide) ?_
        refine lv_lmul hx hb (dAt dX7_chanceOf 42 rfl) ?_
        refine lv_topl (fun x7_78 ex7_78 => ?_)
        replace h := h x7_78 ex7_78
        refine lv_lstore (lv' := [(7, .long x7_78), (0, .ref (gE E 0)), (1, .int x1), (2, .int x2), (3, .int x3), (4, .long x4), (6, .int x6), (9, .int x9)]) hx hb (dAt dX7_chanceOf 43 rfl) hl (by decide) rfl (fun ls hl => ?_)
        refine lv_iinc (v := (x9 + (1 : Int32))) (lv' := [(9, .int (x9 + (1 : Int32))), (7, .long x7_78), (0, .ref (gE E 0)), (1, .int x1), (2, .int x2), (3, .int x3), (4, .long x4), (6, .int x6)]) hx hb (dAt dX7_chanceOf 44 rfl) hl (k := 7) rfl rfl (by decide) rfl (fun ls hl => ?_)
        refine lv_goto (tgt := 46) hx hb (dAt dX7_chanceOf 45 rfl) (by decide) ?_
        exact ih x1 x2 x3 x4 x6 x7_78 (x9 + (1 : Int32)) σ61  _ _ _ hw (lv_sub hl [2, 3, 4, 5, 6, 7, 1, 0] rfl) h
set_option maxHeartbeats 4000000 in
set_option maxRecDepth 100000 in
theorem kX7_chanceOf_6 {p : Program} {l : Launch} {e : Env} {s : State} {m : MethodId} {args : Array Value} {below : List Frame} {meth : Method} {c : Code} {E : wE} (hE : wM E) (C : Cx p s m args c cX7_chanceOf 10 RX7 E (wA E)) (hr : meth.sig.returnType = (some .long)) (hlk : meth.locks = false) {Q : Int64 → Mem → Prop} : ∀ (n : Nat) (x1 : Int32) (x2 : Int32) (x3 : Int32) (x4 : Int64) (x6 : Int32) (σ : Mem) (H : Heap) (locs : List Loc) (ls : Array Slot), wd E (wA E) s σ H locs → lv_has ls 10 [(0, .ref (gE E 0)), (1, .int x1), (2, .int x2), (3, .int x3), (4, .long x4), (6, .int x6)] → wX7_chanceOf_6 Q n x1 x2 x3 x4 x6 σ → W p l e rX7_chanceOf s m args below meth c H locs 0 0 (MQ below (wQl E Q) args s 0 0 (wA E)) (F0 m 6 ls []) := by
  have hx := C.1.1
  have hb := C.1.2.1
  intro n
  induction n with
  | zero =>
    intro x1 x2 x3 x4 x6 σ  H locs ls hw hl h
    exact h.elim
  | succ n ih =>
    intro x1 x2 x3 x4 x6 σ  H locs ls hw hl h
    rw [wX7_chanceOf_6] at h
    refine lv_iload hx hb (dAt dX7_chanceOf 4 rfl) (lv_at hl 5 rfl) ?_
    refine lv_iconst (v := 1) hx hb (dAt dX7_chanceOf 5 rfl) (by decide) ?_
    refine lv_aload_n hx hb (dAt dX7_chanceOf 6 rfl) rfl (lv_at hl 0 rfl) ?_
    refine x_geti C hw fl_X7_167 (hE.1 0) (nM hE (by decide)) rfl (dAt dX7_chanceOf 7 rfl) ?_
    refine lv_ishl hx hb (dAt dX7_chanceOf 8 rfl) ?_
    refine lv_icmp_ge (tgt := 99) hx hb (dAt dX7_chanceOf 9 rfl) (by decide) (fun c14 => ?_) (fun c14 => ?_)
    · replace h := h.1 c14
      exact kX7_chanceOf_99 hE C hr hlk x3 x4 σ  _ _ _ hw (lv_sub hl [0, 3, 4] rfl) h
    · replace h := h.2 c14
      refine lv_aload_n hx hb (dAt dX7_chanceOf 10 rfl) rfl (lv_at hl 0 rfl) ?_
      refine lv_iload hx hb (dAt dX7_chanceOf 11 rfl) (lv_at hl 5 rfl) ?_
      refine x_pf C hw fl_X7_172 (hE.1 0) (nM hE (by decide)) rfl rfl rfl (dAt dX7_chanceOf 12 rfl) (fun σ20 H locs eσ20 hw => ?_)
      replace h := h σ20 eσ20
      refine lv_aload_n hx hb (dAt dX7_chanceOf 13 rfl) rfl (lv_at hl 0 rfl) ?_
      refine x_callv C hw (x_runV (As := []) (rest := []) C hw (kX7_lives l E hE  σ20 _ h) mtX7_lives lk_X7_216 (hE.1 0) (nM hE (by decide)) rfl ⟨by decide, by decide⟩ ⟨rfl, rfl⟩ rfl hl.1 rfl (Nat.le_of_ble_eq_true rfl) (dAt dX7_chanceOf 14 rfl) ⟨Nat.zero_le _, Nat.zero_le _⟩) (fun σ24 H locs h hw => ?_)
      refine lv_aload_n hx hb (dAt dX7_chanceOf 15 rfl) rfl (lv_at hl 0 rfl) ?_
      refine x_getr C hw fl_X7_70 (hE.1 0) (nM hE (by decide)) rfl (dAt dX7_chanceOf 16 rfl) ?_
      refine lv_iload_n hx hb (dAt dX7_chanceOf 17 rfl) rfl (lv_at hl 2 rfl) ?_
      obtain ⟨z32, h⟩ := h
      refine x_ild C hw (hE.1 21) (nM hE (by decide)) z32 rfl (dAt dX7_chanceOf 18 rfl) ?_
      refine lv_if_ne (tgt := 40) hx hb (dAt dX7_chanceOf 19 rfl) (by decide) (fun c33 => ?_) (fun c33 => ?_)
      · replace h := h.1 c33
        refine lv_lconst (v := 0) hx hb (dAt dX7_chanceOf 22 rfl) (by decide) ?_
        refine lv_lstore (lv' := [(7, .long (0 : Int64)), (0, .ref (gE E 0)), (1, .int x1), (2, .int x2), (3, .int x3), (4, .long x4), (6, .int x6)]) hx hb (dAt dX7_chanceOf 23 rfl) hl (by decide) rfl (fun ls hl => ?_)
        refine lv_iconst (v := 0) hx hb (dAt dX7_chanceOf 24 rfl) (by decide) ?_
        refine lv_istore (lv' := [(9, .int (0 : Int32)), (7, .long (0 : Int64)), (0, .ref (gE E 0)), (1, .int x1), (2, .int x2), (3, .int x3), (4, .long x4), (6, .int x6)]) hx hb (dAt dX7_chanceOf 25 rfl) hl (by decide) rfl (fun ls hl => ?_)
        obtain ⟨n46, h⟩ := h
        exact kX7_chanceOf_46 hE C hr hlk ih n46 x1 x2 x3 x4 x6 (0 : Int64) (0 : Int32) σ24  _ _ _ hw (lv_sub hl [2, 3, 4, 5, 6, 7, 1, 0] rfl) h
      · replace h := h.2 c33
        refine lv_lconst (v := 1) hx hb (dAt dX7_chanceOf 20 rfl) (by decide) ?_
        refine lv_goto (tgt := 41) hx hb (dAt dX7_chanceOf 21 rfl) (by decide) ?_
        refine lv_lstore (lv' := [(7, .long (1 : Int64)), (0, .ref (gE E 0)), (1, .int x1), (2, .int x2), (3, .int x3), (4, .long x4), (6, .int x6)]) hx hb (dAt dX7_chanceOf 23 rfl) hl (by decide) rfl (fun ls hl => ?_)
        refine lv_iconst (v := 0) hx hb (dAt dX7_chanceOf 24 rfl) (by decide) ?_
        refine lv_istore (lv' := [(9, .int (0 : Int32)), (7, .long (1 : Int64)), (0, .ref (gE E 0)), (1, .int x1), (2, .int x2), (3, .int x3), (4, .long x4), (6, .int x6)]) hx hb (dAt dX7_chanceOf 25 rfl) hl (by decide) rfl (fun ls hl => ?_)
        obtain ⟨n46, h⟩ := h
        exact kX7_chanceOf_46 hE C hr hlk ih n46 x1 x2 x3 x4 x6 (1 : Int64) (0 : Int32) σ24  _ _ _ hw (lv_sub hl [2, 3, 4, 5, 6, 7, 1, 0] rfl) h
set_option maxHeartbeats 4000000 in
set_option maxRecDepth 100000 in
theorem kX7_chanceOf (l : Launch) (E : wE) (hE : wM E) (x1 : Int32) (x2 : Int32) (x3 : Int32) (σ : Mem) (Q : Int64 → Mem → Prop) (h : wX7_chanceOf x1 x2 x3 σ Q) : Met l yX7_chanceOf (Cond.code yX7_chanceOf cX7_chanceOf 10 (some .long) :: TB) rX7_chanceOf (wPc E σ [.ref (gE E 0), .int x1, .int x2, .int x3]) (wQl E Q) 0 0 (wA E) := by
  refine wMet (by decide) hE.2.2 (Nat.le_of_ble_eq_true rfl) ?_
  intro p e s m args below meth c ls C hr hlk hl hw
  have hx := C.1.1
  have hb := C.1.2.1
  replace C : Cx p s m args c cX7_chanceOf 10 RX7 E (wA E) := C
  replace hl : lv_has ls 10 [(0, .ref (gE E 0)), (1, .int x1), (2, .int x2), (3, .int x3)] := hl
  unfold wX7_chanceOf at h
  refine lv_lconst (v := 0) hx hb (dAt dX7_chanceOf 0 rfl) (by decide) ?_
  refine lv_lstore (lv' := [(4, .long (0 : Int64)), (0, .ref (gE E 0)), (1, .int x1), (2, .int x2), (3, .int x3)]) hx hb (dAt dX7_chanceOf 1 rfl) hl (by decide) rfl (fun ls hl => ?_)
  refine lv_iconst (v := 0) hx hb (dAt dX7_chanceOf 2 rfl) (by decide) ?_
  refine lv_istore (lv' := [(6, .int (0 : Int32)), (4, .long (0 : Int64)), (0, .ref (gE E 0)), (1, .int x1), (2, .int x2), (3, .int x3)]) hx hb (dAt dX7_chanceOf 3 rfl) hl (by decide) rfl (fun ls hl => ?_)
  obtain ⟨n6, h⟩ := h
  exact kX7_chanceOf_6 hE C hr hlk n6 x1 x2 x3 (0 : Int64) (0 : Int32) σ  _ _ _ hw (lv_sub hl [2, 3, 4, 5, 1, 0] rfl) h
def tX7_chance : List (Nat × Instr × Nat) := [(0, .aload_n 0, 1), (1, .invokevirtual 219, 3), (4, .iload_n 1, 1), (5, .i2l, 1), (6, .lconst 0, 1), (7, .ldc2_w 316, 3), (10, .invokestatic 88, 3), (13, .ifCond .eq 27, 3), (16, .iload_n 2, 1), (17, .invokestatic 160, 3), (20, .ifCond .eq 20, 3), (23, .iload_n 3, 1), (24, .invokestatic 116, 3), (27, .ifCond .eq 13, 3), (30, .aload_n 0, 1), (31, .iload_n 1, 1), (32, .iload_n 2, 1), (33, .iload_n 3, 1), (34, .invokevirtual 318, 3), (37, .goto 8, 3), (40, .bipush (-2), 2), (42, .invokestatic 322, 3), (45, .lreturn, 1)]
theorem dX7_chance : dOk cX7_chance tX7_chance = true := by decide +kernel
abbrev rX7_chance : Room := { frames := 7, cells := 0, slots := 0, locals := 168 }
def wX7_chance (x1 : Int32) (x2 : Int32) (x3 : Int32) (σ : Mem) (Q : Int64 → Mem → Prop) : Prop := (wX7_find  σ (fun σ1 => (wX7_in ((x1).toInt64) (0 : Int64) (16 : Int64) σ1 (fun r10 σ10 => (((r10 = 0) → (wX7_no (-2 : Int32) σ10 (fun r42 σ42 => (Q r42 σ42)))) ∧ ((¬ r10 = 0) → (wX7_isBeat x2 σ10 (fun r17 σ17 => (((r17 = 0) → (wX7_no (-2 : Int32) σ17 (fun r42 σ42 => (Q r42 σ42)))) ∧ ((¬ r17 = 0) → (wX7_isTwo x3 σ17 (fun r24 σ24 => (((r24 = 0) → (wX7_no (-2 : Int32) σ24 (fun r42 σ42 => (Q r42 σ42)))) ∧ ((¬ r24 = 0) → (wX7_chanceOf x1 x2 x3 σ24 (fun r34 σ34 => (Q r34 σ34)))))))))))))))))
set_option maxHeartbeats 4000000 in
set_option maxRecDepth 100000 in
theorem kX7_chance (l : Launch) (E : wE) (hE : wM E) (x1 : Int32) (x2 : Int32) (x3 : Int32) (σ : Mem) (Q : Int64 → Mem → Prop) (h : wX7_chance x1 x2 x3 σ Q) : Met l yX7_chance (Cond.code yX7_chance cX7_chance 4 (some .long) :: TB) rX7_chance (wPc E σ [.ref (gE E 0), .int x1, .int x2, .int x3]) (wQl E Q) 0 0 (wA E) := by
  refine wMet (by decide) hE.2.2 (Nat.le_of_ble_eq_true rfl) ?_
  intro p e s m args below meth c ls C hr hlk hl hw
  have hx := C.1.1
  have hb := C.1.2.1
  replace C : Cx p s m args c cX7_chance 4 RX7 E (wA E) := C
  replace hl : lv_has ls 4 [(0, .ref (gE E 0)), (1, .int x1), (2, .int x2), (3, .int x3)] := hl
  unfold wX7_chance at h
  refine lv_aload_n hx hb (dAt dX7_chance 0 rfl) rfl (lv_at hl 0 rfl) ?_
  refine x_callv C hw (x_runV (As := []) (rest := []) C hw (kX7_find l E hE  σ _ h) mtX7_find lk_X7_219 (hE.1 0) (nM hE (by decide)) rfl ⟨by decide, by decide⟩ ⟨rfl, rfl⟩ rfl hl.1 rfl (Nat.le_of_ble_eq_true rfl) (dAt dX7_chance 1 rfl) ⟨Nat.zero_le _, Nat.zero_le _⟩) (fun σ1 H locs h hw => ?_)
  refine lv_iload_n hx hb (dAt dX7_chance 2 rfl) rfl (lv_at hl 1 rfl) ?_
  refine lv_i2l hx hb (dAt dX7_chance 3 rfl) rfl ?_
  refine lv_lconst (v := 0) hx hb (dAt dX7_chance 4 rfl) (by decide) ?_
  refine lv_ldc2 (v := 16) hx hb C.1.2.2.2.1 (C.1.2.2.2.2 _ ck_X7_316) (dAt dX7_chance 5 rfl) ?_
  refine x_calli C hw (x_runS (As := [.long ((x1).toInt64), .long (0 : Int64), .long (16 : Int64)]) (rest := []) C hw (kX7_in l E hE ((x1).toInt64) (0 : Int64) (16 : Int64) σ1 _ h) mtX7_in lk_X7_88 ⟨by decide, by decide⟩ ⟨rfl, rfl⟩ rfl hl.1 rfl (Nat.le_of_ble_eq_true rfl) (dAt dX7_chance 6 rfl) ⟨Nat.zero_le _, Nat.zero_le _⟩) (fun r10 σ10 H locs h hw => ?_)
  refine lv_if_eq (tgt := 40) hx hb (dAt dX7_chance 7 rfl) (by decide) (fun c13 => ?_) (fun c13 => ?_)
  · replace h := h.1 c13
    refine lv_bipush (v := -2) hx hb (dAt dX7_chance 20 rfl) (by decide) ?_
    refine x_calll C hw (x_runS (As := [.int (-2 : Int32)]) (rest := []) C hw (kX7_no l E hE (-2 : Int32) σ10 _ h) mtX7_no lk_X7_322 ⟨by decide, by decide⟩ ⟨rfl, rfl⟩ rfl hl.1 rfl (Nat.le_of_ble_eq_true rfl) (dAt dX7_chance 21 rfl) ⟨Nat.zero_le _, Nat.zero_le _⟩) (fun r42 σ42 H locs h hw => ?_)
    exact x_lret C hw hr hlk h (dAt dX7_chance 22 rfl)
  · replace h := h.2 c13
    refine lv_iload_n hx hb (dAt dX7_chance 8 rfl) rfl (lv_at hl 2 rfl) ?_
    refine x_calli C hw (x_runS (As := [.int x2]) (rest := []) C hw (kX7_isBeat l E hE x2 σ10 _ h) mtX7_isBeat lk_X7_160 ⟨by decide, by decide⟩ ⟨rfl, rfl⟩ rfl hl.1 rfl (Nat.le_of_ble_eq_true rfl) (dAt dX7_chance 9 rfl) ⟨Nat.zero_le _, Nat.zero_le _⟩) (fun r17 σ17 H locs h hw => ?_)
    refine lv_if_eq (tgt := 40) hx hb (dAt dX7_chance 10 rfl) (by decide) (fun c20 => ?_) (fun c20 => ?_)
    · replace h := h.1 c20
      refine lv_bipush (v := -2) hx hb (dAt dX7_chance 20 rfl) (by decide) ?_
      refine x_calll C hw (x_runS (As := [.int (-2 : Int32)]) (rest := []) C hw (kX7_no l E hE (-2 : Int32) σ17 _ h) mtX7_no lk_X7_322 ⟨by decide, by decide⟩ ⟨rfl, rfl⟩ rfl hl.1 rfl (Nat.le_of_ble_eq_true rfl) (dAt dX7_chance 21 rfl) ⟨Nat.zero_le _, Nat.zero_le _⟩) (fun r42 σ42 H locs h hw => ?_)
      exact x_lret C hw hr hlk h (dAt dX7_chance 22 rfl)
    · replace h := h.2 c20
      refine lv_iload_n hx hb (dAt dX7_chance 11 rfl) rfl (lv_at hl 3 rfl) ?_
      refine x_calli C hw (x_runS (As := [.int x3]) (rest := []) C hw (kX7_isTwo l E hE x3 σ17 _ h) mtX7_isTwo lk_X7_116 ⟨by decide, by decide⟩ ⟨rfl, rfl⟩ rfl hl.1 rfl (Nat.le_of_ble_eq_true rfl) (dAt dX7_chance 12 rfl) ⟨Nat.zero_le _, Nat.zero_le _⟩) (fun r24 σ24 H locs h hw => ?_)
      refine lv_if_eq (tgt := 40) hx hb (dAt dX7_chance 13 rfl) (by decide) (fun c27 => ?_) (fun c27 => ?_)
      · replace h := h.1 c27
        refine lv_bipush (v := -2) hx hb (dAt dX7_chance 20 rfl) (by decide) ?_
        refine x_calll C hw (x_runS (As := [.int (-2 : Int32)]) (rest := []) C hw (kX7_no l E hE (-2 : Int32) σ24 _ h) mtX7_no lk_X7_322 ⟨by decide, by decide⟩ ⟨rfl, rfl⟩ rfl hl.1 rfl (Nat.le_of_ble_eq_true rfl) (dAt dX7_chance 21 rfl) ⟨Nat.zero_le _, Nat.zero_le _⟩) (fun r42 σ42 H locs h hw => ?_)
        exact x_lret C hw hr hlk h (dAt dX7_chance 22 rfl)
      · replace h := h.2 c27
        refine lv_aload_n hx hb (dAt dX7_chance 14 rfl) rfl (lv_at hl 0 rfl) ?_
        refine lv_iload_n hx hb (dAt dX7_chance 15 rfl) rfl (lv_at hl 1 rfl) ?_
        refine lv_iload_n hx hb (dAt dX7_chance 16 rfl) rfl (lv_at hl 2 rfl) ?_
        refine lv_iload_n hx hb (dAt dX7_chance 17 rfl) rfl (lv_at hl 3 rfl) ?_
        refine x_calll C hw (x_runV (As := [.int x1, .int x2, .int x3]) (rest := []) C hw (kX7_chanceOf l E hE x1 x2 x3 σ24 _ h) mtX7_chanceOf lk_X7_318 (hE.1 0) (nM hE (by decide)) rfl ⟨by decide, by decide⟩ ⟨rfl, rfl⟩ rfl hl.1 rfl (Nat.le_of_ble_eq_true rfl) (dAt dX7_chance 18 rfl) ⟨Nat.zero_le _, Nat.zero_le _⟩) (fun r34 σ34 H locs h hw => ?_)
        refine lv_goto (tgt := 45) hx hb (dAt dX7_chance 19 rfl) (by decide) ?_
        exact x_lret C hw hr hlk h (dAt dX7_chance 22 rfl)
def tX7_lot : List (Nat × Instr × Nat) := [(0, .aload_n 0, 1), (1, .ldc_w 326, 3), (4, .aload_n 0, 1), (5, .getfield 327, 3), (8, .imul, 1), (9, .sipush 12345, 3), (12, .iadd, 1), (13, .putfield 327, 3), (16, .aload_n 0, 1), (17, .getfield 327, 3), (20, .bipush 16, 2), (22, .iushr, 1), (23, .iload_n 1, 1), (24, .irem, 1), (25, .ireturn, 1)]
theorem dX7_lot : dOk cX7_lot tX7_lot = true := by decide +kernel
abbrev rX7_lot : Room := { frames := 0, cells := 0, slots := 0, locals := 0 }
def wX7_lot (x1 : Int32) (σ : Mem) (Q : Int32 → Mem → Prop) : Prop := (∀ σ13 : Mem, σ13 = um σ 0 36 (((1103515245 : Int32) * (σ 0 36)) + (12345 : Int32)) → (¬ x1 = 0 ∧ (Q (((((σ13 0 36)).toUInt32 >>> (((16 : Int32)).toUInt32 &&& Int32.toUInt32 31)).toInt32) - ((((σ13 0 36)).toUInt32 >>> (((16 : Int32)).toUInt32 &&& Int32.toUInt32 31)).toInt32) / x1 * x1) σ13)))
set_option maxHeartbeats 4000000 in
set_option maxRecDepth 100000 in
theorem kX7_lot (l : Launch) (E : wE) (hE : wM E) (x1 : Int32) (σ : Mem) (Q : Int32 → Mem → Prop) (h : wX7_lot x1 σ Q) : Met l yX7_lot (Cond.code yX7_lot cX7_lot 2 (some .int) :: TB) rX7_lot (wPc E σ [.ref (gE E 0), .int x1]) (wQi E Q) 0 0 (wA E) := by
  refine wMet (by decide) hE.2.2 (Nat.le_of_ble_eq_true rfl) ?_
  intro p e s m args below meth c ls C hr hlk hl hw
  have hx := C.1.1
  have hb := C.1.2.1
  replace C : Cx p s m args c cX7_lot 2 RX7 E (wA E) := C
  replace hl : lv_has ls 2 [(0, .ref (gE E 0)), (1, .int x1)] := hl
  unfold wX7_lot at h
  refine lv_aload_n hx hb (dAt dX7_lot 0 rfl) rfl (lv_at hl 0 rfl) ?_
  refine lv_ldcw (v := 1103515245) hx hb C.1.2.2.2.1 (C.1.2.2.2.2 _ ck_X7_326) (dAt dX7_lot 1 rfl) ?_
  refine lv_aload_n hx hb (dAt dX7_lot 2 rfl) rfl (lv_at hl 0 rfl) ?_
  refine x_geti C hw fl_X7_327 (hE.1 0) (nM hE (by decide)) rfl (dAt dX7_lot 3 rfl) ?_
  refine lv_imul hx hb (dAt dX7_lot 4 rfl) ?_
  refine lv_sipush (v := 12345) hx hb (dAt dX7_lot 5 rfl) (by decide) ?_
  refine lv_iadd hx hb (dAt dX7_lot 6 rfl) ?_
  refine x_pf C hw fl_X7_327 (hE.1 0) (nM hE (by decide)) rfl rfl rfl (dAt dX7_lot 7 rfl) (fun σ13 H locs eσ13 hw => ?_)
  replace h := h σ13 eσ13
  refine lv_aload_n hx hb (dAt dX7_lot 8 rfl) rfl (lv_at hl 0 rfl) ?_
  refine x_geti C hw fl_X7_327 (hE.1 0) (nM hE (by decide)) rfl (dAt dX7_lot 9 rfl) ?_
  refine lv_bipush (v := 16) hx hb (dAt dX7_lot 10 rfl) (by decide) ?_
  refine lv_iushr hx hb (dAt dX7_lot 11 rfl) rfl ?_
  refine lv_iload_n hx hb (dAt dX7_lot 12 rfl) rfl (lv_at hl 1 rfl) ?_
  obtain ⟨z24, h⟩ := h
  refine lv_irem hx hb (dAt dX7_lot 13 rfl) z24 ?_
  exact x_iret C hw hr hlk h (dAt dX7_lot 14 rfl)
def tX7_dancesOf : List (Nat × Instr × Nat) := [(0, .aload_n 0, 1), (1, .iload_n 1, 1), (2, .putfield 327, 3), (5, .iconst 0, 1), (6, .istore 4, 2), (8, .iload 4, 2), (10, .bipush 24, 2), (12, .if_icmp .ge 31, 3), (15, .aload_n 0, 1), (16, .getfield 31, 3), (19, .iload 4, 2), (21, .iload 4, 2), (23, .iload_n 2, 1), (24, .if_icmp .ge 11, 3), (27, .aload_n 0, 1), (28, .iconst 4, 1), (29, .invokevirtual 330, 3), (32, .goto 4, 3), (35, .iconst 2, 1), (36, .iastore, 1), (37, .iinc 4 1, 3), (40, .goto (-32), 3), (43, .aload_n 0, 1), (44, .invokevirtual 216, 3), (47, .iload_n 3, 1), (48, .ifCond .ne 10, 3), (51, .aload_n 0, 1), (52, .getfield 178, 3), (55, .goto 7, 3), (58, .aload_n 0, 1), (59, .getfield 181, 3), (62, .istore 4, 2), (64, .aload_n 0, 1), (65, .invokevirtual 149, 3), (68, .pop, 1), (69, .iload 4, 2), (71, .ireturn, 1)]
theorem dX7_dancesOf : dOk cX7_dancesOf tX7_dancesOf = true := by decide +kernel
abbrev rX7_dancesOf : Room := { frames := 6, cells := 0, slots := 0, locals := 139 }
def wX7_dancesOf_62 (Q : Int32 → Mem → Prop) (y0 : Int32) (σ : Mem) : Prop := (wX7_readsSteps  σ (fun r65 σ65 => (Q y0 σ65)))
def wX7_dancesOf_43 (Q : Int32 → Mem → Prop) (x3 : Int32) (σ : Mem) : Prop := (wX7_lives  σ (fun σ44 => (wX7_dancesOf_62 Q (if x3 = 0 then (σ44 0 20) else (σ44 0 27)) σ44)))
def wX7_dancesOf_8 (Q : Int32 → Mem → Prop) : Nat → Int32 → Int32 → Int32 → Mem → Prop
  | 0, _, _, _, _ => False
  | n + 1, x2, x3, x4, σ => ((((24 : Int32) ≤ x4) → (wX7_dancesOf_43 Q x3 σ)) ∧ ((¬ (24 : Int32) ≤ x4) → (((x2 ≤ x4) → (vp_in x4 24 ∧ (∀ σ36 : Mem, σ36 = um σ 8 (x4).toNatClampNeg (2 : Int32) → (wX7_dancesOf_8 Q n x2 x3 (x4 + (1 : Int32)) σ36)))) ∧ ((¬ x2 ≤ x4) → (wX7_lot (4 : Int32) σ (fun r29 σ29 => (vp_in x4 24 ∧ (∀ σ36 : Mem, σ36 = um σ29 8 (x4).toNatClampNeg r29 → (wX7_dancesOf_8 Q n x2 x3 (x4 + (1 : Int32)) σ36)))))))))
def wX7_dancesOf (x1 : Int32) (x2 : Int32) (x3 : Int32) (σ : Mem) (Q : Int32 → Mem → Prop) : Prop := (∀ σ2 : Mem, σ2 = um σ 0 36 x1 → (∃ N8, wX7_dancesOf_8 Q N8 x2 x3 (0 : Int32) σ2))
set_option maxHeartbeats 4000000 in
set_option maxRecDepth 100000 in
theorem kX7_dancesOf_62 {p : Program} {l : Launch} {e : Env} {s : State} {m : MethodId} {args : Array Value} {below : List Frame} {meth : Method} {c : Code} {E : wE} (hE : wM E) (C : Cx p s m args c cX7_dancesOf 5 RX7 E (wA E)) (hr : meth.sig.returnType = (some .int)) (hlk : meth.locks = false) {Q : Int32 → Mem → Prop} : ∀ (y0 : Int32) (σ : Mem) (H : Heap) (locs : List Loc) (ls : Array Slot), wd E (wA E) s σ H locs → lv_has ls 5 [(0, .ref (gE E 0))] → wX7_dancesOf_62 Q y0 σ → W p l e rX7_dancesOf s m args below meth c H locs 0 0 (MQ below (wQi E Q) args s 0 0 (wA E)) (F0 m 62 ls [.int y0]) := by
  have hx := C.1.1
  have hb := C.1.2.1
  intro y0 σ  H locs ls hw hl h
  unfold wX7_dancesOf_62 at h
  refine lv_istore (lv' := [(4, .int y0), (0, .ref (gE E 0))]) hx hb (dAt dX7_dancesOf 31 rfl) hl (by decide) rfl (fun ls hl => ?_)
  refine lv_aload_n hx hb (dAt dX7_dancesOf 32 rfl) rfl (lv_at hl 1 rfl) ?_
  refine x_calli C hw (x_runV (As := []) (rest := []) C hw (kX7_readsSteps l E hE  σ _ h) mtX7_readsSteps lk_X7_149 (hE.1 0) (nM hE (by decide)) rfl ⟨by decide, by decide⟩ ⟨rfl, rfl⟩ rfl hl.1 rfl (Nat.le_of_ble_eq_true rfl) (dAt dX7_dancesOf 33 rfl) ⟨Nat.zero_le _, Nat.zero_le _⟩) (fun r65 σ65 H locs h hw => ?_)
  refine lv_pop hx hb (dAt dX7_dancesOf 34 rfl) rfl ?_
  refine lv_iload hx hb (dAt dX7_dancesOf 35 rfl) (lv_at hl 0 rfl) ?_
  exact x_iret C hw hr hlk h (dAt dX7_dancesOf 36 rfl)
set_option maxHeartbeats 4000000 in
set_option maxRecDepth 100000 in
theorem kX7_dancesOf_43 {p : Program} {l : Launch} {e : Env} {s : State} {m : MethodId} {args : Array Value} {below : List Frame} {meth : Method} {c : Code} {E : wE} (hE : wM E) (C : Cx p s m args c cX7_dancesOf 5 RX7 E (wA E)) (hr : meth.sig.returnType = (some .int)) (hlk : meth.locks = false) {Q : Int32 → Mem → Prop} : ∀ (x3 : Int32) (σ : Mem) (H : Heap) (locs : List Loc) (ls : Array Slot), wd E (wA E) s σ H locs → lv_has ls 5 [(0, .ref (gE E 0)), (3, .int x3)] → wX7_dancesOf_43 Q x3 σ → W p l e rX7_dancesOf s m args below meth c H locs 0 0 (MQ below (wQi E Q) args s 0 0 (wA E)) (F0 m 43 ls []) := by
  have hx := C.1.1
  have hb := C.1.2.1
  intro x3 σ  H locs ls hw hl h
  unfold wX7_dancesOf_43 at h
  refine lv_aload_n hx hb (dAt dX7_dancesOf 22 rfl) rfl (lv_at hl 0 rfl) ?_
  refine x_callv C hw (x_runV (As := []) (rest := []) C hw (kX7_lives l E hE  σ _ h) mtX7_lives lk_X7_216 (hE.1 0) (nM hE (by decide)) rfl ⟨by decide, by decide⟩ ⟨rfl, rfl⟩ rfl hl.1 rfl (Nat.le_of_ble_eq_true rfl) (dAt dX7_dancesOf 23 rfl) ⟨Nat.zero_le _, Nat.zero_le _⟩) (fun σ44 H locs h hw => ?_)
  refine lv_iload_n hx hb (dAt dX7_dancesOf 24 rfl) rfl (lv_at hl 1 rfl) ?_
  refine x_dia (ls := ls) (pcJ := 62) (cnd := x3 = 0) (a := (σ44 0 20)) (b := (σ44 0 27)) ([]) ?_ (fun ht48 hf48 => ?_)
  · exact kX7_dancesOf_62 hE C hr hlk (if x3 = 0 then (σ44 0 20) else (σ44 0 27)) σ44  _ _ _ hw (lv_sub hl [0] rfl) h
  · refine lv_if_ne (tgt := 58) hx hb (dAt dX7_dancesOf 25 rfl) (by decide) (fun c48 => ?_) (fun c48 => ?_)
    · refine lv_aload_n hx hb (dAt dX7_dancesOf 29 rfl) rfl (lv_at hl 0 rfl) ?_
      refine x_geti C hw fl_X7_181 (hE.1 0) (nM hE (by decide)) rfl (dAt dX7_dancesOf 30 rfl) ?_
      exact hf48 c48
    · refine lv_aload_n hx hb (dAt dX7_dancesOf 26 rfl) rfl (lv_at hl 0 rfl) ?_
      refine x_geti C hw fl_X7_178 (hE.1 0) (nM hE (by decide)) rfl (dAt dX7_dancesOf 27 rfl) ?_
      refine lv_goto (tgt := 62) hx hb (dAt dX7_dancesOf 28 rfl) (by decide) ?_
      exact ht48 c48
set_option maxHeartbeats 4000000 in
set_option maxRecDepth 100000 in
theorem kX7_dancesOf_8 {p : Program} {l : Launch} {e : Env} {s : State} {m : MethodId} {args : Array Value} {below : List Frame} {meth : Method} {c : Code} {E : wE} (hE : wM E) (C : Cx p s m args c cX7_dancesOf 5 RX7 E (wA E)) (hr : meth.sig.returnType = (some .int)) (hlk : meth.locks = false) {Q : Int32 → Mem → Prop} : ∀ (n : Nat) (x2 : Int32) (x3 : Int32) (x4 : Int32) (σ : Mem) (H : Heap) (locs : List Loc) (ls : Array Slot), wd E (wA E) s σ H locs → lv_has ls 5 [(0, .ref (gE E 0)), (2, .int x2), (3, .int x3), (4, .int x4)] → wX7_dancesOf_8 Q n x2 x3 x4 σ → W p l e rX7_dancesOf s m args below meth c H locs 0 0 (MQ below (wQi E Q) args s 0 0 (wA E)) (F0 m 8 ls []) := by
  have hx := C.1.1
  have hb := C.1.2.1
  intro n
  induction n with
  | zero =>
    intro x2 x3 x4 σ  H locs ls hw hl h
    exact h.elim
  | succ n ih =>
    intro x2 x3 x4 σ  H locs ls hw hl h
    rw [wX7_dancesOf_8] at h
    refine lv_iload hx hb (dAt dX7_dancesOf 5 rfl) (lv_at hl 3 rfl) ?_
    refine lv_bipush (v := 24) hx hb (dAt dX7_dancesOf 6 rfl) (by decide) ?_
    refine lv_icmp_ge (tgt := 43) hx hb (dAt dX7_dancesOf 7 rfl) (by decide) (fun c12 => ?_) (fun c12 => ?_)
    · replace h := h.1 c12
      exact kX7_dancesOf_43 hE C hr hlk x3 σ  _ _ _ hw (lv_sub hl [0, 2] rfl) h
    · replace h := h.2 c12
      refine lv_aload_n hx hb (dAt dX7_dancesOf 8 rfl) rfl (lv_at hl 0 rfl) ?_
      refine x_getr C hw fl_X7_31 (hE.1 0) (nM hE (by decide)) rfl (dAt dX7_dancesOf 9 rfl) ?_
      refine lv_iload hx hb (dAt dX7_dancesOf 10 rfl) (lv_at hl 3 rfl) ?_
      refine lv_iload hx hb (dAt dX7_dancesOf 11 rfl) (lv_at hl 3 rfl) ?_
      refine lv_iload_n hx hb (dAt dX7_dancesOf 12 rfl) rfl (lv_at hl 1 rfl) ?_
      refine lv_icmp_ge (tgt := 35) hx hb (dAt dX7_dancesOf 13 rfl) (by decide) (fun c24 => ?_) (fun c24 => ?_)
      · replace h := h.1 c24
        refine lv_iconst (v := 2) hx hb (dAt dX7_dancesOf 18 rfl) (by decide) ?_
        obtain ⟨z36, h⟩ := h
        refine x_ist C hw (hE.1 8) (nM hE (by decide)) z36 rfl (dAt dX7_dancesOf 19 rfl) (fun σ36 H locs eσ36 hw => ?_)
        replace h := h σ36 eσ36
        refine lv_iinc (v := (x4 + (1 : Int32))) (lv' := [(4, .int (x4 + (1 : Int32))), (0, .ref (gE E 0)), (2, .int x2), (3, .int x3)]) hx hb (dAt dX7_dancesOf 20 rfl) hl (k := 3) rfl rfl (by decide) rfl (fun ls hl => ?_)
        refine lv_goto (tgt := 8) hx hb (dAt dX7_dancesOf 21 rfl) (by decide) ?_
        exact ih x2 x3 (x4 + (1 : Int32)) σ36  _ _ _ hw (lv_sub hl [1, 2, 3, 0] rfl) h
      · replace h := h.2 c24
        refine lv_aload_n hx hb (dAt dX7_dancesOf 14 rfl) rfl (lv_at hl 0 rfl) ?_
        refine lv_iconst (v := 4) hx hb (dAt dX7_dancesOf 15 rfl) (by decide) ?_
        refine x_calli C hw (x_runV (As := [.int (4 : Int32)]) (rest := [.int x4, .ref (gE E 8)]) C hw (kX7_lot l E hE (4 : Int32) σ _ h) mtX7_lot lk_X7_330 (hE.1 0) (nM hE (by decide)) rfl ⟨by decide, by decide⟩ ⟨rfl, rfl⟩ rfl hl.1 rfl (Nat.le_of_ble_eq_true rfl) (dAt dX7_dancesOf 16 rfl) ⟨Nat.zero_le _, Nat.zero_le _⟩) (fun r29 σ29 H locs h hw => ?_)
        refine lv_goto (tgt := 36) hx hb (dAt dX7_dancesOf 17 rfl) (by decide) ?_
        obtain ⟨z36, h⟩ := h
        refine x_ist C hw (hE.1 8) (nM hE (by decide)) z36 rfl (dAt dX7_dancesOf 19 rfl) (fun σ36 H locs eσ36 hw => ?_)
        replace h := h σ36 eσ36
        refine lv_iinc (v := (x4 + (1 : Int32))) (lv' := [(4, .int (x4 + (1 : Int32))), (0, .ref (gE E 0)), (2, .int x2), (3, .int x3)]) hx hb (dAt dX7_dancesOf 20 rfl) hl (k := 3) rfl rfl (by decide) rfl (fun ls hl => ?_)
        refine lv_goto (tgt := 8) hx hb (dAt dX7_dancesOf 21 rfl) (by decide) ?_
        exact ih x2 x3 (x4 + (1 : Int32)) σ36  _ _ _ hw (lv_sub hl [1, 2, 3, 0] rfl) h
set_option maxHeartbeats 4000000 in
set_option maxRecDepth 100000 in
theorem kX7_dancesOf (l : Launch) (E : wE) (hE : wM E) (x1 : Int32) (x2 : Int32) (x3 : Int32) (σ : Mem) (Q : Int32 → Mem → Prop) (h : wX7_dancesOf x1 x2 x3 σ Q) : Met l yX7_dancesOf (Cond.code yX7_dancesOf cX7_dancesOf 5 (some .int) :: TB) rX7_dancesOf (wPc E σ [.ref (gE E 0), .int x1, .int x2, .int x3]) (wQi E Q) 0 0 (wA E) := by
  refine wMet (by decide) hE.2.2 (Nat.le_of_ble_eq_true rfl) ?_
  intro p e s m args below meth c ls C hr hlk hl hw
  have hx := C.1.1
  have hb := C.1.2.1
  replace C : Cx p s m args c cX7_dancesOf 5 RX7 E (wA E) := C
  replace hl : lv_has ls 5 [(0, .ref (gE E 0)), (1, .int x1), (2, .int x2), (3, .int x3)] := hl
  unfold wX7_dancesOf at h
  refine lv_aload_n hx hb (dAt dX7_dancesOf 0 rfl) rfl (lv_at hl 0 rfl) ?_
  refine lv_iload_n hx hb (dAt dX7_dancesOf 1 rfl) rfl (lv_at hl 1 rfl) ?_
  refine x_pf C hw fl_X7_327 (hE.1 0) (nM hE (by decide)) rfl rfl rfl (dAt dX7_dancesOf 2 rfl) (fun σ2 H locs eσ2 hw => ?_)
  replace h := h σ2 eσ2
  refine lv_iconst (v := 0) hx hb (dAt dX7_dancesOf 3 rfl) (by decide) ?_
  refine lv_istore (lv' := [(4, .int (0 : Int32)), (0, .ref (gE E 0)), (1, .int x1), (2, .int x2), (3, .int x3)]) hx hb (dAt dX7_dancesOf 4 rfl) hl (by decide) rfl (fun ls hl => ?_)
  obtain ⟨n8, h⟩ := h
  exact kX7_dancesOf_8 hE C hr hlk n8 x2 x3 (0 : Int32) σ2  _ _ _ hw (lv_sub hl [1, 3, 4, 0] rfl) h
def tX7_dances : List (Nat × Instr × Nat) := [(0, .aload_n 0, 1), (1, .invokevirtual 219, 3), (4, .iload_n 2, 1), (5, .i2l, 1), (6, .lconst 0, 1), (7, .ldc2_w 333, 3), (10, .invokestatic 88, 3), (13, .ifCond .eq 20, 3), (16, .iload_n 3, 1), (17, .invokestatic 116, 3), (20, .ifCond .eq 13, 3), (23, .aload_n 0, 1), (24, .iload_n 1, 1), (25, .iload_n 2, 1), (26, .iload_n 3, 1), (27, .invokevirtual 335, 3), (30, .goto 5, 3), (33, .bipush (-2), 2), (35, .ireturn, 1)]
theorem dX7_dances : dOk cX7_dances tX7_dances = true := by decide +kernel
abbrev rX7_dances : Room := { frames := 7, cells := 0, slots := 0, locals := 163 }
def wX7_dances (x1 : Int32) (x2 : Int32) (x3 : Int32) (σ : Mem) (Q : Int32 → Mem → Prop) : Prop := (wX7_find  σ (fun σ1 => (wX7_in ((x2).toInt64) (0 : Int64) (24 : Int64) σ1 (fun r10 σ10 => (((r10 = 0) → (Q (-2 : Int32) σ10)) ∧ ((¬ r10 = 0) → (wX7_isTwo x3 σ10 (fun r17 σ17 => (((r17 = 0) → (Q (-2 : Int32) σ17)) ∧ ((¬ r17 = 0) → (wX7_dancesOf x1 x2 x3 σ17 (fun r27 σ27 => (Q r27 σ27)))))))))))))
set_option maxHeartbeats 4000000 in
set_option maxRecDepth 100000 in
theorem kX7_dances (l : Launch) (E : wE) (hE : wM E) (x1 : Int32) (x2 : Int32) (x3 : Int32) (σ : Mem) (Q : Int32 → Mem → Prop) (h : wX7_dances x1 x2 x3 σ Q) : Met l yX7_dances (Cond.code yX7_dances cX7_dances 4 (some .int) :: TB) rX7_dances (wPc E σ [.ref (gE E 0), .int x1, .int x2, .int x3]) (wQi E Q) 0 0 (wA E) := by
  refine wMet (by decide) hE.2.2 (Nat.le_of_ble_eq_true rfl) ?_
  intro p e s m args below meth c ls C hr hlk hl hw
  have hx := C.1.1
  have hb := C.1.2.1
  replace C : Cx p s m args c cX7_dances 4 RX7 E (wA E) := C
  replace hl : lv_has ls 4 [(0, .ref (gE E 0)), (1, .int x1), (2, .int x2), (3, .int x3)] := hl
  unfold wX7_dances at h
  refine lv_aload_n hx hb (dAt dX7_dances 0 rfl) rfl (lv_at hl 0 rfl) ?_
  refine x_callv C hw (x_runV (As := []) (rest := []) C hw (kX7_find l E hE  σ _ h) mtX7_find lk_X7_219 (hE.1 0) (nM hE (by decide)) rfl ⟨by decide, by decide⟩ ⟨rfl, rfl⟩ rfl hl.1 rfl (Nat.le_of_ble_eq_true rfl) (dAt dX7_dances 1 rfl) ⟨Nat.zero_le _, Nat.zero_le _⟩) (fun σ1 H locs h hw => ?_)
  refine lv_iload_n hx hb (dAt dX7_dances 2 rfl) rfl (lv_at hl 2 rfl) ?_
  refine lv_i2l hx hb (dAt dX7_dances 3 rfl) rfl ?_
  refine lv_lconst (v := 0) hx hb (dAt dX7_dances 4 rfl) (by decide) ?_
  refine lv_ldc2 (v := 24) hx hb C.1.2.2.2.1 (C.1.2.2.2.2 _ ck_X7_333) (dAt dX7_dances 5 rfl) ?_
  refine x_calli C hw (x_runS (As := [.long ((x2).toInt64), .long (0 : Int64), .long (24 : Int64)]) (rest := []) C hw (kX7_in l E hE ((x2).toInt64) (0 : Int64) (24 : Int64) σ1 _ h) mtX7_in lk_X7_88 ⟨by decide, by decide⟩ ⟨rfl, rfl⟩ rfl hl.1 rfl (Nat.le_of_ble_eq_true rfl) (dAt dX7_dances 6 rfl) ⟨Nat.zero_le _, Nat.zero_le _⟩) (fun r10 σ10 H locs h hw => ?_)
  refine lv_if_eq (tgt := 33) hx hb (dAt dX7_dances 7 rfl) (by decide) (fun c13 => ?_) (fun c13 => ?_)
  · replace h := h.1 c13
    refine lv_bipush (v := -2) hx hb (dAt dX7_dances 17 rfl) (by decide) ?_
    exact x_iret C hw hr hlk h (dAt dX7_dances 18 rfl)
  · replace h := h.2 c13
    refine lv_iload_n hx hb (dAt dX7_dances 8 rfl) rfl (lv_at hl 3 rfl) ?_
    refine x_calli C hw (x_runS (As := [.int x3]) (rest := []) C hw (kX7_isTwo l E hE x3 σ10 _ h) mtX7_isTwo lk_X7_116 ⟨by decide, by decide⟩ ⟨rfl, rfl⟩ rfl hl.1 rfl (Nat.le_of_ble_eq_true rfl) (dAt dX7_dances 9 rfl) ⟨Nat.zero_le _, Nat.zero_le _⟩) (fun r17 σ17 H locs h hw => ?_)
    refine lv_if_eq (tgt := 33) hx hb (dAt dX7_dances 10 rfl) (by decide) (fun c20 => ?_) (fun c20 => ?_)
    · replace h := h.1 c20
      refine lv_bipush (v := -2) hx hb (dAt dX7_dances 17 rfl) (by decide) ?_
      exact x_iret C hw hr hlk h (dAt dX7_dances 18 rfl)
    · replace h := h.2 c20
      refine lv_aload_n hx hb (dAt dX7_dances 11 rfl) rfl (lv_at hl 0 rfl) ?_
      refine lv_iload_n hx hb (dAt dX7_dances 12 rfl) rfl (lv_at hl 1 rfl) ?_
      refine lv_iload_n hx hb (dAt dX7_dances 13 rfl) rfl (lv_at hl 2 rfl) ?_
      refine lv_iload_n hx hb (dAt dX7_dances 14 rfl) rfl (lv_at hl 3 rfl) ?_
      refine x_calli C hw (x_runV (As := [.int x1, .int x2, .int x3]) (rest := []) C hw (kX7_dancesOf l E hE x1 x2 x3 σ17 _ h) mtX7_dancesOf lk_X7_335 (hE.1 0) (nM hE (by decide)) rfl ⟨by decide, by decide⟩ ⟨rfl, rfl⟩ rfl hl.1 rfl (Nat.le_of_ble_eq_true rfl) (dAt dX7_dances 15 rfl) ⟨Nat.zero_le _, Nat.zero_le _⟩) (fun r27 σ27 H locs h hw => ?_)
      refine lv_goto (tgt := 35) hx hb (dAt dX7_dances 16 rfl) (by decide) ?_
      exact x_iret C hw hr hlk h (dAt dX7_dances 18 rfl)
def tX7_write : List (Nat × Instr × Nat) := [(0, .iload_n 1, 1), (1, .invokestatic 97, 3), (4, .ifCond .ne 6, 3), (7, .bipush (-2), 2), (9, .ireturn, 1), (10, .aload_n 0, 1), (11, .getfield 7, 3), (14, .iload_n 1, 1), (15, .iaload, 1), (16, .ifCond .ge 9, 3), (19, .aload_n 0, 1), (20, .iconst 1, 1), (21, .invokevirtual 103, 3), (24, .ireturn, 1), (25, .aload_n 0, 1), (26, .invokevirtual 219, 3), (29, .aload_n 0, 1), (30, .getfield 13, 3), (33, .iload_n 1, 1), (34, .iaload, 1), (35, .aload_n 0, 1), (36, .getfield 178, 3), (39, .invokestatic 274, 3), (42, .istore_n 2, 1), (43, .iconst 0, 1), (44, .istore_n 3, 1), (45, .iload_n 3, 1), (46, .iload_n 2, 1), (47, .if_icmp .ge 34, 3), (50, .aload_n 0, 1), (51, .getfield 16, 3), (54, .bipush 60, 2), (56, .iload_n 1, 1), (57, .imul, 1), (58, .iload_n 3, 1), (59, .iadd, 1), (60, .aload_n 0, 1), (61, .getfield 7, 3), (64, .iload_n 1, 1), (65, .iaload, 1), (66, .aload_n 0, 1), (67, .iload_n 3, 1), (68, .invokevirtual 233, 3), (71, .invokestatic 111, 3), (74, .iastore, 1), (75, .iinc 3 1, 3), (78, .goto (-33), 3), (81, .iload_n 2, 1), (82, .ireturn, 1)]
theorem dX7_write : dOk cX7_write tX7_write = true := by decide +kernel
abbrev rX7_write : Room := { frames := 7, cells := 0, slots := 0, locals := 159 }
def wX7_write_45 (Q : Int32 → Mem → Prop) : Nat → Int32 → Int32 → Int32 → Mem → Prop
  | 0, _, _, _, _ => False
  | n + 1, x1, x2, x3, σ => (((x2 ≤ x3) → (Q x2 σ)) ∧ ((¬ x2 ≤ x3) → (vp_in x1 4 ∧ (wX7_colourOf x3 σ (fun r68 σ68 => (wX7_cut (σ 1 (x1).toNatClampNeg) r68 σ68 (fun r71 σ71 => (vp_in (((60 : Int32) * x1) + x3) 240 ∧ (∀ σ74 : Mem, σ74 = um σ71 3 ((((60 : Int32) * x1) + x3)).toNatClampNeg r71 → (wX7_write_45 Q n x1 x2 (x3 + (1 : Int32)) σ74))))))))))
def wX7_write (x1 : Int32) (σ : Mem) (Q : Int32 → Mem → Prop) : Prop := (wX7_isSheet x1 σ (fun r1 σ1 => (((¬ r1 = 0) → (vp_in x1 4 ∧ (((0 ≤ (σ1 1 (x1).toNatClampNeg)) → (wX7_find  σ1 (fun σ26 => (vp_in x1 4 ∧ (wX7_lesser (σ26 2 (x1).toNatClampNeg) (σ26 0 20) σ26 (fun r39 σ39 => (∃ N45, wX7_write_45 Q N45 x1 r39 (0 : Int32) σ39))))))) ∧ ((¬ 0 ≤ (σ1 1 (x1).toNatClampNeg)) → (wX7_finds (1 : Int32) σ1 (fun r21 σ21 => (Q r21 σ21))))))) ∧ ((r1 = 0) → (Q (-2 : Int32) σ1)))))
set_option maxHeartbeats 4000000 in
set_option maxRecDepth 100000 in
theorem kX7_write_45 {p : Program} {l : Launch} {e : Env} {s : State} {m : MethodId} {args : Array Value} {below : List Frame} {meth : Method} {c : Code} {E : wE} (hE : wM E) (C : Cx p s m args c cX7_write 4 RX7 E (wA E)) (hr : meth.sig.returnType = (some .int)) (hlk : meth.locks = false) {Q : Int32 → Mem → Prop} : ∀ (n : Nat) (x1 : Int32) (x2 : Int32) (x3 : Int32) (σ : Mem) (H : Heap) (locs : List Loc) (ls : Array Slot), wd E (wA E) s σ H locs → lv_has ls 4 [(0, .ref (gE E 0)), (1, .int x1), (2, .int x2), (3, .int x3)] → wX7_write_45 Q n x1 x2 x3 σ → W p l e rX7_write s m args below meth c H locs 0 0 (MQ below (wQi E Q) args s 0 0 (wA E)) (F0 m 45 ls []) := by
  have hx := C.1.1
  have hb := C.1.2.1
  intro n
  induction n with
  | zero =>
    intro x1 x2 x3 σ  H locs ls hw hl h
    exact h.elim
  | succ n ih =>
    intro x1 x2 x3 σ  H locs ls hw hl h
    rw [wX7_write_45] at h
    refine lv_iload_n hx hb (dAt dX7_write 26 rfl) rfl (lv_at hl 3 rfl) ?_
    refine lv_iload_n hx hb (dAt dX7_write 27 rfl) rfl (lv_at hl 2 rfl) ?_
    refine lv_icmp_ge (tgt := 81) hx hb (dAt dX7_write 28 rfl) (by decide) (fun c47 => ?_) (fun c47 => ?_)
    · replace h := h.1 c47
      refine lv_iload_n hx hb (dAt dX7_write 47 rfl) rfl (lv_at hl 2 rfl) ?_
      exact x_iret C hw hr hlk h (dAt dX7_write 48 rfl)
    · replace h := h.2 c47
      refine lv_aload_n hx hb (dAt dX7_write 29 rfl) rfl (lv_at hl 0 rfl) ?_
      refine x_getr C hw fl_X7_16 (hE.1 0) (nM hE (by decide)) rfl (dAt dX7_write 30 rfl) ?_
      refine lv_bipush (v := 60) hx hb (dAt dX7_write 31 rfl) (by decide) ?_
      refine lv_iload_n hx hb (dAt dX7_write 32 rfl) rfl (lv_at hl 1 rfl) ?_
      refine lv_imul hx hb (dAt dX7_write 33 rfl) ?_
      refine lv_iload_n hx hb (dAt dX7_write 34 rfl) rfl (lv_at hl 3 rfl) ?_
      refine lv_iadd hx hb (dAt dX7_write 35 rfl) ?_
      refine lv_aload_n hx hb (dAt dX7_write 36 rfl) rfl (lv_at hl 0 rfl) ?_
      refine x_getr C hw fl_X7_7 (hE.1 0) (nM hE (by decide)) rfl (dAt dX7_write 37 rfl) ?_
      refine lv_iload_n hx hb (dAt dX7_write 38 rfl) rfl (lv_at hl 1 rfl) ?_
      obtain ⟨z65, h⟩ := h
      refine x_ild C hw (hE.1 1) (nM hE (by decide)) z65 rfl (dAt dX7_write 39 rfl) ?_
      refine lv_aload_n hx hb (dAt dX7_write 40 rfl) rfl (lv_at hl 0 rfl) ?_
      refine lv_iload_n hx hb (dAt dX7_write 41 rfl) rfl (lv_at hl 3 rfl) ?_
      refine x_calli C hw (x_runV (As := [.int x3]) (rest := [.int (σ 1 (x1).toNatClampNeg), .int (((60 : Int32) * x1) + x3), .ref (gE E 3)]) C hw (kX7_colourOf l E hE x3 σ _ h) mtX7_colourOf lk_X7_233 (hE.1 0) (nM hE (by decide)) rfl ⟨by decide, by decide⟩ ⟨rfl, rfl⟩ rfl hl.1 rfl (Nat.le_of_ble_eq_true rfl) (dAt dX7_write 42 rfl) ⟨Nat.zero_le _, Nat.zero_le _⟩) (fun r68 σ68 H locs h hw => ?_)
      refine x_calli C hw (x_runS (As := [.int (σ 1 (x1).toNatClampNeg), .int r68]) (rest := [.int (((60 : Int32) * x1) + x3), .ref (gE E 3)]) C hw (kX7_cut l E hE (σ 1 (x1).toNatClampNeg) r68 σ68 _ h) mtX7_cut lk_X7_111 ⟨by decide, by decide⟩ ⟨rfl, rfl⟩ rfl hl.1 rfl (Nat.le_of_ble_eq_true rfl) (dAt dX7_write 43 rfl) ⟨Nat.zero_le _, Nat.zero_le _⟩) (fun r71 σ71 H locs h hw => ?_)
      obtain ⟨z74, h⟩ := h
      refine x_ist C hw (hE.1 3) (nM hE (by decide)) z74 rfl (dAt dX7_write 44 rfl) (fun σ74 H locs eσ74 hw => ?_)
      replace h := h σ74 eσ74
      refine lv_iinc (v := (x3 + (1 : Int32))) (lv' := [(3, .int (x3 + (1 : Int32))), (0, .ref (gE E 0)), (1, .int x1), (2, .int x2)]) hx hb (dAt dX7_write 45 rfl) hl (k := 3) rfl rfl (by decide) rfl (fun ls hl => ?_)
      refine lv_goto (tgt := 45) hx hb (dAt dX7_write 46 rfl) (by decide) ?_
      exact ih x1 x2 (x3 + (1 : Int32)) σ74  _ _ _ hw (lv_sub hl [1, 2, 3, 0] rfl) h
set_option maxHeartbeats 4000000 in
set_option maxRecDepth 100000 in
theorem kX7_write (l : Launch) (E : wE) (hE : wM E) (x1 : Int32) (σ : Mem) (Q : Int32 → Mem → Prop) (h : wX7_write x1 σ Q) : Met l yX7_write (Cond.code yX7_write cX7_write 4 (some .int) :: TB) rX7_write (wPc E σ [.ref (gE E 0), .int x1]) (wQi E Q) 0 0 (wA E) := by
  refine wMet (by decide) hE.2.2 (Nat.le_of_ble_eq_true rfl) ?_
  intro p e s m args below meth c ls C hr hlk hl hw
  have hx := C.1.1
  have hb := C.1.2.1
  replace C : Cx p s m args c cX7_write 4 RX7 E (wA E) := C
  replace hl : lv_has ls 4 [(0, .ref (gE E 0)), (1, .int x1)] := hl
  unfold wX7_write at h
  refine lv_iload_n hx hb (dAt dX7_write 0 rfl) rfl (lv_at hl 1 rfl) ?_
  refine x_calli C hw (x_runS (As := [.int x1]) (rest := []) C hw (kX7_isSheet l E hE x1 σ _ h) mtX7_isSheet lk_X7_97 ⟨by decide, by decide⟩ ⟨rfl, rfl⟩ rfl hl.1 rfl (Nat.le_of_ble_eq_true rfl) (dAt dX7_write 1 rfl) ⟨Nat.zero_le _, Nat.zero_le _⟩) (fun r1 σ1 H locs h hw => ?_)
  refine lv_if_ne (tgt := 10) hx hb (dAt dX7_write 2 rfl) (by decide) (fun c4 => ?_) (fun c4 => ?_)
  · replace h := h.1 c4
    refine lv_aload_n hx hb (dAt dX7_write 5 rfl) rfl (lv_at hl 0 rfl) ?_
    refine x_getr C hw fl_X7_7 (hE.1 0) (nM hE (by decide)) rfl (dAt dX7_write 6 rfl) ?_
    refine lv_iload_n hx hb (dAt dX7_write 7 rfl) rfl (lv_at hl 1 rfl) ?_
    obtain ⟨z15, h⟩ := h
    refine x_ild C hw (hE.1 1) (nM hE (by decide)) z15 rfl (dAt dX7_write 8 rfl) ?_
    refine lv_if_ge (tgt := 25) hx hb (dAt dX7_write 9 rfl) (by decide) (fun c16 => ?_) (fun c16 => ?_)
    · replace h := h.1 c16
      refine lv_aload_n hx hb (dAt dX7_write 14 rfl) rfl (lv_at hl 0 rfl) ?_
      refine x_callv C hw (x_runV (As := []) (rest := []) C hw (kX7_find l E hE  σ1 _ h) mtX7_find lk_X7_219 (hE.1 0) (nM hE (by decide)) rfl ⟨by decide, by decide⟩ ⟨rfl, rfl⟩ rfl hl.1 rfl (Nat.le_of_ble_eq_true rfl) (dAt dX7_write 15 rfl) ⟨Nat.zero_le _, Nat.zero_le _⟩) (fun σ26 H locs h hw => ?_)
      refine lv_aload_n hx hb (dAt dX7_write 16 rfl) rfl (lv_at hl 0 rfl) ?_
      refine x_getr C hw fl_X7_13 (hE.1 0) (nM hE (by decide)) rfl (dAt dX7_write 17 rfl) ?_
      refine lv_iload_n hx hb (dAt dX7_write 18 rfl) rfl (lv_at hl 1 rfl) ?_
      obtain ⟨z34, h⟩ := h
      refine x_ild C hw (hE.1 2) (nM hE (by decide)) z34 rfl (dAt dX7_write 19 rfl) ?_
      refine lv_aload_n hx hb (dAt dX7_write 20 rfl) rfl (lv_at hl 0 rfl) ?_
      refine x_geti C hw fl_X7_178 (hE.1 0) (nM hE (by decide)) rfl (dAt dX7_write 21 rfl) ?_
      refine x_calli C hw (x_runS (As := [.int (σ26 2 (x1).toNatClampNeg), .int (σ26 0 20)]) (rest := []) C hw (kX7_lesser l E hE (σ26 2 (x1).toNatClampNeg) (σ26 0 20) σ26 _ h) mtX7_lesser lk_X7_274 ⟨by decide, by decide⟩ ⟨rfl, rfl⟩ rfl hl.1 rfl (Nat.le_of_ble_eq_true rfl) (dAt dX7_write 22 rfl) ⟨Nat.zero_le _, Nat.zero_le _⟩) (fun r39 σ39 H locs h hw => ?_)
      refine lv_istore_n (lv' := [(2, .int r39), (0, .ref (gE E 0)), (1, .int x1)]) hx hb (dAt dX7_write 23 rfl) rfl hl (by decide) rfl (fun ls hl => ?_)
      refine lv_iconst (v := 0) hx hb (dAt dX7_write 24 rfl) (by decide) ?_
      refine lv_istore_n (lv' := [(3, .int (0 : Int32)), (2, .int r39), (0, .ref (gE E 0)), (1, .int x1)]) hx hb (dAt dX7_write 25 rfl) rfl hl (by decide) rfl (fun ls hl => ?_)
      obtain ⟨n45, h⟩ := h
      exact kX7_write_45 hE C hr hlk n45 x1 r39 (0 : Int32) σ39  _ _ _ hw (lv_sub hl [2, 3, 1, 0] rfl) h
    · replace h := h.2 c16
      refine lv_aload_n hx hb (dAt dX7_write 10 rfl) rfl (lv_at hl 0 rfl) ?_
      refine lv_iconst (v := 1) hx hb (dAt dX7_write 11 rfl) (by decide) ?_
      refine x_calli C hw (x_runV (As := [.int (1 : Int32)]) (rest := []) C hw (kX7_finds l E hE (1 : Int32) σ1 _ h) mtX7_finds lk_X7_103 (hE.1 0) (nM hE (by decide)) rfl ⟨by decide, by decide⟩ ⟨rfl, rfl⟩ rfl hl.1 rfl (Nat.le_of_ble_eq_true rfl) (dAt dX7_write 12 rfl) ⟨Nat.zero_le _, Nat.zero_le _⟩) (fun r21 σ21 H locs h hw => ?_)
      exact x_iret C hw hr hlk h (dAt dX7_write 13 rfl)
  · replace h := h.2 c4
    refine lv_bipush (v := -2) hx hb (dAt dX7_write 3 rfl) (by decide) ?_
    exact x_iret C hw hr hlk h (dAt dX7_write 4 rfl)
