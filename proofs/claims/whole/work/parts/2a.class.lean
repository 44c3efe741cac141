def tJ7_fill_53178 : List (Nat × Instr × Nat) := [(0, .iconst 0, 1), (1, .istore_n 2, 1), (2, .aload_n 0, 1), (3, .arraylength, 1), (4, .istore_n 3, 1), (5, .iload_n 2, 1), (6, .iload_n 3, 1), (7, .if_icmp .ge 13, 3), (10, .aload_n 0, 1), (11, .iload_n 2, 1), (12, .iload_n 1, 1), (13, .iastore, 1), (14, .iinc 2 1, 3), (17, .goto (-12), 3), (20, .return_, 1)]
theorem dJ7_fill_53178 : dOk cJ7_fill_53178 tJ7_fill_53178 = true := by decide +kernel
abbrev rJ7_fill_53178 : Room := { frames := 0, cells := 0, slots := 0, locals := 0 }
def wJ7_fill_53178_5 (Q : Mem → Prop) : Nat → Nat → Nat → Int32 → Int32 → Int32 → Mem → Prop
  | 0, _, _, _, _, _, _ => False
  | n + 1, b0, nb0, x1, x2, x3, σ => (((x3 ≤ x2) → (Q σ)) ∧ ((¬ x3 ≤ x2) → (vp_in x2 nb0 ∧ (∀ σ13 : Mem, σ13 = um σ b0 (x2).toNatClampNeg x1 → (wJ7_fill_53178_5 Q n b0 nb0 x1 (x2 + (1 : Int32)) x3 σ13)))))
def wJ7_fill_53178 (b0 nb0 : Nat) (x1 : Int32) (σ : Mem) (Q : Mem → Prop) : Prop := (∀ x3_4 : Int32, x3_4 = (nI nb0) → (∃ N5, wJ7_fill_53178_5 Q N5 b0 nb0 x1 (0 : Int32) x3_4 σ))
set_option maxHeartbeats 4000000 in
set_option maxRecDepth 100000 in
theorem kJ7_fill_53178_5 {p : Program} {l : Launch} {e : Env} {s : State} {m : MethodId} {args : Array Value} {below : List Frame} {meth : Method} {c : Code} {E : wE} (hE : wI E) (C : Cx p s m args c cJ7_fill_53178 4 RJ7 E (wA E)) (hr : meth.sig.returnType = none) (hlk : meth.locks = false) {Q : Mem → Prop} : ∀ (n : Nat) (b0 : Nat) (nb0 : Nat) (x1 : Int32) (x2 : Int32) (x3 : Int32) (σ : Mem) (hb0 : sE E b0 = .inl nb0) (gb0 : b0 < nE E) (H : Heap) (locs : List Loc) (ls : Array Slot), wd E (wA E) s σ H locs → lv_has ls 4 [(0, .ref (gE E b0)), (1, .int x1), (2, .int x2), (3, .int x3)] → wJ7_fill_53178_5 Q n b0 nb0 x1 x2 x3 σ → W p l e rJ7_fill_53178 s m args below meth c H locs 0 0 (MQ below (wQv E Q) args s 0 0 (wA E)) (F0 m 5 ls []) := by
  have hx := C.1.1
  have hb := C.1.2.1
  intro n
  induction n with
  | zero =>
    intro b0 nb0 x1 x2 x3 σ hb0 gb0 H locs ls hw hl h
    exact h.elim
  | succ n ih =>
    intro b0 nb0 x1 x2 x3 σ hb0 gb0 H locs ls hw hl h
    rw [wJ7_fill_53178_5] at h
    refine lv_iload_n hx hb (dAt dJ7_fill_53178 5 rfl) rfl (lv_at hl 2 rfl) ?_
    refine lv_iload_n hx hb (dAt dJ7_fill_53178 6 rfl) rfl (lv_at hl 3 rfl) ?_
    refine lv_icmp_ge (tgt := 20) hx hb (dAt dJ7_fill_53178 7 rfl) (by decide) (fun c7 => ?_) (fun c7 => ?_)
    · replace h := h.1 c7
      exact x_vret C hw hr hlk h (dAt dJ7_fill_53178 14 rfl)
    · replace h := h.2 c7
      refine lv_aload_n hx hb (dAt dJ7_fill_53178 8 rfl) rfl (lv_at hl 0 rfl) ?_
      refine lv_iload_n hx hb (dAt dJ7_fill_53178 9 rfl) rfl (lv_at hl 2 rfl) ?_
      refine lv_iload_n hx hb (dAt dJ7_fill_53178 10 rfl) rfl (lv_at hl 1 rfl) ?_
      obtain ⟨z13, h⟩ := h
      refine x_ist C hw hb0 gb0 z13 rfl (dAt dJ7_fill_53178 11 rfl) (fun σ13 H locs eσ13 hw => ?_)
      replace h := h σ13 eσ13
      refine lv_iinc (v := (x2 + (1 : Int32))) (lv' := [(2, .int (x2 + (1 : Int32))), (0, .ref (gE E b0)), (1, .int x1), (3, .int x3)]) hx hb (dAt dJ7_fill_53178 12 rfl) hl (k := 2) rfl rfl (by decide) rfl (fun ls hl => ?_)
      refine lv_goto (tgt := 5) hx hb (dAt dJ7_fill_53178 13 rfl) (by decide) ?_
      exact ih b0 nb0 x1 (x2 + (1 : Int32)) x3 σ13 hb0 gb0 _ _ _ hw (lv_sub hl [1, 2, 0, 3] rfl) h
set_option maxHeartbeats 4000000 in
set_option maxRecDepth 100000 in
theorem kJ7_fill_53178 (l : Launch) (E : wE) (hE : wI E) (b0 nb0 : Nat) (hb0 : sE E b0 = .inl nb0) (gb0 : b0 < nE E) (x1 : Int32) (σ : Mem) (Q : Mem → Prop) (h : wJ7_fill_53178 b0 nb0 x1 σ Q) : Met l yJ7_fill_53178 (Cond.code yJ7_fill_53178 cJ7_fill_53178 4 none :: TB) rJ7_fill_53178 (wPc E σ [.ref (gE E b0), .int x1]) (wQv E Q) 0 0 (wA E) := by
  refine wMet (by decide) hE (Nat.le_of_ble_eq_true rfl) ?_
  intro p e s m args below meth c ls C hr hlk hl hw
  have hx := C.1.1
  have hb := C.1.2.1
  replace C : Cx p s m args c cJ7_fill_53178 4 RJ7 E (wA E) := C
  replace hl : lv_has ls 4 [(0, .ref (gE E b0)), (1, .int x1)] := hl
  unfold wJ7_fill_53178 at h
  refine lv_iconst (v := 0) hx hb (dAt dJ7_fill_53178 0 rfl) (by decide) ?_
  refine lv_istore_n (lv' := [(2, .int (0 : Int32)), (0, .ref (gE E b0)), (1, .int x1)]) hx hb (dAt dJ7_fill_53178 1 rfl) rfl hl (by decide) rfl (fun ls hl => ?_)
  refine lv_aload_n hx hb (dAt dJ7_fill_53178 2 rfl) rfl (lv_at hl 1 rfl) ?_
  refine x_alen C hw hb0 gb0 (dAt dJ7_fill_53178 3 rfl) ?_
  refine lv_topi (fun x3_4 ex3_4 => ?_)
  replace h := h x3_4 ex3_4
  refine lv_istore_n (lv' := [(3, .int x3_4), (2, .int (0 : Int32)), (0, .ref (gE E b0)), (1, .int x1)]) hx hb (dAt dJ7_fill_53178 4 rfl) rfl hl (by decide) rfl (fun ls hl => ?_)
  obtain ⟨n5, h⟩ := h
  exact kJ7_fill_53178_5 hE C hr hlk n5 b0 nb0 x1 (0 : Int32) x3_4 σ hb0 gb0 _ _ _ hw (lv_sub hl [2, 3, 1, 0] rfl) h
def tX0_stand : List (Nat × Instr × Nat) := [(0, .aload_n 0, 1), (1, .aload_n 1, 1), (2, .getfield 88, 3), (5, .putfield 91, 3), (8, .aload_n 0, 1), (9, .iconst 1, 1), (10, .aload_n 0, 1), (11, .getfield 91, 3), (14, .ishl, 1), (15, .iconst 1, 1), (16, .isub, 1), (17, .putfield 71, 3), (20, .aload_n 1, 1), (21, .getfield 92, 3), (24, .iconst 0, 1), (25, .aload_n 0, 1), (26, .getfield 15, 3), (29, .iconst 0, 1), (30, .bipush 8, 2), (32, .invokestatic 93, 3), (35, .aload_n 1, 1), (36, .getfield 99, 3), (39, .iconst 0, 1), (40, .aload_n 0, 1), (41, .getfield 21, 3), (44, .iconst 0, 1), (45, .bipush 8, 2), (47, .invokestatic 93, 3), (50, .aload_n 0, 1), (51, .getfield 24, 3), (54, .aload_n 1, 1), (55, .getfield 100, 3), (58, .invokestatic 103, 3), (61, .aload_n 0, 1), (62, .iconst 0, 1), (63, .putfield 109, 3), (66, .aload_n 0, 1), (67, .iconst 0, 1), (68, .putfield 112, 3), (71, .aload_n 0, 1), (72, .iconst 0, 1), (73, .putfield 115, 3), (76, .return_, 1)]
theorem dX0_stand : dOk cX0_stand tX0_stand = true := by decide +kernel
abbrev rX0_stand : Room := { frames := 1, cells := 0, slots := 0, locals := 48 }
def wX0_stand (b0 : Nat) (b1 : Nat) (σ : Mem) (Q : Mem → Prop) : Prop := (∀ σ5 : Mem, σ5 = um σ b0 14 (σ b1 4) → (∀ σ17 : Mem, σ17 = um σ5 b0 15 (((1 : Int32) <<< ((σ5 b0 14) &&& 31)) - (1 : Int32)) → (cpOk (0 : Int32) (0 : Int32) (8 : Int32) 8 8 ∧ ∀ σ32 : Mem, σ32 = cpM σ17 (b1 + 1) (b0 + 2) ((0 : Int32)).toNatClampNeg ((0 : Int32)).toNatClampNeg ((8 : Int32)).toNatClampNeg → (cpOk (0 : Int32) (0 : Int32) (8 : Int32) 8 8 ∧ ∀ σ47 : Mem, σ47 = cpM σ32 (b1 + 2) (b0 + 4) ((0 : Int32)).toNatClampNeg ((0 : Int32)).toNatClampNeg ((8 : Int32)).toNatClampNeg → (wJ7_fill_53178 (b0 + 5) 8 (σ47 b1 5) σ47 (fun σ58 => (∀ σ63 : Mem, σ63 = um σ58 b0 16 (0 : Int32) → (∀ σ68 : Mem, σ68 = um σ63 b0 17 (0 : Int32) → (∀ σ73 : Mem, σ73 = um σ68 b0 18 (0 : Int32) → (Q σ73))))))))))
set_option maxHeartbeats 4000000 in
set_option maxRecDepth 100000 in
theorem kX0_stand (l : Launch) (E : wE) (hE : wX E) (b0 : Nat) (hb0 : isD b0) (b1 : Nat) (hb1 : isS b1) (σ : Mem) (Q : Mem → Prop) (h : wX0_stand b0 b1 σ Q) : Met l yX0_stand (Cond.code yX0_stand cX0_stand 2 none :: TB) rX0_stand (wPc E σ [.ref (gE E b0), .ref (gE E b1)]) (wQv E Q) 0 0 (wA E) := by
  refine wMet (by decide) hE.2.2 (Nat.le_of_ble_eq_true rfl) ?_
  intro p e s m args below meth c ls C hr hlk hl hw
  have hx := C.1.1
  have hb := C.1.2.1
  replace C : Cx p s m args c cX0_stand 2 RX0 E (wA E) := C
  replace hl : lv_has ls 2 [(0, .ref (gE E b0)), (1, .ref (gE E b1))] := hl
  unfold wX0_stand at h
  refine lv_aload_n hx hb (dAt dX0_stand 0 rfl) rfl (lv_at hl 0 rfl) ?_
  refine lv_aload_n hx hb (dAt dX0_stand 1 rfl) rfl (lv_at hl 1 rfl) ?_
  refine x_getiN C hw fl_X0_88 (sS hE hb1) (nS hE hb1 (by omega)) rfl (dAt dX0_stand 2 rfl) ?_
  refine x_pf C hw fl_X0_91 (sD hE hb0) (nD hE hb0 (by omega)) rfl rfl rfl (dAt dX0_stand 3 rfl) (fun σ5 H locs eσ5 hw => ?_)
  replace h := h σ5 eσ5
  refine lv_aload_n hx hb (dAt dX0_stand 4 rfl) rfl (lv_at hl 0 rfl) ?_
  refine lv_iconst (v := 1) hx hb (dAt dX0_stand 5 rfl) (by decide) ?_
  refine lv_aload_n hx hb (dAt dX0_stand 6 rfl) rfl (lv_at hl 0 rfl) ?_
  refine x_geti C hw fl_X0_91 (sD hE hb0) (nD hE hb0 (by omega)) rfl (dAt dX0_stand 7 rfl) ?_
  refine lv_ishl hx hb (dAt dX0_stand 8 rfl) ?_
  refine lv_iconst (v := 1) hx hb (dAt dX0_stand 9 rfl) (by decide) ?_
  refine lv_isub hx hb (dAt dX0_stand 10 rfl) ?_
  refine x_pf C hw fl_X0_71 (sD hE hb0) (nD hE hb0 (by omega)) rfl rfl rfl (dAt dX0_stand 11 rfl) (fun σ17 H locs eσ17 hw => ?_)
  replace h := h σ17 eσ17
  refine lv_aload_n hx hb (dAt dX0_stand 12 rfl) rfl (lv_at hl 1 rfl) ?_
  refine x_getrN C hw fl_X0_92 (sS hE hb1) (nS hE hb1 (by omega)) rfl (dAt dX0_stand 13 rfl) ?_
  refine lv_iconst (v := 0) hx hb (dAt dX0_stand 14 rfl) (by decide) ?_
  refine lv_aload_n hx hb (dAt dX0_stand 15 rfl) rfl (lv_at hl 0 rfl) ?_
  refine x_getr C hw fl_X0_15 (sD hE hb0) (nD hE hb0 (by omega)) rfl (dAt dX0_stand 16 rfl) ?_
  refine lv_iconst (v := 0) hx hb (dAt dX0_stand 17 rfl) (by decide) ?_
  refine lv_bipush (v := 8) hx hb (dAt dX0_stand 18 rfl) (by decide) ?_
  obtain ⟨z32, h⟩ := h
  refine x_cp C hw hl.1 lcp_X0_93 (sS_1 hE hb1) (nS hE hb1 (by omega)) (sD_2 hE hb0) (nD hE hb0 (by omega)) ncp_1 ncp_2 ncp_3 z32 (Nat.le_of_ble_eq_true rfl) (Nat.le_of_ble_eq_true rfl) (dAt dX0_stand 19 rfl) (fun σ32 H locs eσ32 hw => ?_)
  replace h := h σ32 eσ32
  refine lv_aload_n hx hb (dAt dX0_stand 20 rfl) rfl (lv_at hl 1 rfl) ?_
  refine x_getrN C hw fl_X0_99 (sS hE hb1) (nS hE hb1 (by omega)) rfl (dAt dX0_stand 21 rfl) ?_
  refine lv_iconst (v := 0) hx hb (dAt dX0_stand 22 rfl) (by decide) ?_
  refine lv_aload_n hx hb (dAt dX0_stand 23 rfl) rfl (lv_at hl 0 rfl) ?_
  refine x_getr C hw fl_X0_21 (sD hE hb0) (nD hE hb0 (by omega)) rfl (dAt dX0_stand 24 rfl) ?_
  refine lv_iconst (v := 0) hx hb (dAt dX0_stand 25 rfl) (by decide) ?_
  refine lv_bipush (v := 8) hx hb (dAt dX0_stand 26 rfl) (by decide) ?_
  obtain ⟨z47, h⟩ := h
  refine x_cp C hw hl.1 lcp_X0_93 (sS_2 hE hb1) (nS hE hb1 (by omega)) (sD_4 hE hb0) (nD hE hb0 (by omega)) ncp_1 ncp_2 ncp_3 z47 (Nat.le_of_ble_eq_true rfl) (Nat.le_of_ble_eq_true rfl) (dAt dX0_stand 27 rfl) (fun σ47 H locs eσ47 hw => ?_)
  replace h := h σ47 eσ47
  refine lv_aload_n hx hb (dAt dX0_stand 28 rfl) rfl (lv_at hl 0 rfl) ?_
  refine x_getr C hw fl_X0_24 (sD hE hb0) (nD hE hb0 (by omega)) rfl (dAt dX0_stand 29 rfl) ?_
  refine lv_aload_n hx hb (dAt dX0_stand 30 rfl) rfl (lv_at hl 1 rfl) ?_
  refine x_getiN C hw fl_X0_100 (sS hE hb1) (nS hE hb1 (by omega)) rfl (dAt dX0_stand 31 rfl) ?_
  refine x_callv C hw (x_runS (As := [.ref (gE E (b0 + 5)), .int (σ47 b1 5)]) (rest := []) C hw (kJ7_fill_53178 l E hE.2.2 (b0 + 5) 8 (sD_5 hE hb0) (nD hE hb0 (by omega)) (σ47 b1 5) σ47 _ h) mtJ7_fill_53178 lk_X0_103 ⟨by decide, by decide⟩ ⟨rfl, rfl⟩ rfl hl.1 rfl (Nat.le_of_ble_eq_true rfl) (dAt dX0_stand 32 rfl) ⟨Nat.zero_le _, Nat.zero_le _⟩) (fun σ58 H locs h hw => ?_)
  refine lv_aload_n hx hb (dAt dX0_stand 33 rfl) rfl (lv_at hl 0 rfl) ?_
  refine lv_iconst (v := 0) hx hb (dAt dX0_stand 34 rfl) (by decide) ?_
  refine x_pf C hw fl_X0_109 (sD hE hb0) (nD hE hb0 (by omega)) rfl rfl rfl (dAt dX0_stand 35 rfl) (fun σ63 H locs eσ63 hw => ?_)
  replace h := h σ63 eσ63
  refine lv_aload_n hx hb (dAt dX0_stand 36 rfl) rfl (lv_at hl 0 rfl) ?_
  refine lv_iconst (v := 0) hx hb (dAt dX0_stand 37 rfl) (by decide) ?_
  refine x_pf C hw fl_X0_112 (sD hE hb0) (nD hE hb0 (by omega)) rfl rfl rfl (dAt dX0_stand 38 rfl) (fun σ68 H locs eσ68 hw => ?_)
  replace h := h σ68 eσ68
  refine lv_aload_n hx hb (dAt dX0_stand 39 rfl) rfl (lv_at hl 0 rfl) ?_
  refine lv_iconst (v := 0) hx hb (dAt dX0_stand 40 rfl) (by decide) ?_
  refine x_pf C hw fl_X0_115 (sD hE hb0) (nD hE hb0 (by omega)) rfl rfl rfl (dAt dX0_stand 41 rfl) (fun σ73 H locs eσ73 hw => ?_)
  replace h := h σ73 eσ73
  exact x_vret C hw hr hlk h (dAt dX0_stand 42 rfl)
def tX6_has : List (Nat × Instr × Nat) := [(0, .iload_n 0, 1), (1, .iload_n 1, 1), (2, .ishr, 1), (3, .iconst 1, 1), (4, .iand, 1), (5, .ifCond .eq 7, 3), (8, .iconst 1, 1), (9, .goto 4, 3), (12, .iconst 0, 1), (13, .ireturn, 1)]
theorem dX6_has : dOk cX6_has tX6_has = true := by decide +kernel
abbrev rX6_has : Room := { frames := 0, cells := 0, slots := 0, locals := 0 }
def wX6_has (x0 : Int32) (x1 : Int32) (σ : Mem) (Q : Int32 → Mem → Prop) : Prop := (bz (if ((x0 >>> (x1 &&& 31)) &&& (1 : Int32)) = 0 then (0 : Int32) else (1 : Int32)) ∧ Q (if ((x0 >>> (x1 &&& 31)) &&& (1 : Int32)) = 0 then (0 : Int32) else (1 : Int32)) σ)
set_option maxHeartbeats 4000000 in
set_option maxRecDepth 100000 in
theorem kX6_has (l : Launch) (E : wE) (hE : wX E) (x0 : Int32) (x1 : Int32) (σ : Mem) (Q : Int32 → Mem → Prop) (h : wX6_has x0 x1 σ Q) : Met l yX6_has (Cond.code yX6_has cX6_has 2 (some .boolean) :: TB) rX6_has (wPc E σ [.int x0, .int x1]) (wQi E Q) 0 0 (wA E) := by
  refine wMet (by decide) hE.2.2 (Nat.le_of_ble_eq_true rfl) ?_
  intro p e s m args below meth c ls C hr hlk hl hw
  have hx := C.1.1
  have hb := C.1.2.1
  replace C : Cx p s m args c cX6_has 2 RX6 E (wA E) := C
  replace hl : lv_has ls 2 [(0, .int x0), (1, .int x1)] := hl
  unfold wX6_has at h
  refine lv_iload_n hx hb (dAt dX6_has 0 rfl) rfl (lv_at hl 0 rfl) ?_
  refine lv_iload_n hx hb (dAt dX6_has 1 rfl) rfl (lv_at hl 1 rfl) ?_
  refine lv_ishr hx hb (dAt dX6_has 2 rfl) ?_
  refine lv_iconst (v := 1) hx hb (dAt dX6_has 3 rfl) (by decide) ?_
  refine lv_iand hx hb (dAt dX6_has 4 rfl) ?_
  refine x_dia (ls := ls) (pcJ := 13) (cnd := ((x0 >>> (x1 &&& 31)) &&& (1 : Int32)) = 0) (a := (0 : Int32)) (b := (1 : Int32)) ([]) ?_ (fun ht5 hf5 => ?_)
  · exact x_zret C hw hr hlk h.1 h.2 (dAt dX6_has 9 rfl)
  · refine lv_if_eq (tgt := 12) hx hb (dAt dX6_has 5 rfl) (by decide) (fun c5 => ?_) (fun c5 => ?_)
    · refine lv_iconst (v := 0) hx hb (dAt dX6_has 8 rfl) (by decide) ?_
      exact ht5 c5
    · refine lv_iconst (v := 1) hx hb (dAt dX6_has 6 rfl) (by decide) ?_
      refine lv_goto (tgt := 13) hx hb (dAt dX6_has 7 rfl) (by decide) ?_
      exact hf5 c5
def tX0_spread : List (Nat × Instr × Nat) := [(0, .aload_n 0, 1), (1, .getfield 9, 3), (4, .iconst 0, 1), (5, .invokestatic 103, 3), (8, .iconst 0, 1), (9, .istore_n 3, 1), (10, .iload_n 3, 1), (11, .aload_n 1, 1), (12, .getfield 118, 3), (15, .if_icmp .ge 49, 3), (18, .iload_n 2, 1), (19, .iload_n 3, 1), (20, .invokestatic 123, 3), (23, .ifCond .eq 35, 3), (26, .aload_n 0, 1), (27, .getfield 9, 3), (30, .aload_n 1, 1), (31, .getfield 127, 3), (34, .iload_n 3, 1), (35, .iaload, 1), (36, .bipush 24, 2), (38, .imul, 1), (39, .aload_n 1, 1), (40, .getfield 130, 3), (43, .iload_n 3, 1), (44, .iaload, 1), (45, .iadd, 1), (46, .dup2, 1), (47, .iaload, 1), (48, .iconst 1, 1), (49, .aload_n 1, 1), (50, .getfield 133, 3), (53, .iload_n 3, 1), (54, .iaload, 1), (55, .ishl, 1), (56, .ior, 1), (57, .iastore, 1), (58, .iinc 3 1, 3), (61, .goto (-51), 3), (64, .return_, 1)]
theorem dX0_spread : dOk cX0_spread tX0_spread = true := by decide +kernel
abbrev rX0_spread : Room := { frames := 1, cells := 0, slots := 0, locals := 23 }
def wX0_spread_10 (Q : Mem → Prop) : Nat → Nat → Int32 → Int32 → Mem → Prop
  | 0, _, _, _, _ => False
  | n + 1, b0, x2, x3, σ => ((((σ 6 3) ≤ x3) → (Q σ)) ∧ ((¬ (σ 6 3) ≤ x3) → (wX6_has x2 x3 σ (fun r20 σ20 => (((r20 = 0) → (wX0_spread_10 Q n b0 x2 (x3 + (1 : Int32)) σ20)) ∧ ((¬ r20 = 0) → (vp_in x3 8 ∧ (vp_in x3 8 ∧ (vp_in (((σ20 7 (x3).toNatClampNeg) * (24 : Int32)) + (σ20 8 (x3).toNatClampNeg)) 72 ∧ (vp_in x3 8 ∧ (vp_in (((σ20 7 (x3).toNatClampNeg) * (24 : Int32)) + (σ20 8 (x3).toNatClampNeg)) 72 ∧ (∀ σ57 : Mem, σ57 = um σ20 (b0 + 1) ((((σ20 7 (x3).toNatClampNeg) * (24 : Int32)) + (σ20 8 (x3).toNatClampNeg))).toNatClampNeg ((σ20 (b0 + 1) ((((σ20 7 (x3).toNatClampNeg) * (24 : Int32)) + (σ20 8 (x3).toNatClampNeg))).toNatClampNeg) ||| ((1 : Int32) <<< ((σ20 9 (x3).toNatClampNeg) &&& 31))) → (wX0_spread_10 Q n b0 x2 (x3 + (1 : Int32)) σ57)))))))))))))
def wX0_spread (b0 : Nat) (x2 : Int32) (σ : Mem) (Q : Mem → Prop) : Prop := (wJ7_fill_53178 (b0 + 1) 72 (0 : Int32) σ (fun σ5 => (∃ N10, wX0_spread_10 Q N10 b0 x2 (0 : Int32) σ5)))
set_option maxHeartbeats 4000000 in
set_option maxRecDepth 100000 in
theorem kX0_spread_10 {p : Program} {l : Launch} {e : Env} {s : State} {m : MethodId} {args : Array Value} {below : List Frame} {meth : Method} {c : Code} {E : wE} (hE : wX E) (C : Cx p s m args c cX0_spread 4 RX0 E (wA E)) (hr : meth.sig.returnType = none) (hlk : meth.locks = false) {Q : Mem → Prop} : ∀ (n : Nat) (b0 : Nat) (x2 : Int32) (x3 : Int32) (σ : Mem) (hb0 : isD b0) (H : Heap) (locs : List Loc) (ls : Array Slot), wd E (wA E) s σ H locs → lv_has ls 4 [(0, .ref (gE E b0)), (1, .ref (gE E 6)), (2, .int x2), (3, .int x3)] → wX0_spread_10 Q n b0 x2 x3 σ → W p l e rX0_spread s m args below meth c H locs 0 0 (MQ below (wQv E Q) args s 0 0 (wA E)) (F0 m 10 ls []) := by
  have hx := C.1.1
  have hb := C.1.2.1
  intro n
  induction n with
  | zero =>
    intro b0 x2 x3 σ hb0 H locs ls hw hl h
    exact h.elim
  | succ n ih =>
    intro b0 x2 x3 σ hb0 H locs ls hw hl h
    rw [wX0_spread_10] at h
    refine lv_iload_n hx hb (dAt dX0_spread 6 rfl) rfl (lv_at hl 3 rfl) ?_
    refine lv_aload_n hx hb (dAt dX0_spread 7 rfl) rfl (lv_at hl 1 rfl) ?_
    refine x_getiN C hw fl_X0_118 (hE.1 6) (nX hE (by decide)) rfl (dAt dX0_spread 8 rfl) ?_
    refine lv_icmp_ge (tgt := 64) hx hb (dAt dX0_spread 9 rfl) (by decide) (fun c15 => ?_) (fun c15 => ?_)
    · replace h := h.1 c15
      exact x_vret C hw hr hlk h (dAt dX0_spread 39 rfl)
    · replace h := h.2 c15
      refine lv_iload_n hx hb (dAt dX0_spread 10 rfl) rfl (lv_at hl 2 rfl) ?_
      refine lv_iload_n hx hb (dAt dX0_spread 11 rfl) rfl (lv_at hl 3 rfl) ?_
      refine x_calli C hw (x_runSN (As := [.int x2, .int x3]) (rest := []) C hw (kX6_has l E hE x2 x3 σ _ h) mtX6_has lk_X0_123 ⟨by decide, by decide⟩ ⟨rfl, rfl⟩ rfl hl.1 rfl (Nat.le_of_ble_eq_true rfl) (dAt dX0_spread 12 rfl) ⟨Nat.zero_le _, Nat.zero_le _⟩) (fun r20 σ20 H locs h hw => ?_)
      refine lv_if_eq (tgt := 58) hx hb (dAt dX0_spread 13 rfl) (by decide) (fun c23 => ?_) (fun c23 => ?_)
      · replace h := h.1 c23
        refine lv_iinc (v := (x3 + (1 : Int32))) (lv' := [(3, .int (x3 + (1 : Int32))), (0, .ref (gE E b0)), (1, .ref (gE E 6)), (2, .int x2)]) hx hb (dAt dX0_spread 37 rfl) hl (k := 3) rfl rfl (by decide) rfl (fun ls hl => ?_)
        refine lv_goto (tgt := 10) hx hb (dAt dX0_spread 38 rfl) (by decide) ?_
        exact ih b0 x2 (x3 + (1 : Int32)) σ20 hb0 _ _ _ hw (lv_sub hl [1, 2, 3, 0] rfl) h
      · replace h := h.2 c23
        refine lv_aload_n hx hb (dAt dX0_spread 14 rfl) rfl (lv_at hl 0 rfl) ?_
        refine x_getr C hw fl_X0_9 (sD hE hb0) (nD hE hb0 (by omega)) rfl (dAt dX0_spread 15 rfl) ?_
        refine lv_aload_n hx hb (dAt dX0_spread 16 rfl) rfl (lv_at hl 1 rfl) ?_
        refine x_getrN C hw fl_X0_127 (hE.1 6) (nX hE (by decide)) rfl (dAt dX0_spread 17 rfl) ?_
        refine lv_iload_n hx hb (dAt dX0_spread 18 rfl) rfl (lv_at hl 3 rfl) ?_
        obtain ⟨z35, h⟩ := h
        refine x_ild C hw (hE.1 7) (nX hE (by decide)) z35 rfl (dAt dX0_spread 19 rfl) ?_
        refine lv_bipush (v := 24) hx hb (dAt dX0_spread 20 rfl) (by decide) ?_
        refine lv_imul hx hb (dAt dX0_spread 21 rfl) ?_
        refine lv_aload_n hx hb (dAt dX0_spread 22 rfl) rfl (lv_at hl 1 rfl) ?_
        refine x_getrN C hw fl_X0_130 (hE.1 6) (nX hE (by decide)) rfl (dAt dX0_spread 23 rfl) ?_
        refine lv_iload_n hx hb (dAt dX0_spread 24 rfl) rfl (lv_at hl 3 rfl) ?_
        obtain ⟨z44, h⟩ := h
        refine x_ild C hw (hE.1 8) (nX hE (by decide)) z44 rfl (dAt dX0_spread 25 rfl) ?_
        refine lv_iadd hx hb (dAt dX0_spread 26 rfl) ?_
        refine lv_dup2_11 hx hb (dAt dX0_spread 27 rfl) rfl rfl ?_
        obtain ⟨z47, h⟩ := h
        refine x_ild C hw (sD_1 hE hb0) (nD hE hb0 (by omega)) z47 rfl (dAt dX0_spread 28 rfl) ?_
        refine lv_iconst (v := 1) hx hb (dAt dX0_spread 29 rfl) (by decide) ?_
        refine lv_aload_n hx hb (dAt dX0_spread 30 rfl) rfl (lv_at hl 1 rfl) ?_
        refine x_getrN C hw fl_X0_133 (hE.1 6) (nX hE (by decide)) rfl (dAt dX0_spread 31 rfl) ?_
        refine lv_iload_n hx hb (dAt dX0_spread 32 rfl) rfl (lv_at hl 3 rfl) ?_
        obtain ⟨z54, h⟩ := h
        refine x_ild C hw (hE.1 9) (nX hE (by decide)) z54 rfl (dAt dX0_spread 33 rfl) ?_
        refine lv_ishl hx hb (dAt dX0_spread 34 rfl) ?_
        refine lv_ior hx hb (dAt dX0_spread 35 rfl) ?_
        obtain ⟨z57, h⟩ := h
        refine x_ist C hw (sD_1 hE hb0) (nD hE hb0 (by omega)) z57 rfl (dAt dX0_spread 36 rfl) (fun σ57 H locs eσ57 hw => ?_)
        replace h := h σ57 eσ57
        refine lv_iinc (v := (x3 + (1 : Int32))) (lv' := [(3, .int (x3 + (1 : Int32))), (0, .ref (gE E b0)), (1, .ref (gE E 6)), (2, .int x2)]) hx hb (dAt dX0_spread 37 rfl) hl (k := 3) rfl rfl (by decide) rfl (fun ls hl => ?_)
        refine lv_goto (tgt := 10) hx hb (dAt dX0_spread 38 rfl) (by decide) ?_
        exact ih b0 x2 (x3 + (1 : Int32)) σ57 hb0 _ _ _ hw (lv_sub hl [1, 2, 3, 0] rfl) h
set_option maxHeartbeats 4000000 in
set_option maxRecDepth 100000 in
theorem kX0_spread (l : Launch) (E : wE) (hE : wX E) (b0 : Nat) (hb0 : isD b0) (x2 : Int32) (σ : Mem) (Q : Mem → Prop) (h : wX0_spread b0 x2 σ Q) : Met l yX0_spread (Cond.code yX0_spread cX0_spread 4 none :: TB) rX0_spread (wPc E σ [.ref (gE E b0), .ref (gE E 6), .int x2]) (wQv E Q) 0 0 (wA E) := by
  refine wMet (by decide) hE.2.2 (Nat.le_of_ble_eq_true rfl) ?_
  intro p e s m args below meth c ls C hr hlk hl hw
  have hx := C.1.1
  have hb := C.1.2.1
  replace C : Cx p s m args c cX0_spread 4 RX0 E (wA E) := C
  replace hl : lv_has ls 4 [(0, .ref (gE E b0)), (1, .ref (gE E 6)), (2, .int x2)] := hl
  unfold wX0_spread at h
  refine lv_aload_n hx hb (dAt dX0_spread 0 rfl) rfl (lv_at hl 0 rfl) ?_
  refine x_getr C hw fl_X0_9 (sD hE hb0) (nD hE hb0 (by omega)) rfl (dAt dX0_spread 1 rfl) ?_
  refine lv_iconst (v := 0) hx hb (dAt dX0_spread 2 rfl) (by decide) ?_
  refine x_callv C hw (x_runS (As := [.ref (gE E (b0 + 1)), .int (0 : Int32)]) (rest := []) C hw (kJ7_fill_53178 l E hE.2.2 (b0 + 1) 72 (sD_1 hE hb0) (nD hE hb0 (by omega)) (0 : Int32) σ _ h) mtJ7_fill_53178 lk_X0_103 ⟨by decide, by decide⟩ ⟨rfl, rfl⟩ rfl hl.1 rfl (Nat.le_of_ble_eq_true rfl) (dAt dX0_spread 3 rfl) ⟨Nat.zero_le _, Nat.zero_le _⟩) (fun σ5 H locs h hw => ?_)
  refine lv_iconst (v := 0) hx hb (dAt dX0_spread 4 rfl) (by decide) ?_
  refine lv_istore_n (lv' := [(3, .int (0 : Int32)), (0, .ref (gE E b0)), (1, .ref (gE E 6)), (2, .int x2)]) hx hb (dAt dX0_spread 5 rfl) rfl hl (by decide) rfl (fun ls hl => ?_)
  obtain ⟨n10, h⟩ := h
  exact kX0_spread_10 hE C hr hlk n10 b0 x2 (0 : Int32) σ5 hb0 _ _ _ hw (lv_sub hl [1, 2, 3, 0] rfl) h
def tX0_turn : List (Nat × Instr × Nat) := [(0, .iconst 0, 1), (1, .istore_n 1, 1), (2, .iload_n 1, 1), (3, .aload_n 0, 1), (4, .getfield 91, 3), (7, .if_icmp .ge 29, 3), (10, .aload_n 0, 1), (11, .getfield 21, 3), (14, .iload_n 1, 1), (15, .aload_n 0, 1), (16, .getfield 21, 3), (19, .iload_n 1, 1), (20, .iaload, 1), (21, .ifCond .ne 7, 3), (24, .iconst 1, 1), (25, .goto 4, 3), (28, .iconst 0, 1), (29, .iastore, 1), (30, .iinc 1 1, 3), (33, .goto (-31), 3), (36, .return_, 1)]
theorem dX0_turn : dOk cX0_turn tX0_turn = true := by decide +kernel
abbrev rX0_turn : Room := { frames := 0, cells := 0, slots := 0, locals := 0 }
def wX0_turn_2 (Q : Mem → Prop) : Nat → Nat → Int32 → Mem → Prop
  | 0, _, _, _ => False
  | n + 1, b0, x1, σ => ((((σ b0 14) ≤ x1) → (Q σ)) ∧ ((¬ (σ b0 14) ≤ x1) → (vp_in x1 8 ∧ (vp_in x1 8 ∧ (∀ σ29 : Mem, σ29 = um σ (b0 + 4) (x1).toNatClampNeg (if (σ (b0 + 4) (x1).toNatClampNeg) = 0 then (1 : Int32) else (0 : Int32)) → (wX0_turn_2 Q n b0 (x1 + (1 : Int32)) σ29))))))
def wX0_turn (b0 : Nat) (σ : Mem) (Q : Mem → Prop) : Prop := (∃ N2, wX0_turn_2 Q N2 b0 (0 : Int32) σ)
set_option maxHeartbeats 4000000 in
set_option maxRecDepth 100000 in
theorem kX0_turn_2 {p : Program} {l : Launch} {e : Env} {s : State} {m : MethodId} {args : Array Value} {below : List Frame} {meth : Method} {c : Code} {E : wE} (hE : wX E) (C : Cx p s m args c cX0_turn 2 RX0 E (wA E)) (hr : meth.sig.returnType = none) (hlk : meth.locks = false) {Q : Mem → Prop} : ∀ (n : Nat) (b0 : Nat) (x1 : Int32) (σ : Mem) (hb0 : isD b0) (H : Heap) (locs : List Loc) (ls : Array Slot), wd E (wA E) s σ H locs → lv_has ls 2 [(0, .ref (gE E b0)), (1, .int x1)] → wX0_turn_2 Q n b0 x1 σ → W p l e rX0_turn s m args below meth c H locs 0 0 (MQ below (wQv E Q) args s 0 0 (wA E)) (F0 m 2 ls []) := by
  have hx := C.1.1
  have hb := C.1.2.1
  intro n
  induction n with
  | zero =>
    intro b0 x1 σ hb0 H locs ls hw hl h
    exact h.elim
  | succ n ih =>
    intro b0 x1 σ hb0 H locs ls hw hl h
    rw [wX0_turn_2] at h
    refine lv_iload_n hx hb (dAt dX0_turn 2 rfl) rfl (lv_at hl 1 rfl) ?_
    refine lv_aload_n hx hb (dAt dX0_turn 3 rfl) rfl (lv_at hl 0 rfl) ?_
    refine x_geti C hw fl_X0_91 (sD hE hb0) (nD hE hb0 (by omega)) rfl (dAt dX0_turn 4 rfl) ?_
    refine lv_icmp_ge (tgt := 36) hx hb (dAt dX0_turn 5 rfl) (by decide) (fun c7 => ?_) (fun c7 => ?_)
    · replace h := h.1 c7
      exact x_vret C hw hr hlk h (dAt dX0_turn 20 rfl)
    · replace h := h.2 c7
      refine lv_aload_n hx hb (dAt dX0_turn 6 rfl) rfl (lv_at hl 0 rfl) ?_
      refine x_getr C hw fl_X0_21 (sD hE hb0) (nD hE hb0 (by omega)) rfl (dAt dX0_turn 7 rfl) ?_
      refine lv_iload_n hx hb (dAt dX0_turn 8 rfl) rfl (lv_at hl 1 rfl) ?_
      refine lv_aload_n hx hb (dAt dX0_turn 9 rfl) rfl (lv_at hl 0 rfl) ?_
      refine x_getr C hw fl_X0_21 (sD hE hb0) (nD hE hb0 (by omega)) rfl (dAt dX0_turn 10 rfl) ?_
      refine lv_iload_n hx hb (dAt dX0_turn 11 rfl) rfl (lv_at hl 1 rfl) ?_
      obtain ⟨z20, h⟩ := h
      refine x_ild C hw (sD_4 hE hb0) (nD hE hb0 (by omega)) z20 rfl (dAt dX0_turn 12 rfl) ?_
      refine x_dia (ls := ls) (pcJ := 29) (cnd := (σ (b0 + 4) (x1).toNatClampNeg) = 0) (a := (1 : Int32)) (b := (0 : Int32)) ([.int x1, .ref (gE E (b0 + 4))]) ?_ (fun ht21 hf21 => ?_)
      · obtain ⟨z29, h⟩ := h
        refine x_ist C hw (sD_4 hE hb0) (nD hE hb0 (by omega)) z29 rfl (dAt dX0_turn 17 rfl) (fun σ29 H locs eσ29 hw => ?_)
        replace h := h σ29 eσ29
        refine lv_iinc (v := (x1 + (1 : Int32))) (lv' := [(1, .int (x1 + (1 : Int32))), (0, .ref (gE E b0))]) hx hb (dAt dX0_turn 18 rfl) hl (k := 1) rfl rfl (by decide) rfl (fun ls hl => ?_)
        refine lv_goto (tgt := 2) hx hb (dAt dX0_turn 19 rfl) (by decide) ?_
        exact ih b0 (x1 + (1 : Int32)) σ29 hb0 _ _ _ hw (lv_sub hl [1, 0] rfl) h
      · refine lv_if_ne (tgt := 28) hx hb (dAt dX0_turn 13 rfl) (by decide) (fun c21 => ?_) (fun c21 => ?_)
        · refine lv_iconst (v := 0) hx hb (dAt dX0_turn 16 rfl) (by decide) ?_
          exact hf21 c21
        · refine lv_iconst (v := 1) hx hb (dAt dX0_turn 14 rfl) (by decide) ?_
          refine lv_goto (tgt := 29) hx hb (dAt dX0_turn 15 rfl) (by decide) ?_
          exact ht21 c21
set_option maxHeartbeats 4000000 in
set_option maxRecDepth 100000 in
theorem kX0_turn (l : Launch) (E : wE) (hE : wX E) (b0 : Nat) (hb0 : isD b0) (σ : Mem) (Q : Mem → Prop) (h : wX0_turn b0 σ Q) : Met l yX0_turn (Cond.code yX0_turn cX0_turn 2 none :: TB) rX0_turn (wPc E σ [.ref (gE E b0)]) (wQv E Q) 0 0 (wA E) := by
  refine wMet (by decide) hE.2.2 (Nat.le_of_ble_eq_true rfl) ?_
  intro p e s m args below meth c ls C hr hlk hl hw
  have hx := C.1.1
  have hb := C.1.2.1
  replace C : Cx p s m args c cX0_turn 2 RX0 E (wA E) := C
  replace hl : lv_has ls 2 [(0, .ref (gE E b0))] := hl
  unfold wX0_turn at h
  refine lv_iconst (v := 0) hx hb (dAt dX0_turn 0 rfl) (by decide) ?_
  refine lv_istore_n (lv' := [(1, .int (0 : Int32)), (0, .ref (gE E b0))]) hx hb (dAt dX0_turn 1 rfl) rfl hl (by decide) rfl (fun ls hl => ?_)
  obtain ⟨n2, h⟩ := h
  exact kX0_turn_2 hE C hr hlk n2 b0 (0 : Int32) σ hb0 _ _ _ hw (lv_sub hl [1, 0] rfl) h
def tX0_goOn : List (Nat × Instr × Nat) := [(0, .aload_n 0, 1), (1, .getfield 9, 3), (4, .iconst 0, 1), (5, .iload_n 1, 1), (6, .iadd, 1), (7, .iaload, 1), (8, .istore_n 2, 1), (9, .iconst 0, 1), (10, .istore_n 3, 1), (11, .iload_n 3, 1), (12, .aload_n 0, 1), (13, .getfield 91, 3), (16, .if_icmp .ge 121, 3), (19, .aload_n 0, 1), (20, .getfield 18, 3), (23, .iload_n 3, 1), (24, .aload_n 0, 1), (25, .getfield 15, 3), (28, .iload_n 3, 1), (29, .iaload, 1), (30, .iastore, 1), (31, .iload_n 2, 1), (32, .iload_n 3, 1), (33, .invokestatic 123, 3), (36, .ifCond .ne 95, 3), (39, .aload_n 0, 1), (40, .getfield 24, 3), (43, .iload_n 3, 1), (44, .iaload, 1), (45, .ifCond .ne 17, 3), (48, .aload_n 0, 1), (49, .getfield 71, 3), (52, .iload_n 3, 1), (53, .invokestatic 123, 3), (56, .ifCond .eq 6, 3), (59, .goto 72, 3), (62, .aload_n 0, 1), (63, .getfield 21, 3), (66, .iload_n 3, 1), (67, .iaload, 1), (68, .ifCond .ne 35, 3), (71, .aload_n 0, 1), (72, .getfield 15, 3), (75, .iload_n 3, 1), (76, .aload_n 0, 1), (77, .getfield 15, 3), (80, .iload_n 3, 1), (81, .iaload, 1), (82, .bipush 11, 2), (84, .if_icmp .ne 7, 3), (87, .iconst 0, 1), (88, .goto 11, 3), (91, .aload_n 0, 1), (92, .getfield 15, 3), (95, .iload_n 3, 1), (96, .iaload, 1), (97, .iconst 1, 1), (98, .iadd, 1), (99, .iastore, 1), (100, .goto 31, 3), (103, .aload_n 0, 1), (104, .getfield 15, 3), (107, .iload_n 3, 1), (108, .aload_n 0, 1), (109, .getfield 15, 3), (112, .iload_n 3, 1), (113, .iaload, 1), (114, .ifCond .ne 8, 3), (117, .bipush 11, 2), (119, .goto 11, 3), (122, .aload_n 0, 1), (123, .getfield 15, 3), (126, .iload_n 3, 1), (127, .iaload, 1), (128, .iconst 1, 1), (129, .isub, 1), (130, .iastore, 1), (131, .iinc 3 1, 3), (134, .goto (-123), 3), (137, .return_, 1)]
theorem dX0_goOn : dOk cX0_goOn tX0_goOn = true := by decide +kernel
abbrev rX0_goOn : Room := { frames := 1, cells := 0, slots := 0, locals := 21 }
def wX0_goOn_62 (K11 : Nat → Int32 → Int32 → Mem → Prop) (Q : Mem → Prop) (b0 : Nat) (x2 : Int32) (x3 : Int32) (σ : Mem) : Prop := (vp_in x3 8 ∧ (((¬ (σ (b0 + 4) (x3).toNatClampNeg) = 0) → (vp_in x3 8 ∧ (((¬ (σ (b0 + 2) (x3).toNatClampNeg) = 0) → (vp_in x3 8 ∧ (vp_in x3 8 ∧ (∀ σ130 : Mem, σ130 = um σ (b0 + 2) (x3).toNatClampNeg ((σ (b0 + 2) (x3).toNatClampNeg) - (1 : Int32)) → (K11 b0 x2 (x3 + (1 : Int32)) σ130))))) ∧ (((σ (b0 + 2) (x3).toNatClampNeg) = 0) → (vp_in x3 8 ∧ (∀ σ130 : Mem, σ130 = um σ (b0 + 2) (x3).toNatClampNeg (11 : Int32) → (K11 b0 x2 (x3 + (1 : Int32)) σ130))))))) ∧ (((σ (b0 + 4) (x3).toNatClampNeg) = 0) → (vp_in x3 8 ∧ (((¬ (σ (b0 + 2) (x3).toNatClampNeg) = (11 : Int32)) → (vp_in x3 8 ∧ (vp_in x3 8 ∧ (∀ σ99 : Mem, σ99 = um σ (b0 + 2) (x3).toNatClampNeg ((σ (b0 + 2) (x3).toNatClampNeg) + (1 : Int32)) → (K11 b0 x2 (x3 + (1 : Int32)) σ99))))) ∧ (((σ (b0 + 2) (x3).toNatClampNeg) = (11 : Int32)) → (vp_in x3 8 ∧ (∀ σ99 : Mem, σ99 = um σ (b0 + 2) (x3).toNatClampNeg (0 : Int32) → (K11 b0 x2 (x3 + (1 : Int32)) σ99)))))))))
def wX0_goOn_11 (Q : Mem → Prop) : Nat → Nat → Int32 → Int32 → Mem → Prop
  | 0, _, _, _, _ => False
  | n + 1, b0, x2, x3, σ => ((((σ b0 14) ≤ x3) → (Q σ)) ∧ ((¬ (σ b0 14) ≤ x3) → (vp_in x3 8 ∧ (vp_in x3 8 ∧ (∀ σ30 : Mem, σ30 = um σ (b0 + 3) (x3).toNatClampNeg (σ (b0 + 2) (x3).toNatClampNeg) → (wX6_has x2 x3 σ30 (fun r33 σ33 => (((¬ r33 = 0) → (wX0_goOn_11 Q n b0 x2 (x3 + (1 : Int32)) σ33)) ∧ ((r33 = 0) → (vp_in x3 8 ∧ (((¬ (σ33 (b0 + 5) (x3).toNatClampNeg) = 0) → (wX0_goOn_62 (fun b0 x2 x3 ρ => wX0_goOn_11 Q n b0 x2 x3 ρ) Q b0 x2 x3 σ33)) ∧ (((σ33 (b0 + 5) (x3).toNatClampNeg) = 0) → (wX6_has (σ33 b0 15) x3 σ33 (fun r53 σ53 => (((r53 = 0) → (wX0_goOn_62 (fun b0 x2 x3 ρ => wX0_goOn_11 Q n b0 x2 x3 ρ) Q b0 x2 x3 σ53)) ∧ ((¬ r53 = 0) → (wX0_goOn_11 Q n b0 x2 (x3 + (1 : Int32)) σ53)))))))))))))))))
def wX0_goOn (b0 : Nat) (x1 : Int32) (σ : Mem) (Q : Mem → Prop) : Prop := (vp_in ((0 : Int32) + x1) 72 ∧ (∀ x2_8 : Int32, x2_8 = (σ (b0 + 1) (((0 : Int32) + x1)).toNatClampNeg) → (∃ N11, wX0_goOn_11 Q N11 b0 x2_8 (0 : Int32) σ)))
set_option maxHeartbeats 4000000 in
set_option maxRecDepth 100000 in
theorem kX0_goOn_62 {p : Program} {l : Launch} {e : Env} {s : State} {m : MethodId} {args : Array Value} {below : List Frame} {meth : Method} {c : Code} {E : wE} (hE : wX E) (C : Cx p s m args c cX0_goOn 4 RX0 E (wA E)) (hr : meth.sig.returnType = none) (hlk : meth.locks = false) {Q : Mem → Prop} {K11 : Nat → Int32 → Int32 → Mem → Prop} (hK11 : ∀ (b0 : Nat) (x2 : Int32) (x3 : Int32) (σ : Mem) (hb0 : isD b0) (H : Heap) (locs : List Loc) (ls : Array Slot), wd E (wA E) s σ H locs → lv_has ls 4 [(0, .ref (gE E b0)), (2, .int x2), (3, .int x3)] → K11 b0 x2 x3 σ → W p l e rX0_goOn s m args below meth c H locs 0 0 (MQ below (wQv E Q) args s 0 0 (wA E)) (F0 m 11 ls [])) : ∀ (b0 : Nat) (x2 : Int32) (x3 : Int32) (σ : Mem) (hb0 : isD b0) (H : Heap) (locs : List Loc) (ls : Array Slot), wd E (wA E) s σ H locs → lv_has ls 4 [(0, .ref (gE E b0)), (2, .int x2), (3, .int x3)] → wX0_goOn_62 K11 Q b0 x2 x3 σ → W p l e rX0_goOn s m args below meth c H locs 0 0 (MQ below (wQv E Q) args s 0 0 (wA E)) (F0 m 62 ls []) := by
  have hx := C.1.1
  have hb := C.1.2.1
  intro b0 x2 x3 σ hb0 H locs ls hw hl h
  unfold wX0_goOn_62 at h
  refine lv_aload_n hx hb (dAt dX0_goOn 36 rfl) rfl (lv_at hl 0 rfl) ?_
  refine x_getr C hw fl_X0_21 (sD hE hb0) (nD hE hb0 (by omega)) rfl (dAt dX0_goOn 37 rfl) ?_
  refine lv_iload_n hx hb (dAt dX0_goOn 38 rfl) rfl (lv_at hl 2 rfl) ?_
  obtain ⟨z67, h⟩ := h
  refine x_ild C hw (sD_4 hE hb0) (nD hE hb0 (by omega)) z67 rfl (dAt dX0_goOn 39 rfl) ?_
  refine lv_if_ne (tgt := 103) hx hb (dAt dX0_goOn 40 rfl) (by decide) (fun c68 => ?_) (fun c68 => ?_)
  · replace h := h.1 c68
    refine lv_aload_n hx hb (dAt dX0_goOn 60 rfl) rfl (lv_at hl 0 rfl) ?_
    refine x_getr C hw fl_X0_15 (sD hE hb0) (nD hE hb0 (by omega)) rfl (dAt dX0_goOn 61 rfl) ?_
    refine lv_iload_n hx hb (dAt dX0_goOn 62 rfl) rfl (lv_at hl 2 rfl) ?_
    refine lv_aload_n hx hb (dAt dX0_goOn 63 rfl) rfl (lv_at hl 0 rfl) ?_
    refine x_getr C hw fl_X0_15 (sD hE hb0) (nD hE hb0 (by omega)) rfl (dAt dX0_goOn 64 rfl) ?_
    refine lv_iload_n hx hb (dAt dX0_goOn 65 rfl) rfl (lv_at hl 2 rfl) ?_
    obtain ⟨z113, h⟩ := h
    refine x_ild C hw (sD_2 hE hb0) (nD hE hb0 (by omega)) z113 rfl (dAt dX0_goOn 66 rfl) ?_
    refine lv_if_ne (tgt := 122) hx hb (dAt dX0_goOn 67 rfl) (by decide) (fun c114 => ?_) (fun c114 => ?_)
    · replace h := h.1 c114
      refine lv_aload_n hx hb (dAt dX0_goOn 70 rfl) rfl (lv_at hl 0 rfl) ?_
      refine x_getr C hw fl_X0_15 (sD hE hb0) (nD hE hb0 (by omega)) rfl (dAt dX0_goOn 71 rfl) ?_
      refine lv_iload_n hx hb (dAt dX0_goOn 72 rfl) rfl (lv_at hl 2 rfl) ?_
      obtain ⟨z127, h⟩ := h
      refine x_ild C hw (sD_2 hE hb0) (nD hE hb0 (by omega)) z127 rfl (dAt dX0_goOn 73 rfl) ?_
      refine lv_iconst (v := 1) hx hb (dAt dX0_goOn 74 rfl) (by decide) ?_
      refine lv_isub hx hb (dAt dX0_goOn 75 rfl) ?_
      obtain ⟨z130, h⟩ := h
      refine x_ist C hw (sD_2 hE hb0) (nD hE hb0 (by omega)) z130 rfl (dAt dX0_goOn 76 rfl) (fun σ130 H locs eσ130 hw => ?_)
      replace h := h σ130 eσ130
      refine lv_iinc (v := (x3 + (1 : Int32))) (lv' := [(3, .int (x3 + (1 : Int32))), (0, .ref (gE E b0)), (2, .int x2)]) hx hb (dAt dX0_goOn 77 rfl) hl (k := 2) rfl rfl (by decide) rfl (fun ls hl => ?_)
      refine lv_goto (tgt := 11) hx hb (dAt dX0_goOn 78 rfl) (by decide) ?_
      exact hK11 b0 x2 (x3 + (1 : Int32)) σ130 hb0 _ _ _ hw (lv_sub hl [1, 2, 0] rfl) h
    · replace h := h.2 c114
      refine lv_bipush (v := 11) hx hb (dAt dX0_goOn 68 rfl) (by decide) ?_
      refine lv_goto (tgt := 130) hx hb (dAt dX0_goOn 69 rfl) (by decide) ?_
      obtain ⟨z130, h⟩ := h
      refine x_ist C hw (sD_2 hE hb0) (nD hE hb0 (by omega)) z130 rfl (dAt dX0_goOn 76 rfl) (fun σ130 H locs eσ130 hw => ?_)
      replace h := h σ130 eσ130
      refine lv_iinc (v := (x3 + (1 : Int32))) (lv' := [(3, .int (x3 + (1 : Int32))), (0, .ref (gE E b0)), (2, .int x2)]) hx hb (dAt dX0_goOn 77 rfl) hl (k := 2) rfl rfl (by decide) rfl (fun ls hl => ?_)
      refine lv_goto (tgt := 11) hx hb (dAt dX0_goOn 78 rfl) (by decide) ?_
      exact hK11 b0 x2 (x3 + (1 : Int32)) σ130 hb0 _ _ _ hw (lv_sub hl [1, 2, 0] rfl) h
  · replace h := h.2 c68
    refine lv_aload_n hx hb (dAt dX0_goOn 41 rfl) rfl (lv_at hl 0 rfl) ?_
    refine x_getr C hw fl_X0_15 (sD hE hb0) (nD hE hb0 (by omega)) rfl (dAt dX0_goOn 42 rfl) ?_
    refine lv_iload_n hx hb (dAt dX0_goOn 43 rfl) rfl (lv_at hl 2 rfl) ?_
    refine lv_aload_n hx hb (dAt dX0_goOn 44 rfl) rfl (lv_at hl 0 rfl) ?_
    refine x_getr C hw fl_X0_15 (sD hE hb0) (nD hE hb0 (by omega)) rfl (dAt dX0_goOn 45 rfl) ?_
    refine lv_iload_n hx hb (dAt dX0_goOn 46 rfl) rfl (lv_at hl 2 rfl) ?_
    obtain ⟨z81, h⟩ := h
    refine x_ild C hw (sD_2 hE hb0) (nD hE hb0 (by omega)) z81 rfl (dAt dX0_goOn 47 rfl) ?_
    refine lv_bipush (v := 11) hx hb (dAt dX0_goOn 48 rfl) (by decide) ?_
    refine lv_icmp_ne (tgt := 91) hx hb (dAt dX0_goOn 49 rfl) (by decide) (fun c84 => ?_) (fun c84 => ?_)
    · replace h := h.1 c84
      refine lv_aload_n hx hb (dAt dX0_goOn 52 rfl) rfl (lv_at hl 0 rfl) ?_
      refine x_getr C hw fl_X0_15 (sD hE hb0) (nD hE hb0 (by omega)) rfl (dAt dX0_goOn 53 rfl) ?_
      refine lv_iload_n hx hb (dAt dX0_goOn 54 rfl) rfl (lv_at hl 2 rfl) ?_
      obtain ⟨z96, h⟩ := h
      refine x_ild C hw (sD_2 hE hb0) (nD hE hb0 (by omega)) z96 rfl (dAt dX0_goOn 55 rfl) ?_
      refine lv_iconst (v := 1) hx hb (dAt dX0_goOn 56 rfl) (by decide) ?_
      refine lv_iadd hx hb (dAt dX0_goOn 57 rfl) ?_
      obtain ⟨z99, h⟩ := h
      refine x_ist C hw (sD_2 hE hb0) (nD hE hb0 (by omega)) z99 rfl (dAt dX0_goOn 58 rfl) (fun σ99 H locs eσ99 hw => ?_)
      replace h := h σ99 eσ99
      refine lv_goto (tgt := 131) hx hb (dAt dX0_goOn 59 rfl) (by decide) ?_
      refine lv_iinc (v := (x3 + (1 : Int32))) (lv' := [(3, .int (x3 + (1 : Int32))), (0, .ref (gE E b0)), (2, .int x2)]) hx hb (dAt dX0_goOn 77 rfl) hl (k := 2) rfl rfl (by decide) rfl (fun ls hl => ?_)
      refine lv_goto (tgt := 11) hx hb (dAt dX0_goOn 78 rfl) (by decide) ?_
      exact hK11 b0 x2 (x3 + (1 : Int32)) σ99 hb0 _ _ _ hw (lv_sub hl [1, 2, 0] rfl) h
    · replace h := h.2 c84
      refine lv_iconst (v := 0) hx hb (dAt dX0_goOn 50 rfl) (by decide) ?_
      refine lv_goto (tgt := 99) hx hb (dAt dX0_goOn 51 rfl) (by decide) ?_
      obtain ⟨z99, h⟩ := h
      refine x_ist C hw (sD_2 hE hb0) (nD hE hb0 (by omega)) z99 rfl (dAt dX0_goOn 58 rfl) (fun σ99 H locs eσ99 hw => ?_)
      replace h := h σ99 eσ99
      refine lv_goto (tgt := 131) hx hb (dAt dX0_goOn 59 rfl) (by decide) ?_
      refine lv_iinc (v := (x3 + (1 : Int32))) (lv' := [(3, .int (x3 + (1 : Int32))), (0, .ref (gE E b0)), (2, .int x2)]) hx hb (dAt dX0_goOn 77 rfl) hl (k := 2) rfl rfl (by decide) rfl (fun ls hl => ?_)
      refine lv_goto (tgt := 11) hx hb (dAt dX0_goOn 78 rfl) (by decide) ?_
      exact hK11 b0 x2 (x3 + (1 : Int32)) σ99 hb0 _ _ _ hw (lv_sub hl [1, 2, 0] rfl) h
set_option maxHeartbeats 4000000 in
set_option maxRecDepth 100000 in
theorem kX0_goOn_11 {p : Program} {l : Launch} {e : Env} {s : State} {m : MethodId} {args : Array Value} {below : List Frame} {meth : Method} {c : Code} {E : wE} (hE : wX E) (C : Cx p s m args c cX0_goOn 4 RX0 E (wA E)) (hr : meth.sig.returnType = none) (hlk : meth.locks = false) {Q : Mem → Prop} : ∀ (n : Nat) (b0 : Nat) (x2 : Int32) (x3 : Int32) (σ : Mem) (hb0 : isD b0) (H : Heap) (locs : List Loc) (ls : Array Slot), wd E (wA E) s σ H locs → lv_has ls 4 [(0, .ref (gE E b0)), (2, .int x2), (3, .int x3)] → wX0_goOn_11 Q n b0 x2 x3 σ → W p l e rX0_goOn s m args below meth c H locs 0 0 (MQ below (wQv E Q) args s 0 0 (wA E)) (F0 m 11 ls []) := by
  have hx := C.1.1
  have hb := C.1.2.1
  intro n
  induction n with
  | zero =>
    intro b0 x2 x3 σ hb0 H locs ls hw hl h
    exact h.elim
  | succ n ih =>
    intro b0 x2 x3 σ hb0 H locs ls hw hl h
    rw [wX0_goOn_11] at h
    refine lv_iload_n hx hb (dAt dX0_goOn 9 rfl) rfl (lv_at hl 2 rfl) ?_
    refine lv_aload_n hx hb (dAt dX0_goOn 10 rfl) rfl (lv_at hl 0 rfl) ?_
    refine x_geti C hw fl_X0_91 (sD hE hb0) (nD hE hb0 (by omega)) rfl (dAt dX0_goOn 11 rfl) ?_
    refine lv_icmp_ge (tgt := 137) hx hb (dAt dX0_goOn 12 rfl) (by decide) (fun c16 => ?_) (fun c16 => ?_)
    · replace h := h.1 c16
      exact x_vret C hw hr hlk h (dAt dX0_goOn 79 rfl)
    · replace h := h.2 c16
      refine lv_aload_n hx hb (dAt dX0_goOn 13 rfl) rfl (lv_at hl 0 rfl) ?_
      refine x_getr C hw fl_X0_18 (sD hE hb0) (nD hE hb0 (by omega)) rfl (dAt dX0_goOn 14 rfl) ?_
      refine lv_iload_n hx hb (dAt dX0_goOn 15 rfl) rfl (lv_at hl 2 rfl) ?_
      refine lv_aload_n hx hb (dAt dX0_goOn 16 rfl) rfl (lv_at hl 0 rfl) ?_
      refine x_getr C hw fl_X0_15 (sD hE hb0) (nD hE hb0 (by omega)) rfl (dAt dX0_goOn 17 rfl) ?_
      refine lv_iload_n hx hb (dAt dX0_goOn 18 rfl) rfl (lv_at hl 2 rfl) ?_
      obtain ⟨z29, h⟩ := h
      refine x_ild C hw (sD_2 hE hb0) (nD hE hb0 (by omega)) z29 rfl (dAt dX0_goOn 19 rfl) ?_
      obtain ⟨z30, h⟩ := h
      refine x_ist C hw (sD_3 hE hb0) (nD hE hb0 (by omega)) z30 rfl (dAt dX0_goOn 20 rfl) (fun σ30 H locs eσ30 hw => ?_)
      replace h := h σ30 eσ30
      refine lv_iload_n hx hb (dAt dX0_goOn 21 rfl) rfl (lv_at hl 1 rfl) ?_
      refine lv_iload_n hx hb (dAt dX0_goOn 22 rfl) rfl (lv_at hl 2 rfl) ?_
      refine x_calli C hw (x_runSN (As := [.int x2, .int x3]) (rest := []) C hw (kX6_has l E hE x2 x3 σ30 _ h) mtX6_has lk_X0_123 ⟨by decide, by decide⟩ ⟨rfl, rfl⟩ rfl hl.1 rfl (Nat.le_of_ble_eq_true rfl) (dAt dX0_goOn 23 rfl) ⟨Nat.zero_le _, Nat.zero_le _⟩) (fun r33 σ33 H locs h hw => ?_)
      refine lv_if_ne (tgt := 131) hx hb (dAt dX0_goOn 24 rfl) (by decide) (fun c36 => ?_) (fun c36 => ?_)
      · replace h := h.1 c36
        refine lv_iinc (v := (x3 + (1 : Int32))) (lv' := [(3, .int (x3 + (1 : Int32))), (0, .ref (gE E b0)), (2, .int x2)]) hx hb (dAt dX0_goOn 77 rfl) hl (k := 2) rfl rfl (by decide) rfl (fun ls hl => ?_)
        refine lv_goto (tgt := 11) hx hb (dAt dX0_goOn 78 rfl) (by decide) ?_
        exact ih b0 x2 (x3 + (1 : Int32)) σ33 hb0 _ _ _ hw (lv_sub hl [1, 2, 0] rfl) h
      · replace h := h.2 c36
        refine lv_aload_n hx hb (dAt dX0_goOn 25 rfl) rfl (lv_at hl 0 rfl) ?_
        refine x_getr C hw fl_X0_24 (sD hE hb0) (nD hE hb0 (by omega)) rfl (dAt dX0_goOn 26 rfl) ?_
        refine lv_iload_n hx hb (dAt dX0_goOn 27 rfl) rfl (lv_at hl 2 rfl) ?_
        obtain ⟨z44, h⟩ := h
        refine x_ild C hw (sD_5 hE hb0) (nD hE hb0 (by omega)) z44 rfl (dAt dX0_goOn 28 rfl) ?_
        refine lv_if_ne (tgt := 62) hx hb (dAt dX0_goOn 29 rfl) (by decide) (fun c45 => ?_) (fun c45 => ?_)
        · replace h := h.1 c45
          exact kX0_goOn_62 hE C hr hlk ih b0 x2 x3 σ33 hb0 _ _ _ hw (lv_sub hl [0, 1, 2] rfl) h
        · replace h := h.2 c45
          refine lv_aload_n hx hb (dAt dX0_goOn 30 rfl) rfl (lv_at hl 0 rfl) ?_
          refine x_geti C hw fl_X0_71 (sD hE hb0) (nD hE hb0 (by omega)) rfl (dAt dX0_goOn 31 rfl) ?_
          refine lv_iload_n hx hb (dAt dX0_goOn 32 rfl) rfl (lv_at hl 2 rfl) ?_
          refine x_calli C hw (x_runSN (As := [.int (σ33 b0 15), .int x3]) (rest := []) C hw (kX6_has l E hE (σ33 b0 15) x3 σ33 _ h) mtX6_has lk_X0_123 ⟨by decide, by decide⟩ ⟨rfl, rfl⟩ rfl hl.1 rfl (Nat.le_of_ble_eq_true rfl) (dAt dX0_goOn 33 rfl) ⟨Nat.zero_le _, Nat.zero_le _⟩) (fun r53 σ53 H locs h hw => ?_)
          refine lv_if_eq (tgt := 62) hx hb (dAt dX0_goOn 34 rfl) (by decide) (fun c56 => ?_) (fun c56 => ?_)
          · replace h := h.1 c56
            exact kX0_goOn_62 hE C hr hlk ih b0 x2 x3 σ53 hb0 _ _ _ hw (lv_sub hl [0, 1, 2] rfl) h
          · replace h := h.2 c56
            refine lv_goto (tgt := 131) hx hb (dAt dX0_goOn 35 rfl) (by decide) ?_
            refine lv_iinc (v := (x3 + (1 : Int32))) (lv' := [(3, .int (x3 + (1 : Int32))), (0, .ref (gE E b0)), (2, .int x2)]) hx hb (dAt dX0_goOn 77 rfl) hl (k := 2) rfl rfl (by decide) rfl (fun ls hl => ?_)
            refine lv_goto (tgt := 11) hx hb (dAt dX0_goOn 78 rfl) (by decide) ?_
            exact ih b0 x2 (x3 + (1 : Int32)) σ53 hb0 _ _ _ hw (lv_sub hl [1, 2, 0] rfl) h
set_option maxHeartbeats 4000000 in
set_option maxRecDepth 100000 in
theorem kX0_goOn (l : Launch) (E : wE) (hE : wX E) (b0 : Nat) (hb0 : isD b0) (x1 : Int32) (σ : Mem) (Q : Mem → Prop) (h : wX0_goOn b0 x1 σ Q) : Met l yX0_goOn (Cond.code yX0_goOn cX0_goOn 4 none :: TB) rX0_goOn (wPc E σ [.ref (gE E b0), .int x1]) (wQv E Q) 0 0 (wA E) := by
  refine wMet (by decide) hE.2.2 (Nat.le_of_ble_eq_true rfl) ?_
  intro p e s m args below meth c ls C hr hlk hl hw
  have hx := C.1.1
  have hb := C.1.2.1
  replace C : Cx p s m args c cX0_goOn 4 RX0 E (wA E) := C
  replace hl : lv_has ls 4 [(0, .ref (gE E b0)), (1, .int x1)] := hl
  unfold wX0_goOn at h
  refine lv_aload_n hx hb (dAt dX0_goOn 0 rfl) rfl (lv_at hl 0 rfl) ?_
  refine x_getr C hw fl_X0_9 (sD hE hb0) (nD hE hb0 (by omega)) rfl (dAt dX0_goOn 1 rfl) ?_
  refine lv_iconst (v := 0) hx hb (dAt dX0_goOn 2 rfl) (by decide) ?_
  refine lv_iload_n hx hb (dAt dX0_goOn 3 rfl) rfl (lv_at hl 1 rfl) ?_
  refine lv_iadd hx hb (dAt dX0_goOn 4 rfl) ?_
  obtain ⟨z7, h⟩ := h
  refine x_ild C hw (sD_1 hE hb0) (nD hE hb0 (by omega)) z7 rfl (dAt dX0_goOn 5 rfl) ?_
  refine lv_topi (fun x2_8 ex2_8 => ?_)
  replace h := h x2_8 ex2_8
  refine lv_istore_n (lv' := [(2, .int x2_8), (0, .ref (gE E b0)), (1, .int x1)]) hx hb (dAt dX0_goOn 6 rfl) rfl hl (by decide) rfl (fun ls hl => ?_)
  refine lv_iconst (v := 0) hx hb (dAt dX0_goOn 7 rfl) (by decide) ?_
  refine lv_istore_n (lv' := [(3, .int (0 : Int32)), (2, .int x2_8), (0, .ref (gE E b0)), (1, .int x1)]) hx hb (dAt dX0_goOn 8 rfl) rfl hl (by decide) rfl (fun ls hl => ?_)
  obtain ⟨n11, h⟩ := h
  exact kX0_goOn_11 hE C hr hlk n11 b0 x2_8 (0 : Int32) σ hb0 _ _ _ hw (lv_sub hl [2, 1, 0] rfl) h
def tX0_haveMet : List (Nat × Instr × Nat) := [(0, .aload_n 0, 1), (1, .getfield 18, 3), (4, .iload_n 1, 1), (5, .iaload, 1), (6, .aload_n 0, 1), (7, .getfield 18, 3), (10, .iload_n 2, 1), (11, .iaload, 1), (12, .if_icmp .ne 5, 3), (15, .iconst 0, 1), (16, .ireturn, 1), (17, .aload_n 0, 1), (18, .getfield 15, 3), (21, .iload_n 1, 1), (22, .iaload, 1), (23, .aload_n 0, 1), (24, .getfield 15, 3), (27, .iload_n 2, 1), (28, .iaload, 1), (29, .if_icmp .eq 33, 3), (32, .aload_n 0, 1), (33, .getfield 15, 3), (36, .iload_n 1, 1), (37, .iaload, 1), (38, .aload_n 0, 1), (39, .getfield 18, 3), (42, .iload_n 2, 1), (43, .iaload, 1), (44, .if_icmp .ne 22, 3), (47, .aload_n 0, 1), (48, .getfield 15, 3), (51, .iload_n 2, 1), (52, .iaload, 1), (53, .aload_n 0, 1), (54, .getfield 18, 3), (57, .iload_n 1, 1), (58, .iaload, 1), (59, .if_icmp .ne 7, 3), (62, .iconst 1, 1), (63, .goto 4, 3), (66, .iconst 0, 1), (67, .ireturn, 1)]
theorem dX0_haveMet : dOk cX0_haveMet tX0_haveMet = true := by decide +kernel
abbrev rX0_haveMet : Room := { frames := 0, cells := 0, slots := 0, locals := 0 }
def wX0_haveMet (b0 : Nat) (x1 : Int32) (x2 : Int32) (σ : Mem) (Q : Int32 → Mem → Prop) : Prop := (vp_in x1 8 ∧ (vp_in x2 8 ∧ (((¬ (σ (b0 + 3) (x1).toNatClampNeg) = (σ (b0 + 3) (x2).toNatClampNeg)) → (vp_in x1 8 ∧ (vp_in x2 8 ∧ ((((σ (b0 + 2) (x1).toNatClampNeg) = (σ (b0 + 2) (x2).toNatClampNeg)) → (Q (1 : Int32) σ)) ∧ ((¬ (σ (b0 + 2) (x1).toNatClampNeg) = (σ (b0 + 2) (x2).toNatClampNeg)) → (vp_in x1 8 ∧ (vp_in x2 8 ∧ (((¬ (σ (b0 + 2) (x1).toNatClampNeg) = (σ (b0 + 3) (x2).toNatClampNeg)) → (Q (0 : Int32) σ)) ∧ (((σ (b0 + 2) (x1).toNatClampNeg) = (σ (b0 + 3) (x2).toNatClampNeg)) → (vp_in x2 8 ∧ (vp_in x1 8 ∧ (((¬ (σ (b0 + 2) (x2).toNatClampNeg) = (σ (b0 + 3) (x1).toNatClampNeg)) → (Q (0 : Int32) σ)) ∧ (((σ (b0 + 2) (x2).toNatClampNeg) = (σ (b0 + 3) (x1).toNatClampNeg)) → (Q (1 : Int32) σ)))))))))))))) ∧ (((σ (b0 + 3) (x1).toNatClampNeg) = (σ (b0 + 3) (x2).toNatClampNeg)) → (Q (0 : Int32) σ)))))
set_option maxHeartbeats 4000000 in
set_option maxRecDepth 100000 in
theorem kX0_haveMet (l : Launch) (E : wE) (hE : wX E) (b0 : Nat) (hb0 : isD b0) (x1 : Int32) (x2 : Int32) (σ : Mem) (Q : Int32 → Mem → Prop) (h : wX0_haveMet b0 x1 x2 σ Q) : Met l yX0_haveMet (Cond.code yX0_haveMet cX0_haveMet 3 (some .boolean) :: TB) rX0_haveMet (wPc E σ [.ref (gE E b0), .int x1, .int x2]) (wQi E Q) 0 0 (wA E) := by
  refine wMet (by decide) hE.2.2 (Nat.le_of_ble_eq_true rfl) ?_
  intro p e s m args below meth c ls C hr hlk hl hw
  have hx := C.1.1
  have hb := C.1.2.1
  replace C : Cx p s m args c cX0_haveMet 3 RX0 E (wA E) := C
  replace hl : lv_has ls 3 [(0, .ref (gE E b0)), (1, .int x1), (2, .int x2)] := hl
  unfold wX0_haveMet at h
  refine lv_aload_n hx hb (dAt dX0_haveMet 0 rfl) rfl (lv_at hl 0 rfl) ?_
  refine x_getr C hw fl_X0_18 (sD hE hb0) (nD hE hb0 (by omega)) rfl (dAt dX0_haveMet 1 rfl) ?_
  refine lv_iload_n hx hb (dAt dX0_haveMet 2 rfl) rfl (lv_at hl 1 rfl) ?_
  obtain ⟨z5, h⟩ := h
  refine x_ild C hw (sD_3 hE hb0) (nD hE hb0 (by omega)) z5 rfl (dAt dX0_haveMet 3 rfl) ?_
  refine lv_aload_n hx hb (dAt dX0_haveMet 4 rfl) rfl (lv_at hl 0 rfl) ?_
  refine x_getr C hw fl_X0_18 (sD hE hb0) (nD hE hb0 (by omega)) rfl (dAt dX0_haveMet 5 rfl) ?_
  refine lv_iload_n hx hb (dAt dX0_haveMet 6 rfl) rfl (lv_at hl 2 rfl) ?_
  obtain ⟨z11, h⟩ := h
  refine x_ild C hw (sD_3 hE hb0) (nD hE hb0 (by omega)) z11 rfl (dAt dX0_haveMet 7 rfl) ?_
  refine lv_icmp_ne (tgt := 17) hx hb (dAt dX0_haveMet 8 rfl) (by decide) (fun c12 => ?_) (fun c12 => ?_)
  · replace h := h.1 c12
    refine lv_aload_n hx hb (dAt dX0_haveMet 11 rfl) rfl (lv_at hl 0 rfl) ?_
    refine x_getr C hw fl_X0_15 (sD hE hb0) (nD hE hb0 (by omega)) rfl (dAt dX0_haveMet 12 rfl) ?_
    refine lv_iload_n hx hb (dAt dX0_haveMet 13 rfl) rfl (lv_at hl 1 rfl) ?_
    obtain ⟨z22, h⟩ := h
    refine x_ild C hw (sD_2 hE hb0) (nD hE hb0 (by omega)) z22 rfl (dAt dX0_haveMet 14 rfl) ?_
    refine lv_aload_n hx hb (dAt dX0_haveMet 15 rfl) rfl (lv_at hl 0 rfl) ?_
    refine x_getr C hw fl_X0_15 (sD hE hb0) (nD hE hb0 (by omega)) rfl (dAt dX0_haveMet 16 rfl) ?_
    refine lv_iload_n hx hb (dAt dX0_haveMet 17 rfl) rfl (lv_at hl 2 rfl) ?_
    obtain ⟨z28, h⟩ := h
    refine x_ild C hw (sD_2 hE hb0) (nD hE hb0 (by omega)) z28 rfl (dAt dX0_haveMet 18 rfl) ?_
    refine lv_icmp_eq (tgt := 62) hx hb (dAt dX0_haveMet 19 rfl) (by decide) (fun c29 => ?_) (fun c29 => ?_)
    · replace h := h.1 c29
      refine lv_iconst (v := 1) hx hb (dAt dX0_haveMet 38 rfl) (by decide) ?_
      refine lv_goto (tgt := 67) hx hb (dAt dX0_haveMet 39 rfl) (by decide) ?_
      exact x_zret C hw hr hlk rfl h (dAt dX0_haveMet 41 rfl)
    · replace h := h.2 c29
      refine lv_aload_n hx hb (dAt dX0_haveMet 20 rfl) rfl (lv_at hl 0 rfl) ?_
      refine x_getr C hw fl_X0_15 (sD hE hb0) (nD hE hb0 (by omega)) rfl (dAt dX0_haveMet 21 rfl) ?_
      refine lv_iload_n hx hb (dAt dX0_haveMet 22 rfl) rfl (lv_at hl 1 rfl) ?_
      obtain ⟨z37, h⟩ := h
      refine x_ild C hw (sD_2 hE hb0) (nD hE hb0 (by omega)) z37 rfl (dAt dX0_haveMet 23 rfl) ?_
      refine lv_aload_n hx hb (dAt dX0_haveMet 24 rfl) rfl (lv_at hl 0 rfl) ?_
      refine x_getr C hw fl_X0_18 (sD hE hb0) (nD hE hb0 (by omega)) rfl (dAt dX0_haveMet 25 rfl) ?_
      refine lv_iload_n hx hb (dAt dX0_haveMet 26 rfl) rfl (lv_at hl 2 rfl) ?_
      obtain ⟨z43, h⟩ := h
      refine x_ild C hw (sD_3 hE hb0) (nD hE hb0 (by omega)) z43 rfl (dAt dX0_haveMet 27 rfl) ?_
      refine lv_icmp_ne (tgt := 66) hx hb (dAt dX0_haveMet 28 rfl) (by decide) (fun c44 => ?_) (fun c44 => ?_)
      · replace h := h.1 c44
        refine lv_iconst (v := 0) hx hb (dAt dX0_haveMet 40 rfl) (by decide) ?_
        exact x_zret C hw hr hlk rfl h (dAt dX0_haveMet 41 rfl)
      · replace h := h.2 c44
        refine lv_aload_n hx hb (dAt dX0_haveMet 29 rfl) rfl (lv_at hl 0 rfl) ?_
        refine x_getr C hw fl_X0_15 (sD hE hb0) (nD hE hb0 (by omega)) rfl (dAt dX0_haveMet 30 rfl) ?_
        refine lv_iload_n hx hb (dAt dX0_haveMet 31 rfl) rfl (lv_at hl 2 rfl) ?_
        obtain ⟨z52, h⟩ := h
        refine x_ild C hw (sD_2 hE hb0) (nD hE hb0 (by omega)) z52 rfl (dAt dX0_haveMet 32 rfl) ?_
        refine lv_aload_n hx hb (dAt dX0_haveMet 33 rfl) rfl (lv_at hl 0 rfl) ?_
        refine x_getr C hw fl_X0_18 (sD hE hb0) (nD hE hb0 (by omega)) rfl (dAt dX0_haveMet 34 rfl) ?_
        refine lv_iload_n hx hb (dAt dX0_haveMet 35 rfl) rfl (lv_at hl 1 rfl) ?_
        obtain ⟨z58, h⟩ := h
        refine x_ild C hw (sD_3 hE hb0) (nD hE hb0 (by omega)) z58 rfl (dAt dX0_haveMet 36 rfl) ?_
        refine lv_icmp_ne (tgt := 66) hx hb (dAt dX0_haveMet 37 rfl) (by decide) (fun c59 => ?_) (fun c59 => ?_)
        · replace h := h.1 c59
          refine lv_iconst (v := 0) hx hb (dAt dX0_haveMet 40 rfl) (by decide) ?_
          exact x_zret C hw hr hlk rfl h (dAt dX0_haveMet 41 rfl)
        · replace h := h.2 c59
          refine lv_iconst (v := 1) hx hb (dAt dX0_haveMet 38 rfl) (by decide) ?_
          refine lv_goto (tgt := 67) hx hb (dAt dX0_haveMet 39 rfl) (by decide) ?_
          exact x_zret C hw hr hlk rfl h (dAt dX0_haveMet 41 rfl)
  · replace h := h.2 c12
    refine lv_iconst (v := 0) hx hb (dAt dX0_haveMet 9 rfl) (by decide) ?_
    exact x_zret C hw hr hlk rfl h (dAt dX0_haveMet 10 rfl)
def tX0_cross : List (Nat × Instr × Nat) := [(0, .aload_n 0, 1), (1, .getfield 9, 3), (4, .bipush 24, 2), (6, .iload_n 3, 1), (7, .iadd, 1), (8, .iaload, 1), (9, .istore 5, 2), (11, .iload 5, 2), (13, .iload_n 1, 1), (14, .ishr, 1), (15, .iload 5, 2), (17, .iload_n 2, 1), (18, .ishr, 1), (19, .ixor, 1), (20, .iconst 1, 1), (21, .iand, 1), (22, .ifCond .eq 7, 3), (25, .iconst 1, 1), (26, .goto 4, 3), (29, .iconst 0, 1), (30, .istore 6, 2), (32, .iload 4, 2), (34, .ifCond .ne 7, 3), (37, .iconst 1, 1), (38, .goto 4, 3), (41, .iconst 0, 1), (42, .iload 6, 2), (44, .if_icmp .eq 7, 3), (47, .iconst 1, 1), (48, .goto 4, 3), (51, .iconst 0, 1), (52, .istore 7, 2), (54, .aload_n 0, 1), (55, .getfield 21, 3), (58, .iload_n 1, 1), (59, .iaload, 1), (60, .ifCond .ne 7, 3), (63, .iconst 1, 1), (64, .goto 4, 3), (67, .iconst 0, 1), (68, .iload 7, 2), (70, .if_icmp .ne 7, 3), (73, .iload_n 1, 1), (74, .goto 4, 3), (77, .iload_n 2, 1), (78, .istore 8, 2), (80, .iload 8, 2), (82, .iload_n 1, 1), (83, .if_icmp .ne 7, 3), (86, .iload_n 2, 1), (87, .goto 4, 3), (90, .iload_n 1, 1), (91, .istore 9, 2), (93, .aload_n 0, 1), (94, .getfield 109, 3), (97, .iconst 1, 1), (98, .isub, 1), (99, .istore 10, 2), (101, .iload 10, 2), (103, .ifCond .lt 89, 3), (106, .aload_n 0, 1), (107, .getfield 42, 3), (110, .iload 10, 2), (112, .iaload, 1), (113, .iload 8, 2), (115, .if_icmp .ne 77, 3), (118, .aload_n 0, 1), (119, .getfield 45, 3), (122, .iload 10, 2), (124, .iaload, 1), (125, .iload 9, 2), (127, .if_icmp .ne 65, 3), (130, .aload_n 0, 1), (131, .getfield 51, 3), (134, .iload 10, 2), (136, .iaload, 1), (137, .aload_n 0, 1), (138, .getfield 21, 3), (141, .iload 8, 2), (143, .iaload, 1), (144, .if_icmp .eq 48, 3), (147, .aload_n 0, 1), (148, .dup, 1), (149, .getfield 109, 3), (152, .iconst 1, 1), (153, .isub, 1), (154, .putfield 109, 3), (157, .aload_n 0, 1), (158, .dup, 1), (159, .getfield 115, 3), (162, .iconst 1, 1), (163, .iadd, 1), (164, .putfield 115, 3), (167, .aload_n 0, 1), (168, .getfield 24, 3), (171, .iload 8, 2), (173, .dup2, 1), (174, .iaload, 1), (175, .iconst 1, 1), (176, .iadd, 1), (177, .iastore, 1), (178, .aload_n 0, 1), (179, .getfield 24, 3), (182, .iload 9, 2), (184, .dup2, 1), (185, .iaload, 1), (186, .iconst 1, 1), (187, .iadd, 1), (188, .iastore, 1), (189, .goto 122, 3), (192, .aload_n 0, 1), (193, .getfield 24, 3), (196, .iload 8, 2), (198, .iaload, 1), (199, .ifCond .le 112, 3), (202, .aload_n 0, 1), (203, .getfield 24, 3), (206, .iload 9, 2), (208, .iaload, 1), (209, .ifCond .le 102, 3), (212, .aload_n 0, 1), (213, .getfield 109, 3), (216, .bipush 120, 2), (218, .if_icmp .ge 93, 3), (221, .aload_n 0, 1), (222, .getfield 42, 3), (225, .aload_n 0, 1), (226, .getfield 109, 3), (229, .iload 8, 2), (231, .iastore, 1), (232, .aload_n 0, 1), (233, .getfield 45, 3), (236, .aload_n 0, 1), (237, .getfield 109, 3), (240, .iload 9, 2), (242, .iastore, 1), (243, .aload_n 0, 1), (244, .getfield 48, 3), (247, .aload_n 0, 1), (248, .getfield 109, 3), (251, .iload_n 3, 1), (252, .iastore, 1), (253, .aload_n 0, 1), (254, .getfield 51, 3), (257, .aload_n 0, 1), (258, .getfield 109, 3), (261, .aload_n 0, 1), (262, .getfield 21, 3), (265, .iload 8, 2), (267, .iaload, 1), (268, .iastore, 1), (269, .aload_n 0, 1), (270, .dup, 1), (271, .getfield 109, 3), (274, .iconst 1, 1), (275, .iadd, 1), (276, .putfield 109, 3), (279, .aload_n 0, 1), (280, .dup, 1), (281, .getfield 112, 3), (284, .iconst 1, 1), (285, .iadd, 1), (286, .putfield 112, 3), (289, .aload_n 0, 1), (290, .getfield 24, 3), (293, .iload 8, 2), (295, .dup2, 1), (296, .iaload, 1), (297, .iconst 1, 1), (298, .isub, 1), (299, .iastore, 1), (300, .aload_n 0, 1), (301, .getfield 24, 3), (304, .iload 9, 2), (306, .dup2, 1), (307, .iaload, 1), (308, .iconst 1, 1), (309, .isub, 1), (310, .iastore, 1), (311, .return_, 1)]
theorem dX0_cross : dOk cX0_cross tX0_cross = true := by decide +kernel
abbrev rX0_cross : Room := { frames := 0, cells := 0, slots := 0, locals := 0 }
def wX0_cross_192 (Q : Mem → Prop) (b0 : Nat) (x3 : Int32) (x8 : Int32) (x9 : Int32) (σ : Mem) : Prop := (vp_in x8 8 ∧ ((((σ (b0 + 5) (x8).toNatClampNeg) ≤ 0) → (Q σ)) ∧ ((¬ (σ (b0 + 5) (x8).toNatClampNeg) ≤ 0) → (vp_in x9 8 ∧ ((((σ (b0 + 5) (x9).toNatClampNeg) ≤ 0) → (Q σ)) ∧ ((¬ (σ (b0 + 5) (x9).toNatClampNeg) ≤ 0) → ((((120 : Int32) ≤ (σ b0 16)) → (Q σ)) ∧ ((¬ (120 : Int32) ≤ (σ b0 16)) → (vp_in (σ b0 16) 120 ∧ (∀ σ231 : Mem, σ231 = um σ (b0 + 11) ((σ b0 16)).toNatClampNeg x8 → (vp_in (σ231 b0 16) 120 ∧ (∀ σ242 : Mem, σ242 = um σ231 (b0 + 12) ((σ231 b0 16)).toNatClampNeg x9 → (vp_in (σ242 b0 16) 120 ∧ (∀ σ252 : Mem, σ252 = um σ242 (b0 + 13) ((σ242 b0 16)).toNatClampNeg x3 → (vp_in x8 8 ∧ (vp_in (σ252 b0 16) 120 ∧ (∀ σ268 : Mem, σ268 = um σ252 (b0 + 14) ((σ252 b0 16)).toNatClampNeg (σ252 (b0 + 4) (x8).toNatClampNeg) → (∀ σ276 : Mem, σ276 = um σ268 b0 16 ((σ268 b0 16) + (1 : Int32)) → (∀ σ286 : Mem, σ286 = um σ276 b0 17 ((σ276 b0 17) + (1 : Int32)) → (vp_in x8 8 ∧ (vp_in x8 8 ∧ (∀ σ299 : Mem, σ299 = um σ286 (b0 + 5) (x8).toNatClampNeg ((σ286 (b0 + 5) (x8).toNatClampNeg) - (1 : Int32)) → (vp_in x9 8 ∧ (vp_in x9 8 ∧ (∀ σ310 : Mem, σ310 = um σ299 (b0 + 5) (x9).toNatClampNeg ((σ299 (b0 + 5) (x9).toNatClampNeg) - (1 : Int32)) → (Q σ310))))))))))))))))))))))))))
def wX0_cross (b0 : Nat) (x1 : Int32) (x2 : Int32) (x3 : Int32) (x4 : Int32) (σ : Mem) (Q : Mem → Prop) : Prop := (vp_in ((24 : Int32) + x3) 72 ∧ (∀ x5_9 : Int32, x5_9 = (σ (b0 + 1) (((24 : Int32) + x3)).toNatClampNeg) → (∀ x6_30 : Int32, x6_30 = (if (((x5_9 >>> (x1 &&& 31)) ^^^ (x5_9 >>> (x2 &&& 31))) &&& (1 : Int32)) = 0 then (0 : Int32) else (1 : Int32)) → (∀ x7_52 : Int32, x7_52 = (if (if x4 = 0 then (1 : Int32) else (0 : Int32)) = x6_30 then (0 : Int32) else (1 : Int32)) → (vp_in x1 8 ∧ (∀ x8_78 : Int32, x8_78 = (if (if (σ (b0 + 4) (x1).toNatClampNeg) = 0 then (1 : Int32) else (0 : Int32)) = x7_52 then x1 else x2) → (∀ x9_91 : Int32, x9_91 = (if x8_78 = x1 then x2 else x1) → (∀ x10_99 : Int32, x10_99 = ((σ b0 16) - (1 : Int32)) → (((x10_99 < 0) → (wX0_cross_192 Q b0 x3 x8_78 x9_91 σ)) ∧ ((¬ x10_99 < 0) → (vp_in x10_99 120 ∧ (((¬ (σ (b0 + 11) (x10_99).toNatClampNeg) = x8_78) → (wX0_cross_192 Q b0 x3 x8_78 x9_91 σ)) ∧ (((σ (b0 + 11) (x10_99).toNatClampNeg) = x8_78) → (vp_in x10_99 120 ∧ (((¬ (σ (b0 + 12) (x10_99).toNatClampNeg) = x9_91) → (wX0_cross_192 Q b0 x3 x8_78 x9_91 σ)) ∧ (((σ (b0 + 12) (x10_99).toNatClampNeg) = x9_91) → (vp_in x10_99 120 ∧ (vp_in x8_78 8 ∧ ((((σ (b0 + 14) (x10_99).toNatClampNeg) = (σ (b0 + 4) (x8_78).toNatClampNeg)) → (wX0_cross_192 Q b0 x3 x8_78 x9_91 σ)) ∧ ((¬ (σ (b0 + 14) (x10_99).toNatClampNeg) = (σ (b0 + 4) (x8_78).toNatClampNeg)) → (∀ σ154 : Mem, σ154 = um σ b0 16 ((σ b0 16) - (1 : Int32)) → (∀ σ164 : Mem, σ164 = um σ154 b0 18 ((σ154 b0 18) + (1 : Int32)) → (vp_in x8_78 8 ∧ (vp_in x8_78 8 ∧ (∀ σ177 : Mem, σ177 = um σ164 (b0 + 5) (x8_78).toNatClampNeg ((σ164 (b0 + 5) (x8_78).toNatClampNeg) + (1 : Int32)) → (vp_in x9_91 8 ∧ (vp_in x9_91 8 ∧ (∀ σ188 : Mem, σ188 = um σ177 (b0 + 5) (x9_91).toNatClampNeg ((σ177 (b0 + 5) (x9_91).toNatClampNeg) + (1 : Int32)) → (Q σ188)))))))))))))))))))))))))))))
set_option maxHeartbeats 4000000 in
set_option maxRecDepth 100000 in
theorem kX0_cross_192 {p : Program} {l : Launch} {e : Env} {s : State} {m : MethodId} {args : Array Value} {below : List Frame} {meth : Method} {c : Code} {E : wE} (hE : wX E) (C : Cx p s m args c cX0_cross 11 RX0 E (wA E)) (hr : meth.sig.returnType = none) (hlk : meth.locks = false) {Q : Mem → Prop} : ∀ (b0 : Nat) (x3 : Int32) (x8 : Int32) (x9 : Int32) (σ : Mem) (hb0 : isD b0) (H : Heap) (locs : List Loc) (ls : Array Slot), wd E (wA E) s σ H locs → lv_has ls 11 [(0, .ref (gE E b0)), (3, .int x3), (8, .int x8), (9, .int x9)] → wX0_cross_192 Q b0 x3 x8 x9 σ → W p l e rX0_cross s m args below meth c H locs 0 0 (MQ below (wQv E Q) args s 0 0 (wA E)) (F0 m 192 ls []) := by
  have hx := C.1.1
  have hb := C.1.2.1
  intro b0 x3 x8 x9 σ hb0 H locs ls hw hl h
  unfold wX0_cross_192 at h
  refine lv_aload_n hx hb (dAt dX0_cross 110 rfl) rfl (lv_at hl 0 rfl) ?_
  refine x_getr C hw fl_X0_24 (sD hE hb0) (nD hE hb0 (by omega)) rfl (dAt dX0_cross 111 rfl) ?_
  refine lv_iload hx hb (dAt dX0_cross 112 rfl) (lv_at hl 2 rfl) ?_
  obtain ⟨z198, h⟩ := h
  refine x_ild C hw (sD_5 hE hb0) (nD hE hb0 (by omega)) z198 rfl (dAt dX0_cross 113 rfl) ?_
  refine lv_if_le (tgt := 311) hx hb (dAt dX0_cross 114 rfl) (by decide) (fun c199 => ?_) (fun c199 => ?_)
  · replace h := h.1 c199
    exact x_vret C hw hr hlk h (dAt dX0_cross 179 rfl)
  · replace h := h.2 c199
    refine lv_aload_n hx hb (dAt dX0_cross 115 rfl) rfl (lv_at hl 0 rfl) ?_
    refine x_getr C hw fl_X0_24 (sD hE hb0) (nD hE hb0 (by omega)) rfl (dAt dX0_cross 116 rfl) ?_
    refine lv_iload hx hb (dAt dX0_cross 117 rfl) (lv_at hl 3 rfl) ?_
    obtain ⟨z208, h⟩ := h
    refine x_ild C hw (sD_5 hE hb0) (nD hE hb0 (by omega)) z208 rfl (dAt dX0_cross 118 rfl) ?_
    refine lv_if_le (tgt := 311) hx hb (dAt dX0_cross 119 rfl) (by decide) (fun c209 => ?_) (fun c209 => ?_)
    · replace h := h.1 c209
      exact x_vret C hw hr hlk h (dAt dX0_cross 179 rfl)
    · replace h := h.2 c209
      refine lv_aload_n hx hb (dAt dX0_cross 120 rfl) rfl (lv_at hl 0 rfl) ?_
      refine x_geti C hw fl_X0_109 (sD hE hb0) (nD hE hb0 (by omega)) rfl (dAt dX0_cross 121 rfl) ?_
      refine lv_bipush (v := 120) hx hb (dAt dX0_cross 122 rfl) (by decide) ?_
      refine lv_icmp_ge (tgt := 311) hx hb (dAt dX0_cross 123 rfl) (by decide) (fun c218 => ?_) (fun c218 => ?_)
      · replace h := h.1 c218
        exact x_vret C hw hr hlk h (dAt dX0_cross 179 rfl)
      · replace h := h.2 c218
        refine lv_aload_n hx hb (dAt dX0_cross 124 rfl) rfl (lv_at hl 0 rfl) ?_
        refine x_getr C hw fl_X0_42 (sD hE hb0) (nD hE hb0 (by omega)) rfl (dAt dX0_cross 125 rfl) ?_
        refine lv_aload_n hx hb (dAt dX0_cross 126 rfl) rfl (lv_at hl 0 rfl) ?_
        refine x_geti C hw fl_X0_109 (sD hE hb0) (nD hE hb0 (by omega)) rfl (dAt dX0_cross 127 rfl) ?_
        refine lv_iload hx hb (dAt dX0_cross 128 rfl) (lv_at hl 2 rfl) ?_
        obtain ⟨z231, h⟩ := h
        refine x_ist C hw (sD_11 hE hb0) (nD hE hb0 (by omega)) z231 rfl (dAt dX0_cross 129 rfl) (fun σ231 H locs eσ231 hw => ?_)
        replace h := h σ231 eσ231
        refine lv_aload_n hx hb (dAt dX0_cross 130 rfl) rfl (lv_at hl 0 rfl) ?_
        refine x_getr C hw fl_X0_45 (sD hE hb0) (nD hE hb0 (by omega)) rfl (dAt dX0_cross 131 rfl) ?_
        refine lv_aload_n hx hb (dAt dX0_cross 132 rfl) rfl (lv_at hl 0 rfl) ?_
        refine x_geti C hw fl_X0_109 (sD hE hb0) (nD hE hb0 (by omega)) rfl (dAt dX0_cross 133 rfl) ?_
        refine lv_iload hx hb (dAt dX0_cross 134 rfl) (lv_at hl 3 rfl) ?_
        obtain ⟨z242, h⟩ := h
        refine x_ist C hw (sD_12 hE hb0) (nD hE hb0 (by omega)) z242 rfl (dAt dX0_cross 135 rfl) (fun σ242 H locs eσ242 hw => ?_)
        replace h := h σ242 eσ242
        refine lv_aload_n hx hb (dAt dX0_cross 136 rfl) rfl (lv_at hl 0 rfl) ?_
        refine x_getr C hw fl_X0_48 (sD hE hb0) (nD hE hb0 (by omega)) rfl (dAt dX0_cross 137 rfl) ?_
        refine lv_aload_n hx hb (dAt dX0_cross 138 rfl) rfl (lv_at hl 0 rfl) ?_
        refine x_geti C hw fl_X0_109 (sD hE hb0) (nD hE hb0 (by omega)) rfl (dAt dX0_cross 139 rfl) ?_
        refine lv_iload_n hx hb (dAt dX0_cross 140 rfl) rfl (lv_at hl 1 rfl) ?_
        obtain ⟨z252, h⟩ := h
        refine x_ist C hw (sD_13 hE hb0) (nD hE hb0 (by omega)) z252 rfl (dAt dX0_cross 141 rfl) (fun σ252 H locs eσ252 hw => ?_)
        replace h := h σ252 eσ252
        refine lv_aload_n hx hb (dAt dX0_cross 142 rfl) rfl (lv_at hl 0 rfl) ?_
        refine x_getr C hw fl_X0_51 (sD hE hb0) (nD hE hb0 (by omega)) rfl (dAt dX0_cross 143 rfl) ?_
        refine lv_aload_n hx hb (dAt dX0_cross 144 rfl) rfl (lv_at hl 0 rfl) ?_
        refine x_geti C hw fl_X0_109 (sD hE hb0) (nD hE hb0 (by omega)) rfl (dAt dX0_cross 145 rfl) ?_
        refine lv_aload_n hx hb (dAt dX0_cross 146 rfl) rfl (lv_at hl 0 rfl) ?_
        refine x_getr C hw fl_X0_21 (sD hE hb0) (nD hE hb0 (by omega)) rfl (dAt dX0_cross 147 rfl) ?_
        refine lv_iload hx hb (dAt dX0_cross 148 rfl) (lv_at hl 2 rfl) ?_
        obtain ⟨z267, h⟩ := h
        refine x_ild C hw (sD_4 hE hb0) (nD hE hb0 (by omega)) z267 rfl (dAt dX0_cross 149 rfl) ?_
        obtain ⟨z268, h⟩ := h
        refine x_ist C hw (sD_14 hE hb0) (nD hE hb0 (by omega)) z268 rfl (dAt dX0_cross 150 rfl) (fun σ268 H locs eσ268 hw => ?_)
        replace h := h σ268 eσ268
        refine lv_aload_n hx hb (dAt dX0_cross 151 rfl) rfl (lv_at hl 0 rfl) ?_
        refine lv_dup hx hb (dAt dX0_cross 152 rfl) rfl ?_
        refine x_geti C hw fl_X0_109 (sD hE hb0) (nD hE hb0 (by omega)) rfl (dAt dX0_cross 153 rfl) ?_
        refine lv_iconst (v := 1) hx hb (dAt dX0_cross 154 rfl) (by decide) ?_
        refine lv_iadd hx hb (dAt dX0_cross 155 rfl) ?_
        refine x_pf C hw fl_X0_109 (sD hE hb0) (nD hE hb0 (by omega)) rfl rfl rfl (dAt dX0_cross 156 rfl) (fun σ276 H locs eσ276 hw => ?_)
        replace h := h σ276 eσ276
        refine lv_aload_n hx hb (dAt dX0_cross 157 rfl) rfl (lv_at hl 0 rfl) ?_
        refine lv_dup hx hb (dAt dX0_cross 158 rfl) rfl ?_
        refine x_geti C hw fl_X0_112 (sD hE hb0) (nD hE hb0 (by omega)) rfl (dAt dX0_cross 159 rfl) ?_
        refine lv_iconst (v := 1) hx hb (dAt dX0_cross 160 rfl) (by decide) ?_
        refine lv_iadd hx hb (dAt dX0_cross 161 rfl) ?_
        refine x_pf C hw fl_X0_112 (sD hE hb0) (nD hE hb0 (by omega)) rfl rfl rfl (dAt dX0_cross 162 rfl) (fun σ286 H locs eσ286 hw => ?_)
        replace h := h σ286 eσ286
        refine lv_aload_n hx hb (dAt dX0_cross 163 rfl) rfl (lv_at hl 0 rfl) ?_
        refine x_getr C hw fl_X0_24 (sD hE hb0) (nD hE hb0 (by omega)) rfl (dAt dX0_cross 164 rfl) ?_
        refine lv_iload hx hb (dAt dX0_cross 165 rfl) (lv_at hl 2 rfl) ?_
        refine lv_dup2_11 hx hb (dAt dX0_cross 166 rfl) rfl rfl ?_
        obtain ⟨z296, h⟩ := h
        refine x_ild C hw (sD_5 hE hb0) (nD hE hb0 (by omega)) z296 rfl (dAt dX0_cross 167 rfl) ?_
        refine lv_iconst (v := 1) hx hb (dAt dX0_cross 168 rfl) (by decide) ?_
        refine lv_isub hx hb (dAt dX0_cross 169 rfl) ?_
        obtain ⟨z299, h⟩ := h
        refine x_ist C hw (sD_5 hE hb0) (nD hE hb0 (by omega)) z299 rfl (dAt dX0_cross 170 rfl) (fun σ299 H locs eσ299 hw => ?_)
        replace h := h σ299 eσ299
        refine lv_aload_n hx hb (dAt dX0_cross 171 rfl) rfl (lv_at hl 0 rfl) ?_
        refine x_getr C hw fl_X0_24 (sD hE hb0) (nD hE hb0 (by omega)) rfl (dAt dX0_cross 172 rfl) ?_
        refine lv_iload hx hb (dAt dX0_cross 173 rfl) (lv_at hl 3 rfl) ?_
        refine lv_dup2_11 hx hb (dAt dX0_cross 174 rfl) rfl rfl ?_
        obtain ⟨z307, h⟩ := h
        refine x_ild C hw (sD_5 hE hb0) (nD hE hb0 (by omega)) z307 rfl (dAt dX0_cross 175 rfl) ?_
        refine lv_iconst (v := 1) hx hb (dAt dX0_cross 176 rfl) (by decide) ?_
        refine lv_isub hx hb (dAt dX0_cross 177 rfl) ?_
        obtain ⟨z310, h⟩ := h
        refine x_ist C hw (sD_5 hE hb0) (nD hE hb0 (by omega)) z310 rfl (dAt dX0_cross 178 rfl) (fun σ310 H locs eσ310 hw => ?_)
        replace h := h σ310 eσ310
        exact x_vret C hw hr hlk h (dAt dX0_cross 179 rfl)
set_option maxHeartbeats 4000000 in
set_option maxRecDepth 100000 in
theorem kX0_cross (l : Launch) (E : wE) (hE : wX E) (b0 : Nat) (hb0 : isD b0) (x1 : Int32) (x2 : Int32) (x3 : Int32) (x4 : Int32) (σ : Mem) (Q : Mem → Prop) (h : wX0_cross b0 x1 x2 x3 x4 σ Q) : Met l yX0_cross (Cond.code yX0_cross cX0_cross 11 none :: TB) rX0_cross (wPc E σ [.ref (gE E b0), .int x1, .int x2, .int x3, .int x4]) (wQv E Q) 0 0 (wA E) := by
  refine wMet (by decide) hE.2.2 (Nat.le_of_ble_eq_true rfl) ?_
  intro p e s m args below meth c ls C hr hlk hl hw
  have hx := C.1.1
  have hb := C.1.2.1
  replace C : Cx p s m args c cX0_cross 11 RX0 E (wA E) := C
  replace hl : lv_has ls 11 [(0, .ref (gE E b0)), (1, .int x1), (2, .int x2), (3, .int x3), (4, .int x4)] := hl
  unfold wX0_cross at h
  refine lv_aload_n hx hb (dAt dX0_cross 0 rfl) rfl (lv_at hl 0 rfl) ?_
  refine x_getr C hw fl_X0_9 (sD hE hb0) (nD hE hb0 (by omega)) rfl (dAt dX0_cross 1 rfl) ?_
  refine lv_bipush (v := 24) hx hb (dAt dX0_cross 2 rfl) (by decide) ?_
  refine lv_iload_n hx hb (dAt dX0_cross 3 rfl) rfl (lv_at hl 3 rfl) ?_
  refine lv_iadd hx hb (dAt dX0_cross 4 rfl) ?_
  obtain ⟨z8, h⟩ := h
  refine x_ild C hw (sD_1 hE hb0) (nD hE hb0 (by omega)) z8 rfl (dAt dX0_cross 5 rfl) ?_
  refine lv_topi (fun x5_9 ex5_9 => ?_)
  replace h := h x5_9 ex5_9
  refine lv_istore (lv' := [(5, .int x5_9), (0, .ref (gE E b0)), (1, .int x1), (2, .int x2), (3, .int x3), (4, .int x4)]) hx hb (dAt dX0_cross 6 rfl) hl (by decide) rfl (fun ls hl => ?_)
  refine lv_iload hx hb (dAt dX0_cross 7 rfl) (lv_at hl 0 rfl) ?_
  refine lv_iload_n hx hb (dAt dX0_cross 8 rfl) rfl (lv_at hl 2 rfl) ?_
  refine lv_ishr hx hb (dAt dX0_cross 9 rfl) ?_
  refine lv_iload hx hb (dAt dX0_cross 10 rfl) (lv_at hl 0 rfl) ?_
  refine lv_iload_n hx hb (dAt dX0_cross 11 rfl) rfl (lv_at hl 3 rfl) ?_
  refine lv_ishr hx hb (dAt dX0_cross 12 rfl) ?_
  refine lv_ixor hx hb (dAt dX0_cross 13 rfl) ?_
  refine lv_iconst (v := 1) hx hb (dAt dX0_cross 14 rfl) (by decide) ?_
  refine lv_iand hx hb (dAt dX0_cross 15 rfl) ?_
  refine x_dia (ls := ls) (pcJ := 30) (cnd := (((x5_9 >>> (x1 &&& 31)) ^^^ (x5_9 >>> (x2 &&& 31))) &&& (1 : Int32)) = 0) (a := (0 : Int32)) (b := (1 : Int32)) ([]) ?_ (fun ht22 hf22 => ?_)
  · refine lv_topi (fun x6_30 ex6_30 => ?_)
    replace h := h x6_30 ex6_30
    refine lv_istore (lv' := [(6, .int x6_30), (5, .int x5_9), (0, .ref (gE E b0)), (1, .int x1), (2, .int x2), (3, .int x3), (4, .int x4)]) hx hb (dAt dX0_cross 20 rfl) hl (by decide) rfl (fun ls hl => ?_)
    refine lv_iload hx hb (dAt dX0_cross 21 rfl) (lv_at hl 6 rfl) ?_
    refine x_dia (ls := ls) (pcJ := 42) (cnd := x4 = 0) (a := (1 : Int32)) (b := (0 : Int32)) ([]) ?_ (fun ht34 hf34 => ?_)
    · refine lv_iload hx hb (dAt dX0_cross 26 rfl) (lv_at hl 0 rfl) ?_
      refine x_dia (ls := ls) (pcJ := 52) (cnd := (if x4 = 0 then (1 : Int32) else (0 : Int32)) = x6_30) (a := (0 : Int32)) (b := (1 : Int32)) ([]) ?_ (fun ht44 hf44 => ?_)
      · refine lv_topi (fun x7_52 ex7_52 => ?_)
        replace h := h x7_52 ex7_52
        refine lv_istore (lv' := [(7, .int x7_52), (6, .int x6_30), (5, .int x5_9), (0, .ref (gE E b0)), (1, .int x1), (2, .int x2), (3, .int x3), (4, .int x4)]) hx hb (dAt dX0_cross 31 rfl) hl (by decide) rfl (fun ls hl => ?_)
        refine lv_aload_n hx hb (dAt dX0_cross 32 rfl) rfl (lv_at hl 3 rfl) ?_
        refine x_getr C hw fl_X0_21 (sD hE hb0) (nD hE hb0 (by omega)) rfl (dAt dX0_cross 33 rfl) ?_
        refine lv_iload_n hx hb (dAt dX0_cross 34 rfl) rfl (lv_at hl 4 rfl) ?_
        obtain ⟨z59, h⟩ := h
        refine x_ild C hw (sD_4 hE hb0) (nD hE hb0 (by omega)) z59 rfl (dAt dX0_cross 35 rfl) ?_
        refine x_dia (ls := ls) (pcJ := 68) (cnd := (σ (b0 + 4) (x1).toNatClampNeg) = 0) (a := (1 : Int32)) (b := (0 : Int32)) ([]) ?_ (fun ht60 hf60 => ?_)
        · refine lv_iload hx hb (dAt dX0_cross 40 rfl) (lv_at hl 0 rfl) ?_
          refine x_dia (ls := ls) (pcJ := 78) (cnd := (if (σ (b0 + 4) (x1).toNatClampNeg) = 0 then (1 : Int32) else (0 : Int32)) = x7_52) (a := x1) (b := x2) ([]) ?_ (fun ht70 hf70 => ?_)
          · refine lv_topi (fun x8_78 ex8_78 => ?_)
            replace h := h x8_78 ex8_78
            refine lv_istore (lv' := [(8, .int x8_78), (7, .int x7_52), (6, .int x6_30), (5, .int x5_9), (0, .ref (gE E b0)), (1, .int x1), (2, .int x2), (3, .int x3), (4, .int x4)]) hx hb (dAt dX0_cross 45 rfl) hl (by decide) rfl (fun ls hl => ?_)
            refine lv_iload hx hb (dAt dX0_cross 46 rfl) (lv_at hl 0 rfl) ?_
            refine lv_iload_n hx hb (dAt dX0_cross 47 rfl) rfl (lv_at hl 5 rfl) ?_
            refine x_dia (ls := ls) (pcJ := 91) (cnd := x8_78 = x1) (a := x2) (b := x1) ([]) ?_ (fun ht83 hf83 => ?_)
            · refine lv_topi (fun x9_91 ex9_91 => ?_)
              replace h := h x9_91 ex9_91
              refine lv_istore (lv' := [(9, .int x9_91), (8, .int x8_78), (7, .int x7_52), (6, .int x6_30), (5, .int x5_9), (0, .ref (gE E b0)), (1, .int x1), (2, .int x2), (3, .int x3), (4, .int x4)]) hx hb (dAt dX0_cross 52 rfl) hl (by decide) rfl (fun ls hl => ?_)
              refine lv_aload_n hx hb (dAt dX0_cross 53 rfl) rfl (lv_at hl 5 rfl) ?_
              refine x_geti C hw fl_X0_109 (sD hE hb0) (nD hE hb0 (by omega)) rfl (dAt dX0_cross 54 rfl) ?_
              refine lv_iconst (v := 1) hx hb (dAt dX0_cross 55 rfl) (by decide) ?_
              refine lv_isub hx hb (dAt dX0_cross 56 rfl) ?_
              refine lv_topi (fun x10_99 ex10_99 => ?_)
              replace h := h x10_99 ex10_99
              refine lv_istore (lv' := [(10, .int x10_99), (9, .int x9_91), (8, .int x8_78), (7, .int x7_52), (6, .int x6_30), (5, .int x5_9), (0, .ref (gE E b0)), (1, .int x1), (2, .int x2), (3, .int x3), (4, .int x4)]) hx hb (dAt dX0_cross 57 rfl) hl (by decide) rfl (fun ls hl => ?_)
              refine lv_iload hx hb (dAt dX0_cross 58 rfl) (lv_at hl 0 rfl) ?_
              refine lv_if_lt (tgt := 192) hx hb (dAt dX0_cross 59 rfl) (by decide) (fun c103 => ?_) (fun c103 => ?_)
              · replace h := h.1 c103
                exact kX0_cross_192 hE C hr hlk b0 x3 x8_78 x9_91 σ hb0 _ _ _ hw (lv_sub hl [6, 9, 2, 1] rfl) h
              · replace h := h.2 c103
                refine lv_aload_n hx hb (dAt dX0_cross 60 rfl) rfl (lv_at hl 6 rfl) ?_
                refine x_getr C hw fl_X0_42 (sD hE hb0) (nD hE hb0 (by omega)) rfl (dAt dX0_cross 61 rfl) ?_
                refine lv_iload hx hb (dAt dX0_cross 62 rfl) (lv_at hl 0 rfl) ?_
                obtain ⟨z112, h⟩ := h
                refine x_ild C hw (sD_11 hE hb0) (nD hE hb0 (by omega)) z112 rfl (dAt dX0_cross 63 rfl) ?_
                refine lv_iload hx hb (dAt dX0_cross 64 rfl) (lv_at hl 2 rfl) ?_
                refine lv_icmp_ne (tgt := 192) hx hb (dAt dX0_cross 65 rfl) (by decide) (fun c115 => ?_) (fun c115 => ?_)
                · replace h := h.1 c115
                  exact kX0_cross_192 hE C hr hlk b0 x3 x8_78 x9_91 σ hb0 _ _ _ hw (lv_sub hl [6, 9, 2, 1] rfl) h
                · replace h := h.2 c115
                  refine lv_aload_n hx hb (dAt dX0_cross 66 rfl) rfl (lv_at hl 6 rfl) ?_
                  refine x_getr C hw fl_X0_45 (sD hE hb0) (nD hE hb0 (by omega)) rfl (dAt dX0_cross 67 rfl) ?_
                  refine lv_iload hx hb (dAt dX0_cross 68 rfl) (lv_at hl 0 rfl) ?_
                  obtain ⟨z124, h⟩ := h
                  refine x_ild C hw (sD_12 hE hb0) (nD hE hb0 (by omega)) z124 rfl (dAt dX0_cross 69 rfl) ?_
                  refine lv_iload hx hb (dAt dX0_cross 70 rfl) (lv_at hl 1 rfl) ?_
                  refine lv_icmp_ne (tgt := 192) hx hb (dAt dX0_cross 71 rfl) (by decide) (fun c127 => ?_) (fun c127 => ?_)
                  · replace h := h.1 c127
                    exact kX0_cross_192 hE C hr hlk b0 x3 x8_78 x9_91 σ hb0 _ _ _ hw (lv_sub hl [6, 9, 2, 1] rfl) h
                  · replace h := h.2 c127
                    refine lv_aload_n hx hb (dAt dX0_cross 72 rfl) rfl (lv_at hl 6 rfl) ?_
                    refine x_getr C hw fl_X0_51 (sD hE hb0) (nD hE hb0 (by omega)) rfl (dAt dX0_cross 73 rfl) ?_
                    refine lv_iload hx hb (dAt dX0_cross 74 rfl) (lv_at hl 0 rfl) ?_
                    obtain ⟨z136, h⟩ := h
                    refine x_ild C hw (sD_14 hE hb0) (nD hE hb0 (by omega)) z136 rfl (dAt dX0_cross 75 rfl) ?_
                    refine lv_aload_n hx hb (dAt dX0_cross 76 rfl) rfl (lv_at hl 6 rfl) ?_
                    refine x_getr C hw fl_X0_21 (sD hE hb0) (nD hE hb0 (by omega)) rfl (dAt dX0_cross 77 rfl) ?_
                    refine lv_iload hx hb (dAt dX0_cross 78 rfl) (lv_at hl 2 rfl) ?_
                    obtain ⟨z143, h⟩ := h
                    refine x_ild C hw (sD_4 hE hb0) (nD hE hb0 (by omega)) z143 rfl (dAt dX0_cross 79 rfl) ?_
                    refine lv_icmp_eq (tgt := 192) hx hb (dAt dX0_cross 80 rfl) (by decide) (fun c144 => ?_) (fun c144 => ?_)
                    · replace h := h.1 c144
                      exact kX0_cross_192 hE C hr hlk b0 x3 x8_78 x9_91 σ hb0 _ _ _ hw (lv_sub hl [6, 9, 2, 1] rfl) h
                    · replace h := h.2 c144
                      refine lv_aload_n hx hb (dAt dX0_cross 81 rfl) rfl (lv_at hl 6 rfl) ?_
                      refine lv_dup hx hb (dAt dX0_cross 82 rfl) rfl ?_
                      refine x_geti C hw fl_X0_109 (sD hE hb0) (nD hE hb0 (by omega)) rfl (dAt dX0_cross 83 rfl) ?_
                      refine lv_iconst (v := 1) hx hb (dAt dX0_cross 84 rfl) (by decide) ?_
                      refine lv_isub hx hb (dAt dX0_cross 85 rfl) ?_
                      refine x_pf C hw fl_X0_109 (sD hE hb0) (nD hE hb0 (by omega)) rfl rfl rfl (dAt dX0_cross 86 rfl) (fun σ154 H locs eσ154 hw => ?_)
                      replace h := h σ154 eσ154
                      refine lv_aload_n hx hb (dAt dX0_cross 87 rfl) rfl (lv_at hl 6 rfl) ?_
                      refine lv_dup hx hb (dAt dX0_cross 88 rfl) rfl ?_
                      refine x_geti C hw fl_X0_115 (sD hE hb0) (nD hE hb0 (by omega)) rfl (dAt dX0_cross 89 rfl) ?_
                      refine lv_iconst (v := 1) hx hb (dAt dX0_cross 90 rfl) (by decide) ?_
                      refine lv_iadd hx hb (dAt dX0_cross 91 rfl) ?_
                      refine x_pf C hw fl_X0_115 (sD hE hb0) (nD hE hb0 (by omega)) rfl rfl rfl (dAt dX0_cross 92 rfl) (fun σ164 H locs eσ164 hw => ?_)
                      replace h := h σ164 eσ164
                      refine lv_aload_n hx hb (dAt dX0_cross 93 rfl) rfl (lv_at hl 6 rfl) ?_
                      refine x_getr C hw fl_X0_24 (sD hE hb0) (nD hE hb0 (by omega)) rfl (dAt dX0_cross 94 rfl) ?_
                      refine lv_iload hx hb (dAt dX0_cross 95 rfl) (lv_at hl 2 rfl) ?_
                      refine lv_dup2_11 hx hb (dAt dX0_cross 96 rfl) rfl rfl ?_
                      obtain ⟨z174, h⟩ := h
                      refine x_ild C hw (sD_5 hE hb0) (nD hE hb0 (by omega)) z174 rfl (dAt dX0_cross 97 rfl) ?_
                      refine lv_iconst (v := 1) hx hb (dAt dX0_cross 98 rfl) (by decide) ?_
                      refine lv_iadd hx hb (dAt dX0_cross 99 rfl) ?_
                      obtain ⟨z177, h⟩ := h
                      refine x_ist C hw (sD_5 hE hb0) (nD hE hb0 (by omega)) z177 rfl (dAt dX0_cross 100 rfl) (fun σ177 H locs eσ177 hw => ?_)
                      replace h := h σ177 eσ177
                      refine lv_aload_n hx hb (dAt dX0_cross 101 rfl) rfl (lv_at hl 6 rfl) ?_
                      refine x_getr C hw fl_X0_24 (sD hE hb0) (nD hE hb0 (by omega)) rfl (dAt dX0_cross 102 rfl) ?_
                      refine lv_iload hx hb (dAt dX0_cross 103 rfl) (lv_at hl 1 rfl) ?_
                      refine lv_dup2_11 hx hb (dAt dX0_cross 104 rfl) rfl rfl ?_
                      obtain ⟨z185, h⟩ := h
                      refine x_ild C hw (sD_5 hE hb0) (nD hE hb0 (by omega)) z185 rfl (dAt dX0_cross 105 rfl) ?_
                      refine lv_iconst (v := 1) hx hb (dAt dX0_cross 106 rfl) (by decide) ?_
                      refine lv_iadd hx hb (dAt dX0_cross 107 rfl) ?_
                      obtain ⟨z188, h⟩ := h
                      refine x_ist C hw (sD_5 hE hb0) (nD hE hb0 (by omega)) z188 rfl (dAt dX0_cross 108 rfl) (fun σ188 H locs eσ188 hw => ?_)
                      replace h := h σ188 eσ188
                      refine lv_goto (tgt := 311) hx hb (dAt dX0_cross 109 rfl) (by decide) ?_
                      exact x_vret C hw hr hlk h (dAt dX0_cross 179 rfl)
            · refine lv_icmp_ne (tgt := 90) hx hb (dAt dX0_cross 48 rfl) (by decide) (fun c83 => ?_) (fun c83 => ?_)
              · refine lv_iload_n hx hb (dAt dX0_cross 51 rfl) rfl (lv_at hl 5 rfl) ?_
                exact hf83 c83
              · refine lv_iload_n hx hb (dAt dX0_cross 49 rfl) rfl (lv_at hl 6 rfl) ?_
                refine lv_goto (tgt := 91) hx hb (dAt dX0_cross 50 rfl) (by decide) ?_
                exact ht83 c83
          · refine lv_icmp_ne (tgt := 77) hx hb (dAt dX0_cross 41 rfl) (by decide) (fun c70 => ?_) (fun c70 => ?_)
            · refine lv_iload_n hx hb (dAt dX0_cross 44 rfl) rfl (lv_at hl 5 rfl) ?_
              exact hf70 c70
            · refine lv_iload_n hx hb (dAt dX0_cross 42 rfl) rfl (lv_at hl 4 rfl) ?_
              refine lv_goto (tgt := 78) hx hb (dAt dX0_cross 43 rfl) (by decide) ?_
              exact ht70 c70
        · refine lv_if_ne (tgt := 67) hx hb (dAt dX0_cross 36 rfl) (by decide) (fun c60 => ?_) (fun c60 => ?_)
          · refine lv_iconst (v := 0) hx hb (dAt dX0_cross 39 rfl) (by decide) ?_
            exact hf60 c60
          · refine lv_iconst (v := 1) hx hb (dAt dX0_cross 37 rfl) (by decide) ?_
            refine lv_goto (tgt := 68) hx hb (dAt dX0_cross 38 rfl) (by decide) ?_
            exact ht60 c60
      · refine lv_icmp_eq (tgt := 51) hx hb (dAt dX0_cross 27 rfl) (by decide) (fun c44 => ?_) (fun c44 => ?_)
        · refine lv_iconst (v := 0) hx hb (dAt dX0_cross 30 rfl) (by decide) ?_
          exact ht44 c44
        · refine lv_iconst (v := 1) hx hb (dAt dX0_cross 28 rfl) (by decide) ?_
          refine lv_goto (tgt := 52) hx hb (dAt dX0_cross 29 rfl) (by decide) ?_
          exact hf44 c44
    · refine lv_if_ne (tgt := 41) hx hb (dAt dX0_cross 22 rfl) (by decide) (fun c34 => ?_) (fun c34 => ?_)
      · refine lv_iconst (v := 0) hx hb (dAt dX0_cross 25 rfl) (by decide) ?_
        exact hf34 c34
      · refine lv_iconst (v := 1) hx hb (dAt dX0_cross 23 rfl) (by decide) ?_
        refine lv_goto (tgt := 42) hx hb (dAt dX0_cross 24 rfl) (by decide) ?_
        exact ht34 c34
  · refine lv_if_eq (tgt := 29) hx hb (dAt dX0_cross 16 rfl) (by decide) (fun c22 => ?_) (fun c22 => ?_)
    · refine lv_iconst (v := 0) hx hb (dAt dX0_cross 19 rfl) (by decide) ?_
      exact ht22 c22
    · refine lv_iconst (v := 1) hx hb (dAt dX0_cross 17 rfl) (by decide) ?_
      refine lv_goto (tgt := 30) hx hb (dAt dX0_cross 18 rfl) (by decide) ?_
      exact hf22 c22
def tX0_meetAll : List (Nat × Instr × Nat) := [(0, .iconst 0, 1), (1, .istore_n 3, 1), (2, .iload_n 3, 1), (3, .aload_n 0, 1), (4, .getfield 91, 3), (7, .if_icmp .ge 100, 3), (10, .iload_n 3, 1), (11, .iconst 1, 1), (12, .iadd, 1), (13, .istore 4, 2), (15, .iload 4, 2), (17, .aload_n 0, 1), (18, .getfield 91, 3), (21, .if_icmp .ge 80, 3), (24, .aload_n 0, 1), (25, .getfield 21, 3), (28, .iload_n 3, 1), (29, .iaload, 1), (30, .aload_n 0, 1), (31, .getfield 21, 3), (34, .iload 4, 2), (36, .iaload, 1), (37, .if_icmp .eq 58, 3), (40, .aload_n 0, 1), (41, .iload_n 3, 1), (42, .iload 4, 2), (44, .invokevirtual 136, 3), (47, .ifCond .ne 6, 3), (50, .goto 45, 3), (53, .aload_n 0, 1), (54, .getfield 39, 3), (57, .iload_n 1, 1), (58, .dup2, 1), (59, .iaload, 1), (60, .iconst 1, 1), (61, .iadd, 1), (62, .iastore, 1), (63, .aload_n 0, 1), (64, .getfield 71, 3), (67, .iload_n 3, 1), (68, .invokestatic 123, 3), (71, .ifCond .eq 24, 3), (74, .aload_n 0, 1), (75, .getfield 71, 3), (78, .iload 4, 2), (80, .invokestatic 123, 3), (83, .ifCond .eq 12, 3), (86, .aload_n 0, 1), (87, .iload_n 3, 1), (88, .iload 4, 2), (90, .iload_n 1, 1), (91, .iload_n 2, 1), (92, .invokevirtual 139, 3), (95, .iinc 4 1, 3), (98, .goto (-83), 3), (101, .iinc 3 1, 3), (104, .goto (-102), 3), (107, .return_, 1)]
theorem dX0_meetAll : dOk cX0_meetAll tX0_meetAll = true := by decide +kernel
abbrev rX0_meetAll : Room := { frames := 1, cells := 0, slots := 0, locals := 30 }
def wX0_meetAll_15 (K2 : Nat → Int32 → Int32 → Int32 → Mem → Prop) (Q : Mem → Prop) : Nat → Nat → Int32 → Int32 → Int32 → Int32 → Mem → Prop
  | 0, _, _, _, _, _, _ => False
  | n + 1, b0, x1, x2, x3, x4, σ => ((((σ b0 14) ≤ x4) → (K2 b0 x1 x2 (x3 + (1 : Int32)) σ)) ∧ ((¬ (σ b0 14) ≤ x4) → (vp_in x3 8 ∧ (vp_in x4 8 ∧ ((((σ (b0 + 4) (x3).toNatClampNeg) = (σ (b0 + 4) (x4).toNatClampNeg)) → (wX0_meetAll_15 K2 Q n b0 x1 x2 x3 (x4 + (1 : Int32)) σ)) ∧ ((¬ (σ (b0 + 4) (x3).toNatClampNeg) = (σ (b0 + 4) (x4).toNatClampNeg)) → (wX0_haveMet b0 x3 x4 σ (fun r44 σ44 => (((¬ r44 = 0) → (vp_in x1 24 ∧ (vp_in x1 24 ∧ (∀ σ62 : Mem, σ62 = um σ44 (b0 + 10) (x1).toNatClampNeg ((σ44 (b0 + 10) (x1).toNatClampNeg) + (1 : Int32)) → (wX6_has (σ62 b0 15) x3 σ62 (fun r68 σ68 => (((r68 = 0) → (wX0_meetAll_15 K2 Q n b0 x1 x2 x3 (x4 + (1 : Int32)) σ68)) ∧ ((¬ r68 = 0) → (wX6_has (σ68 b0 15) x4 σ68 (fun r80 σ80 => (((r80 = 0) → (wX0_meetAll_15 K2 Q n b0 x1 x2 x3 (x4 + (1 : Int32)) σ80)) ∧ ((¬ r80 = 0) → (wX0_cross b0 x3 x4 x1 x2 σ80 (fun σ92 => (wX0_meetAll_15 K2 Q n b0 x1 x2 x3 (x4 + (1 : Int32)) σ92))))))))))))))) ∧ ((r44 = 0) → (wX0_meetAll_15 K2 Q n b0 x1 x2 x3 (x4 + (1 : Int32)) σ44)))))))))))
def wX0_meetAll_2 (Q : Mem → Prop) : Nat → Nat → Int32 → Int32 → Int32 → Mem → Prop
  | 0, _, _, _, _, _ => False
  | n + 1, b0, x1, x2, x3, σ => ((((σ b0 14) ≤ x3) → (Q σ)) ∧ ((¬ (σ b0 14) ≤ x3) → (∀ x4_13 : Int32, x4_13 = (x3 + (1 : Int32)) → (∃ N15, wX0_meetAll_15 (fun b0 x1 x2 x3 ρ => wX0_meetAll_2 Q n b0 x1 x2 x3 ρ) Q N15 b0 x1 x2 x3 x4_13 σ))))
def wX0_meetAll (b0 : Nat) (x1 : Int32) (x2 : Int32) (σ : Mem) (Q : Mem → Prop) : Prop := (∃ N2, wX0_meetAll_2 Q N2 b0 x1 x2 (0 : Int32) σ)
set_option maxHeartbeats 4000000 in
set_option maxRecDepth 100000 in
theorem kX0_meetAll_15 {p : Program} {l : Launch} {e : Env} {s : State} {m : MethodId} {args : Array Value} {below : List Frame} {meth : Method} {c : Code} {E : wE} (hE : wX E) (C : Cx p s m args c cX0_meetAll 5 RX0 E (wA E)) (hr : meth.sig.returnType = none) (hlk : meth.locks = false) {Q : Mem → Prop} {K2 : Nat → Int32 → Int32 → Int32 → Mem → Prop} (hK2 : ∀ (b0 : Nat) (x1 : Int32) (x2 : Int32) (x3 : Int32) (σ : Mem) (hb0 : isD b0) (H : Heap) (locs : List Loc) (ls : Array Slot), wd E (wA E) s σ H locs → lv_has ls 5 [(0, .ref (gE E b0)), (1, .int x1), (2, .int x2), (3, .int x3)] → K2 b0 x1 x2 x3 σ → W p l e rX0_meetAll s m args below meth c H locs 0 0 (MQ below (wQv E Q) args s 0 0 (wA E)) (F0 m 2 ls [])) : ∀ (n : Nat) (b0 : Nat) (x1 : Int32) (x2 : Int32) (x3 : Int32) (x4 : Int32) (σ : Mem) (hb0 : isD b0) (H : Heap) (locs : List Loc) (ls : Array Slot), wd E (wA E) s σ H locs → lv_has ls 5 [(0, .ref (gE E b0)), (1, .int x1), (2, .int x2), (3, .int x3), (4, .int x4)] → wX0_meetAll_15 K2 Q n b0 x1 x2 x3 x4 σ → W p l e rX0_meetAll s m args below meth c H locs 0 0 (MQ below (wQv E Q) args s 0 0 (wA E)) (F0 m 15 ls []) := by
  have hx := C.1.1
  have hb := C.1.2.1
  intro n
  induction n with
  | zero =>
    intro b0 x1 x2 x3 x4 σ hb0 H locs ls hw hl h
    exact h.elim
  | succ n ih =>
    intro b0 x1 x2 x3 x4 σ hb0 H locs ls hw hl h
    rw [wX0_meetAll_15] at h
    refine lv_iload hx hb (dAt dX0_meetAll 10 rfl) (lv_at hl 4 rfl) ?_
    refine lv_aload_n hx hb (dAt dX0_meetAll 11 rfl) rfl (lv_at hl 0 rfl) ?_
    refine x_geti C hw fl_X0_91 (sD hE hb0) (nD hE hb0 (by omega)) rfl (dAt dX0_meetAll 12 rfl) ?_
    refine lv_icmp_ge (tgt := 101) hx hb (dAt dX0_meetAll 13 rfl) (by decide) (fun c21 => ?_) (fun c21 => ?_)
    · replace h := h.1 c21
      refine lv_iinc (v := (x3 + (1 : Int32))) (lv' := [(3, .int (x3 + (1 : Int32))), (0, .ref (gE E b0)), (1, .int x1), (2, .int x2), (4, .int x4)]) hx hb (dAt dX0_meetAll 55 rfl) hl (k := 3) rfl rfl (by decide) rfl (fun ls hl => ?_)
      refine lv_goto (tgt := 2) hx hb (dAt dX0_meetAll 56 rfl) (by decide) ?_
      exact hK2 b0 x1 x2 (x3 + (1 : Int32)) σ hb0 _ _ _ hw (lv_sub hl [1, 2, 3, 0] rfl) h
    · replace h := h.2 c21
      refine lv_aload_n hx hb (dAt dX0_meetAll 14 rfl) rfl (lv_at hl 0 rfl) ?_
      refine x_getr C hw fl_X0_21 (sD hE hb0) (nD hE hb0 (by omega)) rfl (dAt dX0_meetAll 15 rfl) ?_
      refine lv_iload_n hx hb (dAt dX0_meetAll 16 rfl) rfl (lv_at hl 3 rfl) ?_
      obtain ⟨z29, h⟩ := h
      refine x_ild C hw (sD_4 hE hb0) (nD hE hb0 (by omega)) z29 rfl (dAt dX0_meetAll 17 rfl) ?_
      refine lv_aload_n hx hb (dAt dX0_meetAll 18 rfl) rfl (lv_at hl 0 rfl) ?_
      refine x_getr C hw fl_X0_21 (sD hE hb0) (nD hE hb0 (by omega)) rfl (dAt dX0_meetAll 19 rfl) ?_
      refine lv_iload hx hb (dAt dX0_meetAll 20 rfl) (lv_at hl 4 rfl) ?_
      obtain ⟨z36, h⟩ := h
      refine x_ild C hw (sD_4 hE hb0) (nD hE hb0 (by omega)) z36 rfl (dAt dX0_meetAll 21 rfl) ?_
      refine lv_icmp_eq (tgt := 95) hx hb (dAt dX0_meetAll 22 rfl) (by decide) (fun c37 => ?_) (fun c37 => ?_)
      · replace h := h.1 c37
        refine lv_iinc (v := (x4 + (1 : Int32))) (lv' := [(4, .int (x4 + (1 : Int32))), (0, .ref (gE E b0)), (1, .int x1), (2, .int x2), (3, .int x3)]) hx hb (dAt dX0_meetAll 53 rfl) hl (k := 4) rfl rfl (by decide) rfl (fun ls hl => ?_)
        refine lv_goto (tgt := 15) hx hb (dAt dX0_meetAll 54 rfl) (by decide) ?_
        exact ih b0 x1 x2 x3 (x4 + (1 : Int32)) σ hb0 _ _ _ hw (lv_sub hl [1, 2, 3, 4, 0] rfl) h
      · replace h := h.2 c37
        refine lv_aload_n hx hb (dAt dX0_meetAll 23 rfl) rfl (lv_at hl 0 rfl) ?_
        refine lv_iload_n hx hb (dAt dX0_meetAll 24 rfl) rfl (lv_at hl 3 rfl) ?_
        refine lv_iload hx hb (dAt dX0_meetAll 25 rfl) (lv_at hl 4 rfl) ?_
        refine x_calli C hw (x_runV (As := [.int x3, .int x4]) (rest := []) C hw (kX0_haveMet l E hE b0 hb0 x3 x4 σ _ h) mtX0_haveMet lk_X0_136 (sD hE hb0) (nD hE hb0 (by omega)) rfl ⟨by decide, by decide⟩ ⟨rfl, rfl⟩ rfl hl.1 rfl (Nat.le_of_ble_eq_true rfl) (dAt dX0_meetAll 26 rfl) ⟨Nat.zero_le _, Nat.zero_le _⟩) (fun r44 σ44 H locs h hw => ?_)
        refine lv_if_ne (tgt := 53) hx hb (dAt dX0_meetAll 27 rfl) (by decide) (fun c47 => ?_) (fun c47 => ?_)
        · replace h := h.1 c47
          refine lv_aload_n hx hb (dAt dX0_meetAll 29 rfl) rfl (lv_at hl 0 rfl) ?_
          refine x_getr C hw fl_X0_39 (sD hE hb0) (nD hE hb0 (by omega)) rfl (dAt dX0_meetAll 30 rfl) ?_
          refine lv_iload_n hx hb (dAt dX0_meetAll 31 rfl) rfl (lv_at hl 1 rfl) ?_
          refine lv_dup2_11 hx hb (dAt dX0_meetAll 32 rfl) rfl rfl ?_
          obtain ⟨z59, h⟩ := h
          refine x_ild C hw (sD_10 hE hb0) (nD hE hb0 (by omega)) z59 rfl (dAt dX0_meetAll 33 rfl) ?_
          refine lv_iconst (v := 1) hx hb (dAt dX0_meetAll 34 rfl) (by decide) ?_
          refine lv_iadd hx hb (dAt dX0_meetAll 35 rfl) ?_
          obtain ⟨z62, h⟩ := h
          refine x_ist C hw (sD_10 hE hb0) (nD hE hb0 (by omega)) z62 rfl (dAt dX0_meetAll 36 rfl) (fun σ62 H locs eσ62 hw => ?_)
          replace h := h σ62 eσ62
          refine lv_aload_n hx hb (dAt dX0_meetAll 37 rfl) rfl (lv_at hl 0 rfl) ?_
          refine x_geti C hw fl_X0_71 (sD hE hb0) (nD hE hb0 (by omega)) rfl (dAt dX0_meetAll 38 rfl) ?_
          refine lv_iload_n hx hb (dAt dX0_meetAll 39 rfl) rfl (lv_at hl 3 rfl) ?_
          refine x_calli C hw (x_runSN (As := [.int (σ62 b0 15), .int x3]) (rest := []) C hw (kX6_has l E hE (σ62 b0 15) x3 σ62 _ h) mtX6_has lk_X0_123 ⟨by decide, by decide⟩ ⟨rfl, rfl⟩ rfl hl.1 rfl (Nat.le_of_ble_eq_true rfl) (dAt dX0_meetAll 40 rfl) ⟨Nat.zero_le _, Nat.zero_le _⟩) (fun r68 σ68 H locs h hw => ?_)
          refine lv_if_eq (tgt := 95) hx hb (dAt dX0_meetAll 41 rfl) (by decide) (fun c71 => ?_) (fun c71 => ?_)
          · replace h := h.1 c71
            refine lv_iinc (v := (x4 + (1 : Int32))) (lv' := [(4, .int (x4 + (1 : Int32))), (0, .ref (gE E b0)), (1, .int x1), (2, .int x2), (3, .int x3)]) hx hb (dAt dX0_meetAll 53 rfl) hl (k := 4) rfl rfl (by decide) rfl (fun ls hl => ?_)
            refine lv_goto (tgt := 15) hx hb (dAt dX0_meetAll 54 rfl) (by decide) ?_
            exact ih b0 x1 x2 x3 (x4 + (1 : Int32)) σ68 hb0 _ _ _ hw (lv_sub hl [1, 2, 3, 4, 0] rfl) h
          · replace h := h.2 c71
            refine lv_aload_n hx hb (dAt dX0_meetAll 42 rfl) rfl (lv_at hl 0 rfl) ?_
            refine x_geti C hw fl_X0_71 (sD hE hb0) (nD hE hb0 (by omega)) rfl (dAt dX0_meetAll 43 rfl) ?_
            refine lv_iload hx hb (dAt dX0_meetAll 44 rfl) (lv_at hl 4 rfl) ?_
            refine x_calli C hw (x_runSN (As := [.int (σ68 b0 15), .int x4]) (rest := []) C hw (kX6_has l E hE (σ68 b0 15) x4 σ68 _ h) mtX6_has lk_X0_123 ⟨by decide, by decide⟩ ⟨rfl, rfl⟩ rfl hl.1 rfl (Nat.le_of_ble_eq_true rfl) (dAt dX0_meetAll 45 rfl) ⟨Nat.zero_le _, Nat.zero_le _⟩) (fun r80 σ80 H locs h hw => ?_)
            refine lv_if_eq (tgt := 95) hx hb (dAt dX0_meetAll 46 rfl) (by decide) (fun c83 => ?_) (fun c83 => ?_)
            · replace h := h.1 c83
              refine lv_iinc (v := (x4 + (1 : Int32))) (lv' := [(4, .int (x4 + (1 : Int32))), (0, .ref (gE E b0)), (1, .int x1), (2, .int x2), (3, .int x3)]) hx hb (dAt dX0_meetAll 53 rfl) hl (k := 4) rfl rfl (by decide) rfl (fun ls hl => ?_)
              refine lv_goto (tgt := 15) hx hb (dAt dX0_meetAll 54 rfl) (by decide) ?_
              exact ih b0 x1 x2 x3 (x4 + (1 : Int32)) σ80 hb0 _ _ _ hw (lv_sub hl [1, 2, 3, 4, 0] rfl) h
            · replace h := h.2 c83
              refine lv_aload_n hx hb (dAt dX0_meetAll 47 rfl) rfl (lv_at hl 0 rfl) ?_
              refine lv_iload_n hx hb (dAt dX0_meetAll 48 rfl) rfl (lv_at hl 3 rfl) ?_
              refine lv_iload hx hb (dAt dX0_meetAll 49 rfl) (lv_at hl 4 rfl) ?_
              refine lv_iload_n hx hb (dAt dX0_meetAll 50 rfl) rfl (lv_at hl 1 rfl) ?_
              refine lv_iload_n hx hb (dAt dX0_meetAll 51 rfl) rfl (lv_at hl 2 rfl) ?_
              refine x_callv C hw (x_runV (As := [.int x3, .int x4, .int x1, .int x2]) (rest := []) C hw (kX0_cross l E hE b0 hb0 x3 x4 x1 x2 σ80 _ h) mtX0_cross lk_X0_139 (sD hE hb0) (nD hE hb0 (by omega)) rfl ⟨by decide, by decide⟩ ⟨rfl, rfl⟩ rfl hl.1 rfl (Nat.le_of_ble_eq_true rfl) (dAt dX0_meetAll 52 rfl) ⟨Nat.zero_le _, Nat.zero_le _⟩) (fun σ92 H locs h hw => ?_)
              refine lv_iinc (v := (x4 + (1 : Int32))) (lv' := [(4, .int (x4 + (1 : Int32))), (0, .ref (gE E b0)), (1, .int x1), (2, .int x2), (3, .int x3)]) hx hb (dAt dX0_meetAll 53 rfl) hl (k := 4) rfl rfl (by decide) rfl (fun ls hl => ?_)
              refine lv_goto (tgt := 15) hx hb (dAt dX0_meetAll 54 rfl) (by decide) ?_
              exact ih b0 x1 x2 x3 (x4 + (1 : Int32)) σ92 hb0 _ _ _ hw (lv_sub hl [1, 2, 3, 4, 0] rfl) h
        · replace h := h.2 c47
          refine lv_goto (tgt := 95) hx hb (dAt dX0_meetAll 28 rfl) (by decide) ?_
          refine lv_iinc (v := (x4 + (1 : Int32))) (lv' := [(4, .int (x4 + (1 : Int32))), (0, .ref (gE E b0)), (1, .int x1), (2, .int x2), (3, .int x3)]) hx hb (dAt dX0_meetAll 53 rfl) hl (k := 4) rfl rfl (by decide) rfl (fun ls hl => ?_)
          refine lv_goto (tgt := 15) hx hb (dAt dX0_meetAll 54 rfl) (by decide) ?_
          exact ih b0 x1 x2 x3 (x4 + (1 : Int32)) σ44 hb0 _ _ _ hw (lv_sub hl [1, 2, 3, 4, 0] rfl) h
set_option maxHeartbeats 4000000 in
set_option maxRecDepth 100000 in
theorem kX0_meetAll_2 {p : Program} {l : Launch} {e : Env} {s : State} {m : MethodId} {args : Array Value} {below : List Frame} {meth : Method} {c : Code} {E : wE} (hE : wX E) (C : Cx p s m args c cX0_meetAll 5 RX0 E (wA E)) (hr : meth.sig.returnType = none) (hlk : meth.locks = false) {Q : Mem → Prop} : ∀ (n : Nat) (b0 : Nat) (x1 : Int32) (x2 : Int32) (x3 : Int32) (σ : Mem) (hb0 : isD b0) (H : Heap) (locs : List Loc) (ls : Array Slot), wd E (wA E) s σ H locs → lv_has ls 5 [(0, .ref (gE E b0)), (1, .int x1), (2, .int x2), (3, .int x3)] → wX0_meetAll_2 Q n b0 x1 x2 x3 σ → W p l e rX0_meetAll s m args below meth c H locs 0 0 (MQ below (wQv E Q) args s 0 0 (wA E)) (F0 m 2 ls []) := by
  have hx := C.1.1
  have hb := C.1.2.1
  intro n
  induction n with
  | zero =>
    intro b0 x1 x2 x3 σ hb0 H locs ls hw hl h
    exact h.elim
  | succ n ih =>
    intro b0 x1 x2 x3 σ hb0 H locs ls hw hl h
    rw [wX0_meetAll_2] at h
    refine lv_iload_n hx hb (dAt dX0_meetAll 2 rfl) rfl (lv_at hl 3 rfl) ?_
    refine lv_aload_n hx hb (dAt dX0_meetAll 3 rfl) rfl (lv_at hl 0 rfl) ?_
    refine x_geti C hw fl_X0_91 (sD hE hb0) (nD hE hb0 (by omega)) rfl (dAt dX0_meetAll 4 rfl) ?_
    refine lv_icmp_ge (tgt := 107) hx hb (dAt dX0_meetAll 5 rfl) (by decide) (fun c7 => ?_) (fun c7 => ?_)
    · replace h := h.1 c7
      exact x_vret C hw hr hlk h (dAt dX0_meetAll 57 rfl)
    · replace h := h.2 c7
      refine lv_iload_n hx hb (dAt dX0_meetAll 6 rfl) rfl (lv_at hl 3 rfl) ?_
      refine lv_iconst (v := 1) hx hb (dAt dX0_meetAll 7 rfl) (by decide) ?_
      refine lv_iadd hx hb (dAt dX0_meetAll 8 rfl) ?_
      refine lv_topi (fun x4_13 ex4_13 => ?_)
      replace h := h x4_13 ex4_13
      refine lv_istore (lv' := [(4, .int x4_13), (0, .ref (gE E b0)), (1, .int x1), (2, .int x2), (3, .int x3)]) hx hb (dAt dX0_meetAll 9 rfl) hl (by decide) rfl (fun ls hl => ?_)
      obtain ⟨n15, h⟩ := h
      exact kX0_meetAll_15 hE C hr hlk ih n15 b0 x1 x2 x3 x4_13 σ hb0 _ _ _ hw (lv_sub hl [1, 2, 3, 4, 0] rfl) h
set_option maxHeartbeats 4000000 in
set_option maxRecDepth 100000 in
theorem kX0_meetAll (l : Launch) (E : wE) (hE : wX E) (b0 : Nat) (hb0 : isD b0) (x1 : Int32) (x2 : Int32) (σ : Mem) (Q : Mem → Prop) (h : wX0_meetAll b0 x1 x2 σ Q) : Met l yX0_meetAll (Cond.code yX0_meetAll cX0_meetAll 5 none :: TB) rX0_meetAll (wPc E σ [.ref (gE E b0), .int x1, .int x2]) (wQv E Q) 0 0 (wA E) := by
  refine wMet (by decide) hE.2.2 (Nat.le_of_ble_eq_true rfl) ?_
  intro p e s m args below meth c ls C hr hlk hl hw
  have hx := C.1.1
  have hb := C.1.2.1
  replace C : Cx p s m args c cX0_meetAll 5 RX0 E (wA E) := C
  replace hl : lv_has ls 5 [(0, .ref (gE E b0)), (1, .int x1), (2, .int x2)] := hl
  unfold wX0_meetAll at h
  refine lv_iconst (v := 0) hx hb (dAt dX0_meetAll 0 rfl) (by decide) ?_
  refine lv_istore_n (lv' := [(3, .int (0 : Int32)), (0, .ref (gE E b0)), (1, .int x1), (2, .int x2)]) hx hb (dAt dX0_meetAll 1 rfl) rfl hl (by decide) rfl (fun ls hl => ?_)
  obtain ⟨n2, h⟩ := h
  exact kX0_meetAll_2 hE C hr hlk n2 b0 x1 x2 (0 : Int32) σ hb0 _ _ _ hw (lv_sub hl [1, 2, 3, 0] rfl) h
def tX0_note : List (Nat × Instr × Nat) := [(0, .aload_n 0, 1), (1, .getfield 36, 3), (4, .iload_n 1, 1), (5, .aload_n 0, 1), (6, .getfield 109, 3), (9, .iastore, 1), (10, .iload_n 1, 1), (11, .bipush 8, 2), (13, .imul, 1), (14, .istore_n 2, 1), (15, .aload_n 0, 1), (16, .getfield 15, 3), (19, .iconst 0, 1), (20, .aload_n 0, 1), (21, .getfield 27, 3), (24, .iload_n 2, 1), (25, .bipush 8, 2), (27, .invokestatic 93, 3), (30, .aload_n 0, 1), (31, .getfield 21, 3), (34, .iconst 0, 1), (35, .aload_n 0, 1), (36, .getfield 30, 3), (39, .iload_n 2, 1), (40, .bipush 8, 2), (42, .invokestatic 93, 3), (45, .aload_n 0, 1), (46, .getfield 24, 3), (49, .iconst 0, 1), (50, .aload_n 0, 1), (51, .getfield 33, 3), (54, .iload_n 2, 1), (55, .bipush 8, 2), (57, .invokestatic 93, 3), (60, .return_, 1)]
theorem dX0_note : dOk cX0_note tX0_note = true := by decide +kernel
abbrev rX0_note : Room := { frames := 1, cells := 0, slots := 0, locals := 48 }
def wX0_note (b0 : Nat) (x1 : Int32) (σ : Mem) (Q : Mem → Prop) : Prop := (vp_in x1 24 ∧ (∀ σ9 : Mem, σ9 = um σ (b0 + 9) (x1).toNatClampNeg (σ b0 16) → (∀ x2_14 : Int32, x2_14 = (x1 * (8 : Int32)) → (cpOk (0 : Int32) x2_14 (8 : Int32) 8 192 ∧ ∀ σ27 : Mem, σ27 = cpM σ9 (b0 + 2) (b0 + 6) ((0 : Int32)).toNatClampNeg (x2_14).toNatClampNeg ((8 : Int32)).toNatClampNeg → (cpOk (0 : Int32) x2_14 (8 : Int32) 8 192 ∧ ∀ σ42 : Mem, σ42 = cpM σ27 (b0 + 4) (b0 + 7) ((0 : Int32)).toNatClampNeg (x2_14).toNatClampNeg ((8 : Int32)).toNatClampNeg → (cpOk (0 : Int32) x2_14 (8 : Int32) 8 192 ∧ ∀ σ57 : Mem, σ57 = cpM σ42 (b0 + 5) (b0 + 8) ((0 : Int32)).toNatClampNeg (x2_14).toNatClampNeg ((8 : Int32)).toNatClampNeg → (Q σ57)))))))
set_option maxHeartbeats 4000000 in
set_option maxRecDepth 100000 in
theorem kX0_note (l : Launch) (E : wE) (hE : wX E) (b0 : Nat) (hb0 : isD b0) (x1 : Int32) (σ : Mem) (Q : Mem → Prop) (h : wX0_note b0 x1 σ Q) : Met l yX0_note (Cond.code yX0_note cX0_note 3 none :: TB) rX0_note (wPc E σ [.ref (gE E b0), .int x1]) (wQv E Q) 0 0 (wA E) := by
  refine wMet (by decide) hE.2.2 (Nat.le_of_ble_eq_true rfl) ?_
  intro p e s m args below meth c ls C hr hlk hl hw
  have hx := C.1.1
  have hb := C.1.2.1
  replace C : Cx p s m args c cX0_note 3 RX0 E (wA E) := C
  replace hl : lv_has ls 3 [(0, .ref (gE E b0)), (1, .int x1)] := hl
  unfold wX0_note at h
  refine lv_aload_n hx hb (dAt dX0_note 0 rfl) rfl (lv_at hl 0 rfl) ?_
  refine x_getr C hw fl_X0_36 (sD hE hb0) (nD hE hb0 (by omega)) rfl (dAt dX0_note 1 rfl) ?_
  refine lv_iload_n hx hb (dAt dX0_note 2 rfl) rfl (lv_at hl 1 rfl) ?_
  refine lv_aload_n hx hb (dAt dX0_note 3 rfl) rfl (lv_at hl 0 rfl) ?_
  refine x_geti C hw fl_X0_109 (sD hE hb0) (nD hE hb0 (by omega)) rfl (dAt dX0_note 4 rfl) ?_
  obtain ⟨z9, h⟩ := h
  refine x_ist C hw (sD_9 hE hb0) (nD hE hb0 (by omega)) z9 rfl (dAt dX0_note 5 rfl) (fun σ9 H locs eσ9 hw => ?_)
  replace h := h σ9 eσ9
  refine lv_iload_n hx hb (dAt dX0_note 6 rfl) rfl (lv_at hl 1 rfl) ?_
  refine lv_bipush (v := 8) hx hb (dAt dX0_note 7 rfl) (by decide) ?_
  refine lv_imul hx hb (dAt dX0_note 8 rfl) ?_
  refine lv_topi (fun x2_14 ex2_14 => ?_)
  replace h := h x2_14 ex2_14
  refine lv_istore_n (lv' := [(2, .int x2_14), (0, .ref (gE E b0)), (1, .int x1)]) hx hb (dAt dX0_note 9 rfl) rfl hl (by decide) rfl (fun ls hl => ?_)
  refine lv_aload_n hx hb (dAt dX0_note 10 rfl) rfl (lv_at hl 1 rfl) ?_
  refine x_getr C hw fl_X0_15 (sD hE hb0) (nD hE hb0 (by omega)) rfl (dAt dX0_note 11 rfl) ?_
  refine lv_iconst (v := 0) hx hb (dAt dX0_note 12 rfl) (by decide) ?_
  refine lv_aload_n hx hb (dAt dX0_note 13 rfl) rfl (lv_at hl 1 rfl) ?_
  refine x_getr C hw fl_X0_27 (sD hE hb0) (nD hE hb0 (by omega)) rfl (dAt dX0_note 14 rfl) ?_
  refine lv_iload_n hx hb (dAt dX0_note 15 rfl) rfl (lv_at hl 0 rfl) ?_
  refine lv_bipush (v := 8) hx hb (dAt dX0_note 16 rfl) (by decide) ?_
  obtain ⟨z27, h⟩ := h
  refine x_cp C hw hl.1 lcp_X0_93 (sD_2 hE hb0) (nD hE hb0 (by omega)) (sD_6 hE hb0) (nD hE hb0 (by omega)) ncp_1 ncp_2 ncp_3 z27 (Nat.le_of_ble_eq_true rfl) (Nat.le_of_ble_eq_true rfl) (dAt dX0_note 17 rfl) (fun σ27 H locs eσ27 hw => ?_)
  replace h := h σ27 eσ27
  refine lv_aload_n hx hb (dAt dX0_note 18 rfl) rfl (lv_at hl 1 rfl) ?_
  refine x_getr C hw fl_X0_21 (sD hE hb0) (nD hE hb0 (by omega)) rfl (dAt dX0_note 19 rfl) ?_
  refine lv_iconst (v := 0) hx hb (dAt dX0_note 20 rfl) (by decide) ?_
  refine lv_aload_n hx hb (dAt dX0_note 21 rfl) rfl (lv_at hl 1 rfl) ?_
  refine x_getr C hw fl_X0_30 (sD hE hb0) (nD hE hb0 (by omega)) rfl (dAt dX0_note 22 rfl) ?_
  refine lv_iload_n hx hb (dAt dX0_note 23 rfl) rfl (lv_at hl 0 rfl) ?_
  refine lv_bipush (v := 8) hx hb (dAt dX0_note 24 rfl) (by decide) ?_
  obtain ⟨z42, h⟩ := h
  refine x_cp C hw hl.1 lcp_X0_93 (sD_4 hE hb0) (nD hE hb0 (by omega)) (sD_7 hE hb0) (nD hE hb0 (by omega)) ncp_1 ncp_2 ncp_3 z42 (Nat.le_of_ble_eq_true rfl) (Nat.le_of_ble_eq_true rfl) (dAt dX0_note 25 rfl) (fun σ42 H locs eσ42 hw => ?_)
  replace h := h σ42 eσ42
  refine lv_aload_n hx hb (dAt dX0_note 26 rfl) rfl (lv_at hl 1 rfl) ?_
  refine x_getr C hw fl_X0_24 (sD hE hb0) (nD hE hb0 (by omega)) rfl (dAt dX0_note 27 rfl) ?_
  refine lv_iconst (v := 0) hx hb (dAt dX0_note 28 rfl) (by decide) ?_
  refine lv_aload_n hx hb (dAt dX0_note 29 rfl) rfl (lv_at hl 1 rfl) ?_
  refine x_getr C hw fl_X0_33 (sD hE hb0) (nD hE hb0 (by omega)) rfl (dAt dX0_note 30 rfl) ?_
  refine lv_iload_n hx hb (dAt dX0_note 31 rfl) rfl (lv_at hl 0 rfl) ?_
  refine lv_bipush (v := 8) hx hb (dAt dX0_note 32 rfl) (by decide) ?_
  obtain ⟨z57, h⟩ := h
  refine x_cp C hw hl.1 lcp_X0_93 (sD_5 hE hb0) (nD hE hb0 (by omega)) (sD_8 hE hb0) (nD hE hb0 (by omega)) ncp_1 ncp_2 ncp_3 z57 (Nat.le_of_ble_eq_true rfl) (Nat.le_of_ble_eq_true rfl) (dAt dX0_note 33 rfl) (fun σ57 H locs eσ57 hw => ?_)
  replace h := h σ57 eσ57
  exact x_vret C hw hr hlk h (dAt dX0_note 34 rfl)
def tX0_play : List (Nat × Instr × Nat) := [(0, .aload_n 0, 1), (1, .aload_n 1, 1), (2, .invokevirtual 54, 3), (5, .aload_n 0, 1), (6, .aload_n 2, 1), (7, .aload_n 1, 1), (8, .getfield 58, 3), (11, .invokevirtual 64, 3), (14, .iconst 0, 1), (15, .istore_n 3, 1), (16, .iload_n 3, 1), (17, .bipush 24, 2), (19, .if_icmp .ge 82, 3), (22, .aload_n 1, 1), (23, .getfield 68, 3), (26, .iload_n 3, 1), (27, .iaload, 1), (28, .istore 4, 2), (30, .aload_n 0, 1), (31, .getfield 39, 3), (34, .iload_n 3, 1), (35, .iconst 0, 1), (36, .iastore, 1), (37, .aload_n 0, 1), (38, .dup, 1), (39, .getfield 71, 3), (42, .aload_n 0, 1), (43, .getfield 9, 3), (46, .bipush 48, 2), (48, .iload_n 3, 1), (49, .iadd, 1), (50, .iaload, 1), (51, .iconst (-1), 1), (52, .ixor, 1), (53, .iand, 1), (54, .putfield 71, 3), (57, .iload 4, 2), (59, .iconst 3, 1), (60, .if_icmp .ne 7, 3), (63, .aload_n 0, 1), (64, .invokevirtual 74, 3), (67, .iload 4, 2), (69, .ifCond .eq 9, 3), (72, .iload 4, 2), (74, .iconst 1, 1), (75, .if_icmp .ne 15, 3), (78, .aload_n 0, 1), (79, .iload_n 3, 1), (80, .invokevirtual 77, 3), (83, .aload_n 0, 1), (84, .iload_n 3, 1), (85, .iload 4, 2), (87, .invokevirtual 81, 3), (90, .aload_n 0, 1), (91, .iload_n 3, 1), (92, .invokevirtual 85, 3), (95, .iinc 3 1, 3), (98, .goto (-82), 3), (101, .return_, 1)]
theorem dX0_play : dOk cX0_play tX0_play = true := by decide +kernel
abbrev rX0_play : Room := { frames := 2, cells := 0, slots := 0, locals := 70 }
def wX0_play_90 (K16 : Nat → Nat → Int32 → Mem → Prop) (Q : Mem → Prop) (b0 : Nat) (b1 : Nat) (x3 : Int32) (σ : Mem) : Prop := (wX0_note b0 x3 σ (fun σ92 => (K16 b0 b1 (x3 + (1 : Int32)) σ92)))
def wX0_play_78 (K16 : Nat → Nat → Int32 → Mem → Prop) (Q : Mem → Prop) (b0 : Nat) (b1 : Nat) (x3 : Int32) (x4 : Int32) (σ : Mem) : Prop := (wX0_goOn b0 x3 σ (fun σ80 => (wX0_meetAll b0 x3 x4 σ80 (fun σ87 => (wX0_play_90 K16 Q b0 b1 x3 σ87)))))
def wX0_play_67 (K16 : Nat → Nat → Int32 → Mem → Prop) (Q : Mem → Prop) (b0 : Nat) (b1 : Nat) (x3 : Int32) (x4 : Int32) (σ : Mem) : Prop := (((x4 = 0) → (wX0_play_78 K16 Q b0 b1 x3 x4 σ)) ∧ ((¬ x4 = 0) → (((¬ x4 = (1 : Int32)) → (wX0_play_90 K16 Q b0 b1 x3 σ)) ∧ ((x4 = (1 : Int32)) → (wX0_play_78 K16 Q b0 b1 x3 x4 σ)))))
def wX0_play_16 (Q : Mem → Prop) : Nat → Nat → Nat → Int32 → Mem → Prop
  | 0, _, _, _, _ => False
  | n + 1, b0, b1, x3, σ => ((((24 : Int32) ≤ x3) → (Q σ)) ∧ ((¬ (24 : Int32) ≤ x3) → (vp_in x3 24 ∧ (∀ x4_28 : Int32, x4_28 = (σ (b1 + 4) (x3).toNatClampNeg) → (vp_in x3 24 ∧ (∀ σ36 : Mem, σ36 = um σ (b0 + 10) (x3).toNatClampNeg (0 : Int32) → (vp_in ((48 : Int32) + x3) 72 ∧ (∀ σ54 : Mem, σ54 = um σ36 b0 15 ((σ36 b0 15) &&& ((σ36 (b0 + 1) (((48 : Int32) + x3)).toNatClampNeg) ^^^ (-1 : Int32))) → (((¬ x4_28 = (3 : Int32)) → (wX0_play_67 (fun b0 b1 x3 ρ => wX0_play_16 Q n b0 b1 x3 ρ) Q b0 b1 x3 x4_28 σ54)) ∧ ((x4_28 = (3 : Int32)) → (wX0_turn b0 σ54 (fun σ64 => (wX0_play_67 (fun b0 b1 x3 ρ => wX0_play_16 Q n b0 b1 x3 ρ) Q b0 b1 x3 x4_28 σ64)))))))))))))
def wX0_play (b0 : Nat) (b1 : Nat) (σ : Mem) (Q : Mem → Prop) : Prop := (wX0_stand b0 b1 σ (fun σ2 => (wX0_spread b0 (σ2 b1 6) σ2 (fun σ11 => (∃ N16, wX0_play_16 Q N16 b0 b1 (0 : Int32) σ11)))))
set_option maxHeartbeats 4000000 in
set_option maxRecDepth 100000 in
theorem kX0_play_90 {p : Program} {l : Launch} {e : Env} {s : State} {m : MethodId} {args : Array Value} {below : List Frame} {meth : Method} {c : Code} {E : wE} (hE : wX E) (C : Cx p s m args c cX0_play 5 RX0 E (wA E)) (hr : meth.sig.returnType = none) (hlk : meth.locks = false) {Q : Mem → Prop} {K16 : Nat → Nat → Int32 → Mem → Prop} (hK16 : ∀ (b0 : Nat) (b1 : Nat) (x3 : Int32) (σ : Mem) (hb0 : isD b0) (hb1 : isS b1) (H : Heap) (locs : List Loc) (ls : Array Slot), wd E (wA E) s σ H locs → lv_has ls 5 [(0, .ref (gE E b0)), (1, .ref (gE E b1)), (3, .int x3)] → K16 b0 b1 x3 σ → W p l e rX0_play s m args below meth c H locs 0 0 (MQ below (wQv E Q) args s 0 0 (wA E)) (F0 m 16 ls [])) : ∀ (b0 : Nat) (b1 : Nat) (x3 : Int32) (σ : Mem) (hb0 : isD b0) (hb1 : isS b1) (H : Heap) (locs : List Loc) (ls : Array Slot), wd E (wA E) s σ H locs → lv_has ls 5 [(0, .ref (gE E b0)), (1, .ref (gE E b1)), (3, .int x3)] → wX0_play_90 K16 Q b0 b1 x3 σ → W p l e rX0_play s m args below meth c H locs 0 0 (MQ below (wQv E Q) args s 0 0 (wA E)) (F0 m 90 ls []) := by
  have hx := C.1.1
  have hb := C.1.2.1
  intro b0 b1 x3 σ hb0 hb1 H locs ls hw hl h
  unfold wX0_play_90 at h
  refine lv_aload_n hx hb (dAt dX0_play 53 rfl) rfl (lv_at hl 0 rfl) ?_
  refine lv_iload_n hx hb (dAt dX0_play 54 rfl) rfl (lv_at hl 2 rfl) ?_
  refine x_callv C hw (x_runV (As := [.int x3]) (rest := []) C hw (kX0_note l E hE b0 hb0 x3 σ _ h) mtX0_note lk_X0_85 (sD hE hb0) (nD hE hb0 (by omega)) rfl ⟨by decide, by decide⟩ ⟨rfl, rfl⟩ rfl hl.1 rfl (Nat.le_of_ble_eq_true rfl) (dAt dX0_play 55 rfl) ⟨Nat.zero_le _, Nat.zero_le _⟩) (fun σ92 H locs h hw => ?_)
  refine lv_iinc (v := (x3 + (1 : Int32))) (lv' := [(3, .int (x3 + (1 : Int32))), (0, .ref (gE E b0)), (1, .ref (gE E b1))]) hx hb (dAt dX0_play 56 rfl) hl (k := 2) rfl rfl (by decide) rfl (fun ls hl => ?_)
  refine lv_goto (tgt := 16) hx hb (dAt dX0_play 57 rfl) (by decide) ?_
  exact hK16 b0 b1 (x3 + (1 : Int32)) σ92 hb0 hb1 _ _ _ hw (lv_sub hl [1, 2, 0] rfl) h
set_option maxHeartbeats 4000000 in
set_option maxRecDepth 100000 in
theorem kX0_play_78 {p : Program} {l : Launch} {e : Env} {s : State} {m : MethodId} {args : Array Value} {below : List Frame} {meth : Method} {c : Code} {E : wE} (hE : wX E) (C : Cx p s m args c cX0_play 5 RX0 E (wA E)) (hr : meth.sig.returnType = none) (hlk : meth.locks = false) {Q : Mem → Prop} {K16 : Nat → Nat → Int32 → Mem → Prop} (hK16 : ∀ (b0 : Nat) (b1 : Nat) (x3 : Int32) (σ : Mem) (hb0 : isD b0) (hb1 : isS b1) (H : Heap) (locs : List Loc) (ls : Array Slot), wd E (wA E) s σ H locs → lv_has ls 5 [(0, .ref (gE E b0)), (1, .ref (gE E b1)), (3, .int x3)] → K16 b0 b1 x3 σ → W p l e rX0_play s m args below meth c H locs 0 0 (MQ below (wQv E Q) args s 0 0 (wA E)) (F0 m 16 ls [])) : ∀ (b0 : Nat) (b1 : Nat) (x3 : Int32) (x4 : Int32) (σ : Mem) (hb0 : isD b0) (hb1 : isS b1) (H : Heap) (locs : List Loc) (ls : Array Slot), wd E (wA E) s σ H locs → lv_has ls 5 [(0, .ref (gE E b0)), (1, .ref (gE E b1)), (3, .int x3), (4, .int x4)] → wX0_play_78 K16 Q b0 b1 x3 x4 σ → W p l e rX0_play s m args below meth c H locs 0 0 (MQ below (wQv E Q) args s 0 0 (wA E)) (F0 m 78 ls []) := by
  have hx := C.1.1
  have hb := C.1.2.1
  intro b0 b1 x3 x4 σ hb0 hb1 H locs ls hw hl h
  unfold wX0_play_78 at h
  refine lv_aload_n hx hb (dAt dX0_play 46 rfl) rfl (lv_at hl 0 rfl) ?_
  refine lv_iload_n hx hb (dAt dX0_play 47 rfl) rfl (lv_at hl 2 rfl) ?_
  refine x_callv C hw (x_runV (As := [.int x3]) (rest := []) C hw (kX0_goOn l E hE b0 hb0 x3 σ _ h) mtX0_goOn lk_X0_77 (sD hE hb0) (nD hE hb0 (by omega)) rfl ⟨by decide, by decide⟩ ⟨rfl, rfl⟩ rfl hl.1 rfl (Nat.le_of_ble_eq_true rfl) (dAt dX0_play 48 rfl) ⟨Nat.zero_le _, Nat.zero_le _⟩) (fun σ80 H locs h hw => ?_)
  refine lv_aload_n hx hb (dAt dX0_play 49 rfl) rfl (lv_at hl 0 rfl) ?_
  refine lv_iload_n hx hb (dAt dX0_play 50 rfl) rfl (lv_at hl 2 rfl) ?_
  refine lv_iload hx hb (dAt dX0_play 51 rfl) (lv_at hl 3 rfl) ?_
  refine x_callv C hw (x_runV (As := [.int x3, .int x4]) (rest := []) C hw (kX0_meetAll l E hE b0 hb0 x3 x4 σ80 _ h) mtX0_meetAll lk_X0_81 (sD hE hb0) (nD hE hb0 (by omega)) rfl ⟨by decide, by decide⟩ ⟨rfl, rfl⟩ rfl hl.1 rfl (Nat.le_of_ble_eq_true rfl) (dAt dX0_play 52 rfl) ⟨Nat.zero_le _, Nat.zero_le _⟩) (fun σ87 H locs h hw => ?_)
  exact kX0_play_90 hE C hr hlk hK16 b0 b1 x3 σ87 hb0 hb1 _ _ _ hw (lv_sub hl [0, 1, 2] rfl) h
set_option maxHeartbeats 4000000 in
set_option maxRecDepth 100000 in
theorem kX0_play_67 {p : Program} {l : Launch} {e : Env} {s : State} {m : MethodId} {args : Array Value} {below : List Frame} {meth : Method} {c : Code} {E : wE} (hE : wX E) (C : Cx p s m args c cX0_play 5 RX0 E (wA E)) (hr : meth.sig.returnType = none) (hlk : meth.locks = false) {Q : Mem → Prop} {K16 : Nat → Nat → Int32 → Mem → Prop} (hK16 : ∀ (b0 : Nat) (b1 : Nat) (x3 : Int32) (σ : Mem) (hb0 : isD b0) (hb1 : isS b1) (H : Heap) (locs : List Loc) (ls : Array Slot), wd E (wA E) s σ H locs → lv_has ls 5 [(0, .ref (gE E b0)), (1, .ref (gE E b1)), (3, .int x3)] → K16 b0 b1 x3 σ → W p l e rX0_play s m args below meth c H locs 0 0 (MQ below (wQv E Q) args s 0 0 (wA E)) (F0 m 16 ls [])) : ∀ (b0 : Nat) (b1 : Nat) (x3 : Int32) (x4 : Int32) (σ : Mem) (hb0 : isD b0) (hb1 : isS b1) (H : Heap) (locs : List Loc) (ls : Array Slot), wd E (wA E) s σ H locs → lv_has ls 5 [(0, .ref (gE E b0)), (1, .ref (gE E b1)), (3, .int x3), (4, .int x4)] → wX0_play_67 K16 Q b0 b1 x3 x4 σ → W p l e rX0_play s m args below meth c H locs 0 0 (MQ below (wQv E Q) args s 0 0 (wA E)) (F0 m 67 ls []) := by
  have hx := C.1.1
  have hb := C.1.2.1
  intro b0 b1 x3 x4 σ hb0 hb1 H locs ls hw hl h
  unfold wX0_play_67 at h
  refine lv_iload hx hb (dAt dX0_play 41 rfl) (lv_at hl 3 rfl) ?_
  refine lv_if_eq (tgt := 78) hx hb (dAt dX0_play 42 rfl) (by decide) (fun c69 => ?_) (fun c69 => ?_)
  · replace h := h.1 c69
    exact kX0_play_78 hE C hr hlk hK16 b0 b1 x3 x4 σ hb0 hb1 _ _ _ hw (lv_sub hl [0, 1, 2, 3] rfl) h
  · replace h := h.2 c69
    refine lv_iload hx hb (dAt dX0_play 43 rfl) (lv_at hl 3 rfl) ?_
    refine lv_iconst (v := 1) hx hb (dAt dX0_play 44 rfl) (by decide) ?_
    refine lv_icmp_ne (tgt := 90) hx hb (dAt dX0_play 45 rfl) (by decide) (fun c75 => ?_) (fun c75 => ?_)
    · replace h := h.1 c75
      exact kX0_play_90 hE C hr hlk hK16 b0 b1 x3 σ hb0 hb1 _ _ _ hw (lv_sub hl [0, 1, 2] rfl) h
    · replace h := h.2 c75
      exact kX0_play_78 hE C hr hlk hK16 b0 b1 x3 x4 σ hb0 hb1 _ _ _ hw (lv_sub hl [0, 1, 2, 3] rfl) h
set_option maxHeartbeats 4000000 in
set_option maxRecDepth 100000 in
theorem kX0_play_16 {p : Program} {l : Launch} {e : Env} {s : State} {m : MethodId} {args : Array Value} {below : List Frame} {meth : Method} {c : Code} {E : wE} (hE : wX E) (C : Cx p s m args c cX0_play 5 RX0 E (wA E)) (hr : meth.sig.returnType = none) (hlk : meth.locks = false) {Q : Mem → Prop} : ∀ (n : Nat) (b0 : Nat) (b1 : Nat) (x3 : Int32) (σ : Mem) (hb0 : isD b0) (hb1 : isS b1) (H : Heap) (locs : List Loc) (ls : Array Slot), wd E (wA E) s σ H locs → lv_has ls 5 [(0, .ref (gE E b0)), (1, .ref (gE E b1)), (3, .int x3)] → wX0_play_16 Q n b0 b1 x3 σ → W p l e rX0_play s m args below meth c H locs 0 0 (MQ below (wQv E Q) args s 0 0 (wA E)) (F0 m 16 ls []) := by
  have hx := C.1.1
  have hb := C.1.2.1
  intro n
  induction n with
  | zero =>
    intro b0 b1 x3 σ hb0 hb1 H locs ls hw hl h
    exact h.elim
  | succ n ih =>
    intro b0 b1 x3 σ hb0 hb1 H locs ls hw hl h
    rw [wX0_play_16] at h
    refine lv_iload_n hx hb (dAt dX0_play 10 rfl) rfl (lv_at hl 2 rfl) ?_
    refine lv_bipush (v := 24) hx hb (dAt dX0_play 11 rfl) (by decide) ?_
    refine lv_icmp_ge (tgt := 101) hx hb (dAt dX0_play 12 rfl) (by decide) (fun c19 => ?_) (fun c19 => ?_)
    · replace h := h.1 c19
      exact x_vret C hw hr hlk h (dAt dX0_play 58 rfl)
    · replace h := h.2 c19
      refine lv_aload_n hx hb (dAt dX0_play 13 rfl) rfl (lv_at hl 1 rfl) ?_
      refine x_getrN C hw fl_X0_68 (sS hE hb1) (nS hE hb1 (by omega)) rfl (dAt dX0_play 14 rfl) ?_
      refine lv_iload_n hx hb (dAt dX0_play 15 rfl) rfl (lv_at hl 2 rfl) ?_
      obtain ⟨z27, h⟩ := h
      refine x_ild C hw (sS_4 hE hb1) (nS hE hb1 (by omega)) z27 rfl (dAt dX0_play 16 rfl) ?_
      refine lv_topi (fun x4_28 ex4_28 => ?_)
      replace h := h x4_28 ex4_28
      refine lv_istore (lv' := [(4, .int x4_28), (0, .ref (gE E b0)), (1, .ref (gE E b1)), (3, .int x3)]) hx hb (dAt dX0_play 17 rfl) hl (by decide) rfl (fun ls hl => ?_)
      refine lv_aload_n hx hb (dAt dX0_play 18 rfl) rfl (lv_at hl 1 rfl) ?_
      refine x_getr C hw fl_X0_39 (sD hE hb0) (nD hE hb0 (by omega)) rfl (dAt dX0_play 19 rfl) ?_
      refine lv_iload_n hx hb (dAt dX0_play 20 rfl) rfl (lv_at hl 3 rfl) ?_
      refine lv_iconst (v := 0) hx hb (dAt dX0_play 21 rfl) (by decide) ?_
      obtain ⟨z36, h⟩ := h
      refine x_ist C hw (sD_10 hE hb0) (nD hE hb0 (by omega)) z36 rfl (dAt dX0_play 22 rfl) (fun σ36 H locs eσ36 hw => ?_)
      replace h := h σ36 eσ36
      refine lv_aload_n hx hb (dAt dX0_play 23 rfl) rfl (lv_at hl 1 rfl) ?_
      refine lv_dup hx hb (dAt dX0_play 24 rfl) rfl ?_
      refine x_geti C hw fl_X0_71 (sD hE hb0) (nD hE hb0 (by omega)) rfl (dAt dX0_play 25 rfl) ?_
      refine lv_aload_n hx hb (dAt dX0_play 26 rfl) rfl (lv_at hl 1 rfl) ?_
      refine x_getr C hw fl_X0_9 (sD hE hb0) (nD hE hb0 (by omega)) rfl (dAt dX0_play 27 rfl) ?_
      refine lv_bipush (v := 48) hx hb (dAt dX0_play 28 rfl) (by decide) ?_
      refine lv_iload_n hx hb (dAt dX0_play 29 rfl) rfl (lv_at hl 3 rfl) ?_
      refine lv_iadd hx hb (dAt dX0_play 30 rfl) ?_
      obtain ⟨z50, h⟩ := h
      refine x_ild C hw (sD_1 hE hb0) (nD hE hb0 (by omega)) z50 rfl (dAt dX0_play 31 rfl) ?_
      refine lv_iconst (v := -1) hx hb (dAt dX0_play 32 rfl) (by decide) ?_
      refine lv_ixor hx hb (dAt dX0_play 33 rfl) ?_
      refine lv_iand hx hb (dAt dX0_play 34 rfl) ?_
      refine x_pf C hw fl_X0_71 (sD hE hb0) (nD hE hb0 (by omega)) rfl rfl rfl (dAt dX0_play 35 rfl) (fun σ54 H locs eσ54 hw => ?_)
      replace h := h σ54 eσ54
      refine lv_iload hx hb (dAt dX0_play 36 rfl) (lv_at hl 0 rfl) ?_
      refine lv_iconst (v := 3) hx hb (dAt dX0_play 37 rfl) (by decide) ?_
      refine lv_icmp_ne (tgt := 67) hx hb (dAt dX0_play 38 rfl) (by decide) (fun c60 => ?_) (fun c60 => ?_)
      · replace h := h.1 c60
        exact kX0_play_67 hE C hr hlk ih b0 b1 x3 x4_28 σ54 hb0 hb1 _ _ _ hw (lv_sub hl [1, 2, 3, 0] rfl) h
      · replace h := h.2 c60
        refine lv_aload_n hx hb (dAt dX0_play 39 rfl) rfl (lv_at hl 1 rfl) ?_
        refine x_callv C hw (x_runV (As := []) (rest := []) C hw (kX0_turn l E hE b0 hb0 σ54 _ h) mtX0_turn lk_X0_74 (sD hE hb0) (nD hE hb0 (by omega)) rfl ⟨by decide, by decide⟩ ⟨rfl, rfl⟩ rfl hl.1 rfl (Nat.le_of_ble_eq_true rfl) (dAt dX0_play 40 rfl) ⟨Nat.zero_le _, Nat.zero_le _⟩) (fun σ64 H locs h hw => ?_)
        exact kX0_play_67 hE C hr hlk ih b0 b1 x3 x4_28 σ64 hb0 hb1 _ _ _ hw (lv_sub hl [1, 2, 3, 0] rfl) h
set_option maxHeartbeats 4000000 in
set_option maxRecDepth 100000 in
theorem kX0_play (l : Launch) (E : wE) (hE : wX E) (b0 : Nat) (hb0 : isD b0) (b1 : Nat) (hb1 : isS b1) (σ : Mem) (Q : Mem → Prop) (h : wX0_play b0 b1 σ Q) : Met l yX0_play (Cond.code yX0_play cX0_play 5 none :: TB) rX0_play (wPc E σ [.ref (gE E b0), .ref (gE E b1), .ref (gE E 6)]) (wQv E Q) 0 0 (wA E) := by
  refine wMet (by decide) hE.2.2 (Nat.le_of_ble_eq_true rfl) ?_
  intro p e s m args below meth c ls C hr hlk hl hw
  have hx := C.1.1
  have hb := C.1.2.1
  replace C : Cx p s m args c cX0_play 5 RX0 E (wA E) := C
  replace hl : lv_has ls 5 [(0, .ref (gE E b0)), (1, .ref (gE E b1)), (2, .ref (gE E 6))] := hl
  unfold wX0_play at h
  refine lv_aload_n hx hb (dAt dX0_play 0 rfl) rfl (lv_at hl 0 rfl) ?_
  refine lv_aload_n hx hb (dAt dX0_play 1 rfl) rfl (lv_at hl 1 rfl) ?_
  refine x_callv C hw (x_runV (As := [.ref (gE E b1)]) (rest := []) C hw (kX0_stand l E hE b0 hb0 b1 hb1 σ _ h) mtX0_stand lk_X0_54 (sD hE hb0) (nD hE hb0 (by omega)) rfl ⟨by decide, by decide⟩ ⟨rfl, rfl⟩ rfl hl.1 rfl (Nat.le_of_ble_eq_true rfl) (dAt dX0_play 2 rfl) ⟨Nat.zero_le _, Nat.zero_le _⟩) (fun σ2 H locs h hw => ?_)
  refine lv_aload_n hx hb (dAt dX0_play 3 rfl) rfl (lv_at hl 0 rfl) ?_
  refine lv_aload_n hx hb (dAt dX0_play 4 rfl) rfl (lv_at hl 2 rfl) ?_
  refine lv_aload_n hx hb (dAt dX0_play 5 rfl) rfl (lv_at hl 1 rfl) ?_
  refine x_getiN C hw fl_X0_58 (sS hE hb1) (nS hE hb1 (by omega)) rfl (dAt dX0_play 6 rfl) ?_
  refine x_callv C hw (x_runV (As := [.ref (gE E 6), .int (σ2 b1 6)]) (rest := []) C hw (kX0_spread l E hE b0 hb0 (σ2 b1 6) σ2 _ h) mtX0_spread lk_X0_64 (sD hE hb0) (nD hE hb0 (by omega)) rfl ⟨by decide, by decide⟩ ⟨rfl, rfl⟩ rfl hl.1 rfl (Nat.le_of_ble_eq_true rfl) (dAt dX0_play 7 rfl) ⟨Nat.zero_le _, Nat.zero_le _⟩) (fun σ11 H locs h hw => ?_)
  refine lv_iconst (v := 0) hx hb (dAt dX0_play 8 rfl) (by decide) ?_
  refine lv_istore_n (lv' := [(3, .int (0 : Int32)), (0, .ref (gE E b0)), (1, .ref (gE E b1)), (2, .ref (gE E 6))]) hx hb (dAt dX0_play 9 rfl) rfl hl (by decide) rfl (fun ls hl => ?_)
  obtain ⟨n16, h⟩ := h
  exact kX0_play_16 hE C hr hlk n16 b0 b1 (0 : Int32) σ11 hb0 hb1 _ _ _ hw (lv_sub hl [1, 2, 0] rfl) h
def tX0_allMet : List (Nat × Instr × Nat) := [(0, .iconst 0, 1), (1, .istore_n 1, 1), (2, .iconst 0, 1), (3, .istore_n 2, 1), (4, .iload_n 2, 1), (5, .bipush 24, 2), (7, .if_icmp .ge 18, 3), (10, .iload_n 1, 1), (11, .aload_n 0, 1), (12, .getfield 39, 3), (15, .iload_n 2, 1), (16, .iaload, 1), (17, .iadd, 1), (18, .istore_n 1, 1), (19, .iinc 2 1, 3), (22, .goto (-18), 3), (25, .iload_n 1, 1), (26, .ireturn, 1)]
theorem dX0_allMet : dOk cX0_allMet tX0_allMet = true := by decide +kernel
abbrev rX0_allMet : Room := { frames := 0, cells := 0, slots := 0, locals := 0 }
def wX0_allMet_4 (Q : Int32 → Mem → Prop) : Nat → Nat → Int32 → Int32 → Mem → Prop
  | 0, _, _, _, _ => False
  | n + 1, b0, x1, x2, σ => ((((24 : Int32) ≤ x2) → (Q x1 σ)) ∧ ((¬ (24 : Int32) ≤ x2) → (vp_in x2 24 ∧ (∀ x1_18 : Int32, x1_18 = (x1 + (σ (b0 + 10) (x2).toNatClampNeg)) → (wX0_allMet_4 Q n b0 x1_18 (x2 + (1 : Int32)) σ)))))
def wX0_allMet (b0 : Nat) (σ : Mem) (Q : Int32 → Mem → Prop) : Prop := (∃ N4, wX0_allMet_4 Q N4 b0 (0 : Int32) (0 : Int32) σ)
set_option maxHeartbeats 4000000 in
set_option maxRecDepth 100000 in
theorem kX0_allMet_4 {p : Program} {l : Launch} {e : Env} {s : State} {m : MethodId} {args : Array Value} {below : List Frame} {meth : Method} {c : Code} {E : wE} (hE : wX E) (C : Cx p s m args c cX0_allMet 3 RX0 E (wA E)) (hr : meth.sig.returnType = (some .int)) (hlk : meth.locks = false) {Q : Int32 → Mem → Prop} : ∀ (n : Nat) (b0 : Nat) (x1 : Int32) (x2 : Int32) (σ : Mem) (hb0 : isD b0) (H : Heap) (locs : List Loc) (ls : Array Slot), wd E (wA E) s σ H locs → lv_has ls 3 [(0, .ref (gE E b0)), (1, .int x1), (2, .int x2)] → wX0_allMet_4 Q n b0 x1 x2 σ → W p l e rX0_allMet s m args below meth c H locs 0 0 (MQ below (wQi E Q) args s 0 0 (wA E)) (F0 m 4 ls []) := by
  have hx := C.1.1
  have hb := C.1.2.1
  intro n
  induction n with
  | zero =>
    intro b0 x1 x2 σ hb0 H locs ls hw hl h
    exact h.elim
  | succ n ih =>
    intro b0 x1 x2 σ hb0 H locs ls hw hl h
    rw [wX0_allMet_4] at h
    refine lv_iload_n hx hb (dAt dX0_allMet 4 rfl) rfl (lv_at hl 2 rfl) ?_
    refine lv_bipush (v := 24) hx hb (dAt dX0_allMet 5 rfl) (by decide) ?_
    refine lv_icmp_ge (tgt := 25) hx hb (dAt dX0_allMet 6 rfl) (by decide) (fun c7 => ?_) (fun c7 => ?_)
    · replace h := h.1 c7
      refine lv_iload_n hx hb (dAt dX0_allMet 16 rfl) rfl (lv_at hl 1 rfl) ?_
      exact x_iret C hw hr hlk h (dAt dX0_allMet 17 rfl)
    · replace h := h.2 c7
      refine lv_iload_n hx hb (dAt dX0_allMet 7 rfl) rfl (lv_at hl 1 rfl) ?_
      refine lv_aload_n hx hb (dAt dX0_allMet 8 rfl) rfl (lv_at hl 0 rfl) ?_
      refine x_getr C hw fl_X0_39 (sD hE hb0) (nD hE hb0 (by omega)) rfl (dAt dX0_allMet 9 rfl) ?_
      refine lv_iload_n hx hb (dAt dX0_allMet 10 rfl) rfl (lv_at hl 2 rfl) ?_
      obtain ⟨z16, h⟩ := h
      refine x_ild C hw (sD_10 hE hb0) (nD hE hb0 (by omega)) z16 rfl (dAt dX0_allMet 11 rfl) ?_
      refine lv_iadd hx hb (dAt dX0_allMet 12 rfl) ?_
      refine lv_topi (fun x1_18 ex1_18 => ?_)
      replace h := h x1_18 ex1_18
      refine lv_istore_n (lv' := [(1, .int x1_18), (0, .ref (gE E b0)), (2, .int x2)]) hx hb (dAt dX0_allMet 13 rfl) rfl hl (by decide) rfl (fun ls hl => ?_)
      refine lv_iinc (v := (x2 + (1 : Int32))) (lv' := [(2, .int (x2 + (1 : Int32))), (1, .int x1_18), (0, .ref (gE E b0))]) hx hb (dAt dX0_allMet 14 rfl) hl (k := 2) rfl rfl (by decide) rfl (fun ls hl => ?_)
      refine lv_goto (tgt := 4) hx hb (dAt dX0_allMet 15 rfl) (by decide) ?_
      exact ih b0 x1_18 (x2 + (1 : Int32)) σ hb0 _ _ _ hw (lv_sub hl [2, 1, 0] rfl) h
set_option maxHeartbeats 4000000 in
set_option maxRecDepth 100000 in
theorem kX0_allMet (l : Launch) (E : wE) (hE : wX E) (b0 : Nat) (hb0 : isD b0) (σ : Mem) (Q : Int32 → Mem → Prop) (h : wX0_allMet b0 σ Q) : Met l yX0_allMet (Cond.code yX0_allMet cX0_allMet 3 (some .int) :: TB) rX0_allMet (wPc E σ [.ref (gE E b0)]) (wQi E Q) 0 0 (wA E) := by
  refine wMet (by decide) hE.2.2 (Nat.le_of_ble_eq_true rfl) ?_
  intro p e s m args below meth c ls C hr hlk hl hw
  have hx := C.1.1
  have hb := C.1.2.1
  replace C : Cx p s m args c cX0_allMet 3 RX0 E (wA E) := C
  replace hl : lv_has ls 3 [(0, .ref (gE E b0))] := hl
  unfold wX0_allMet at h
  refine lv_iconst (v := 0) hx hb (dAt dX0_allMet 0 rfl) (by decide) ?_
  refine lv_istore_n (lv' := [(1, .int (0 : Int32)), (0, .ref (gE E b0))]) hx hb (dAt dX0_allMet 1 rfl) rfl hl (by decide) rfl (fun ls hl => ?_)
  refine lv_iconst (v := 0) hx hb (dAt dX0_allMet 2 rfl) (by decide) ?_
  refine lv_istore_n (lv' := [(2, .int (0 : Int32)), (1, .int (0 : Int32)), (0, .ref (gE E b0))]) hx hb (dAt dX0_allMet 3 rfl) rfl hl (by decide) rfl (fun ls hl => ?_)
  obtain ⟨n4, h⟩ := h
  exact kX0_allMet_4 hE C hr hlk n4 b0 (0 : Int32) (0 : Int32) σ hb0 _ _ _ hw (lv_sub hl [2, 1, 0] rfl) h
def tX0_bareBeats : List (Nat × Instr × Nat) := [(0, .iconst 0, 1), (1, .istore_n 1, 1), (2, .iconst 0, 1), (3, .istore_n 2, 1), (4, .iload_n 2, 1), (5, .bipush 24, 2), (7, .if_icmp .ge 24, 3), (10, .aload_n 0, 1), (11, .getfield 36, 3), (14, .iload_n 2, 1), (15, .iaload, 1), (16, .ifCond .ne 9, 3), (19, .iload_n 1, 1), (20, .iconst 1, 1), (21, .iload_n 2, 1), (22, .ishl, 1), (23, .ior, 1), (24, .istore_n 1, 1), (25, .iinc 2 1, 3), (28, .goto (-24), 3), (31, .iload_n 1, 1), (32, .ireturn, 1)]
theorem dX0_bareBeats : dOk cX0_bareBeats tX0_bareBeats = true := by decide +kernel
abbrev rX0_bareBeats : Room := { frames := 0, cells := 0, slots := 0, locals := 0 }
def wX0_bareBeats_4 (Q : Int32 → Mem → Prop) : Nat → Nat → Int32 → Int32 → Mem → Prop
  | 0, _, _, _, _ => False
  | n + 1, b0, x1, x2, σ => ((((24 : Int32) ≤ x2) → (Q x1 σ)) ∧ ((¬ (24 : Int32) ≤ x2) → (vp_in x2 24 ∧ (((¬ (σ (b0 + 9) (x2).toNatClampNeg) = 0) → (wX0_bareBeats_4 Q n b0 x1 (x2 + (1 : Int32)) σ)) ∧ (((σ (b0 + 9) (x2).toNatClampNeg) = 0) → (∀ x1_24 : Int32, x1_24 = (x1 ||| ((1 : Int32) <<< (x2 &&& 31))) → (wX0_bareBeats_4 Q n b0 x1_24 (x2 + (1 : Int32)) σ)))))))
def wX0_bareBeats (b0 : Nat) (σ : Mem) (Q : Int32 → Mem → Prop) : Prop := (∃ N4, wX0_bareBeats_4 Q N4 b0 (0 : Int32) (0 : Int32) σ)
set_option maxHeartbeats 4000000 in
set_option maxRecDepth 100000 in
theorem kX0_bareBeats_4 {p : Program} {l : Launch} {e : Env} {s : State} {m : MethodId} {args : Array Value} {below : List Frame} {meth : Method} {c : Code} {E : wE} (hE : wX E) (C : Cx p s m args c cX0_bareBeats 3 RX0 E (wA E)) (hr : meth.sig.returnType = (some .int)) (hlk : meth.locks = false) {Q : Int32 → Mem → Prop} : ∀ (n : Nat) (b0 : Nat) (x1 : Int32) (x2 : Int32) (σ : Mem) (hb0 : isD b0) (H : Heap) (locs : List Loc) (ls : Array Slot), wd E (wA E) s σ H locs → lv_has ls 3 [(0, .ref (gE E b0)), (1, .int x1), (2, .int x2)] → wX0_bareBeats_4 Q n b0 x1 x2 σ → W p l e rX0_bareBeats s m args below meth c H locs 0 0 (MQ below (wQi E Q) args s 0 0 (wA E)) (F0 m 4 ls []) := by
  have hx := C.1.1
  have hb := C.1.2.1
  intro n
  induction n with
  | zero =>
    intro b0 x1 x2 σ hb0 H locs ls hw hl h
    exact h.elim
  | succ n ih =>
    intro b0 x1 x2 σ hb0 H locs ls hw hl h
    rw [wX0_bareBeats_4] at h
    refine lv_iload_n hx hb (dAt dX0_bareBeats 4 rfl) rfl (lv_at hl 2 rfl) ?_
    refine lv_bipush (v := 24) hx hb (dAt dX0_bareBeats 5 rfl) (by decide) ?_
    refine lv_icmp_ge (tgt := 31) hx hb (dAt dX0_bareBeats 6 rfl) (by decide) (fun c7 => ?_) (fun c7 => ?_)
    · replace h := h.1 c7
      refine lv_iload_n hx hb (dAt dX0_bareBeats 20 rfl) rfl (lv_at hl 1 rfl) ?_
      exact x_iret C hw hr hlk h (dAt dX0_bareBeats 21 rfl)
    · replace h := h.2 c7
      refine lv_aload_n hx hb (dAt dX0_bareBeats 7 rfl) rfl (lv_at hl 0 rfl) ?_
      refine x_getr C hw fl_X0_36 (sD hE hb0) (nD hE hb0 (by omega)) rfl (dAt dX0_bareBeats 8 rfl) ?_
      refine lv_iload_n hx hb (dAt dX0_bareBeats 9 rfl) rfl (lv_at hl 2 rfl) ?_
      obtain ⟨z15, h⟩ := h
      refine x_ild C hw (sD_9 hE hb0) (nD hE hb0 (by omega)) z15 rfl (dAt dX0_bareBeats 10 rfl) ?_
      refine lv_if_ne (tgt := 25) hx hb (dAt dX0_bareBeats 11 rfl) (by decide) (fun c16 => ?_) (fun c16 => ?_)
      · replace h := h.1 c16
        refine lv_iinc (v := (x2 + (1 : Int32))) (lv' := [(2, .int (x2 + (1 : Int32))), (0, .ref (gE E b0)), (1, .int x1)]) hx hb (dAt dX0_bareBeats 18 rfl) hl (k := 2) rfl rfl (by decide) rfl (fun ls hl => ?_)
        refine lv_goto (tgt := 4) hx hb (dAt dX0_bareBeats 19 rfl) (by decide) ?_
        exact ih b0 x1 (x2 + (1 : Int32)) σ hb0 _ _ _ hw (lv_sub hl [1, 2, 0] rfl) h
      · replace h := h.2 c16
        refine lv_iload_n hx hb (dAt dX0_bareBeats 12 rfl) rfl (lv_at hl 1 rfl) ?_
        refine lv_iconst (v := 1) hx hb (dAt dX0_bareBeats 13 rfl) (by decide) ?_
        refine lv_iload_n hx hb (dAt dX0_bareBeats 14 rfl) rfl (lv_at hl 2 rfl) ?_
        refine lv_ishl hx hb (dAt dX0_bareBeats 15 rfl) ?_
        refine lv_ior hx hb (dAt dX0_bareBeats 16 rfl) ?_
        refine lv_topi (fun x1_24 ex1_24 => ?_)
        replace h := h x1_24 ex1_24
        refine lv_istore_n (lv' := [(1, .int x1_24), (0, .ref (gE E b0)), (2, .int x2)]) hx hb (dAt dX0_bareBeats 17 rfl) rfl hl (by decide) rfl (fun ls hl => ?_)
        refine lv_iinc (v := (x2 + (1 : Int32))) (lv' := [(2, .int (x2 + (1 : Int32))), (1, .int x1_24), (0, .ref (gE E b0))]) hx hb (dAt dX0_bareBeats 18 rfl) hl (k := 2) rfl rfl (by decide) rfl (fun ls hl => ?_)
        refine lv_goto (tgt := 4) hx hb (dAt dX0_bareBeats 19 rfl) (by decide) ?_
        exact ih b0 x1_24 (x2 + (1 : Int32)) σ hb0 _ _ _ hw (lv_sub hl [2, 1, 0] rfl) h
set_option maxHeartbeats 4000000 in
set_option maxRecDepth 100000 in
theorem kX0_bareBeats (l : Launch) (E : wE) (hE : wX E) (b0 : Nat) (hb0 : isD b0) (σ : Mem) (Q : Int32 → Mem → Prop) (h : wX0_bareBeats b0 σ Q) : Met l yX0_bareBeats (Cond.code yX0_bareBeats cX0_bareBeats 3 (some .int) :: TB) rX0_bareBeats (wPc E σ [.ref (gE E b0)]) (wQi E Q) 0 0 (wA E) := by
  refine wMet (by decide) hE.2.2 (Nat.le_of_ble_eq_true rfl) ?_
  intro p e s m args below meth c ls C hr hlk hl hw
  have hx := C.1.1
  have hb := C.1.2.1
  replace C : Cx p s m args c cX0_bareBeats 3 RX0 E (wA E) := C
  replace hl : lv_has ls 3 [(0, .ref (gE E b0))] := hl
  unfold wX0_bareBeats at h
  refine lv_iconst (v := 0) hx hb (dAt dX0_bareBeats 0 rfl) (by decide) ?_
  refine lv_istore_n (lv' := [(1, .int (0 : Int32)), (0, .ref (gE E b0))]) hx hb (dAt dX0_bareBeats 1 rfl) rfl hl (by decide) rfl (fun ls hl => ?_)
  refine lv_iconst (v := 0) hx hb (dAt dX0_bareBeats 2 rfl) (by decide) ?_
  refine lv_istore_n (lv' := [(2, .int (0 : Int32)), (1, .int (0 : Int32)), (0, .ref (gE E b0))]) hx hb (dAt dX0_bareBeats 3 rfl) rfl hl (by decide) rfl (fun ls hl => ?_)
  obtain ⟨n4, h⟩ := h
  exact kX0_bareBeats_4 hE C hr hlk n4 b0 (0 : Int32) (0 : Int32) σ hb0 _ _ _ hw (lv_sub hl [2, 1, 0] rfl) h
def tX0_timesOver : List (Nat × Instr × Nat) := [(0, .iconst 0, 1), (1, .istore_n 2, 1), (2, .iconst 0, 1), (3, .istore_n 3, 1), (4, .iload_n 3, 1), (5, .aload_n 0, 1), (6, .getfield 109, 3), (9, .if_icmp .ge 22, 3), (12, .aload_n 0, 1), (13, .getfield 42, 3), (16, .iload_n 3, 1), (17, .iaload, 1), (18, .iload_n 1, 1), (19, .if_icmp .ne 6, 3), (22, .iinc 2 1, 3), (25, .iinc 3 1, 3), (28, .goto (-24), 3), (31, .iload_n 2, 1), (32, .ireturn, 1)]
theorem dX0_timesOver : dOk cX0_timesOver tX0_timesOver = true := by decide +kernel
abbrev rX0_timesOver : Room := { frames := 0, cells := 0, slots := 0, locals := 0 }
def wX0_timesOver_4 (Q : Int32 → Mem → Prop) : Nat → Nat → Int32 → Int32 → Int32 → Mem → Prop
  | 0, _, _, _, _, _ => False
  | n + 1, b0, x1, x2, x3, σ => ((((σ b0 16) ≤ x3) → (Q x2 σ)) ∧ ((¬ (σ b0 16) ≤ x3) → (vp_in x3 120 ∧ (((¬ (σ (b0 + 11) (x3).toNatClampNeg) = x1) → (wX0_timesOver_4 Q n b0 x1 x2 (x3 + (1 : Int32)) σ)) ∧ (((σ (b0 + 11) (x3).toNatClampNeg) = x1) → (wX0_timesOver_4 Q n b0 x1 (x2 + (1 : Int32)) (x3 + (1 : Int32)) σ))))))
def wX0_timesOver (b0 : Nat) (x1 : Int32) (σ : Mem) (Q : Int32 → Mem → Prop) : Prop := (∃ N4, wX0_timesOver_4 Q N4 b0 x1 (0 : Int32) (0 : Int32) σ)
set_option maxHeartbeats 4000000 in
set_option maxRecDepth 100000 in
theorem kX0_timesOver_4 {p : Program} {l : Launch} {e : Env} {s : State} {m : MethodId} {args : Array Value} {below : List Frame} {meth : Method} {c : Code} {E : wE} (hE : wX E) (C : Cx p s m args c cX0_timesOver 4 RX0 E (wA E)) (hr : meth.sig.returnType = (some .int)) (hlk : meth.locks = false) {Q : Int32 → Mem → Prop} : ∀ (n : Nat) (b0 : Nat) (x1 : Int32) (x2 : Int32) (x3 : Int32) (σ : Mem) (hb0 : isD b0) (H : Heap) (locs : List Loc) (ls : Array Slot), wd E (wA E) s σ H locs → lv_has ls 4 [(0, .ref (gE E b0)), (1, .int x1), (2, .int x2), (3, .int x3)] → wX0_timesOver_4 Q n b0 x1 x2 x3 σ → W p l e rX0_timesOver s m args below meth c H locs 0 0 (MQ below (wQi E Q) args s 0 0 (wA E)) (F0 m 4 ls []) := by
  have hx := C.1.1
  have hb := C.1.2.1
  intro n
  induction n with
  | zero =>
    intro b0 x1 x2 x3 σ hb0 H locs ls hw hl h
    exact h.elim
  | succ n ih =>
    intro b0 x1 x2 x3 σ hb0 H locs ls hw hl h
    rw [wX0_timesOver_4] at h
    refine lv_iload_n hx hb (dAt dX0_timesOver 4 rfl) rfl (lv_at hl 3 rfl) ?_
    refine lv_aload_n hx hb (dAt dX0_timesOver 5 rfl) rfl (lv_at hl 0 rfl) ?_
    refine x_geti C hw fl_X0_109 (sD hE hb0) (nD hE hb0 (by omega)) rfl (dAt dX0_timesOver 6 rfl) ?_
    refine lv_icmp_ge (tgt := 31) hx hb (dAt dX0_timesOver 7 rfl) (by decide) (fun c9 => ?_) (fun c9 => ?_)
    · replace h := h.1 c9
      refine lv_iload_n hx hb (dAt dX0_timesOver 17 rfl) rfl (lv_at hl 2 rfl) ?_
      exact x_iret C hw hr hlk h (dAt dX0_timesOver 18 rfl)
    · replace h := h.2 c9
      refine lv_aload_n hx hb (dAt dX0_timesOver 8 rfl) rfl (lv_at hl 0 rfl) ?_
      refine x_getr C hw fl_X0_42 (sD hE hb0) (nD hE hb0 (by omega)) rfl (dAt dX0_timesOver 9 rfl) ?_
      refine lv_iload_n hx hb (dAt dX0_timesOver 10 rfl) rfl (lv_at hl 3 rfl) ?_
      obtain ⟨z17, h⟩ := h
      refine x_ild C hw (sD_11 hE hb0) (nD hE hb0 (by omega)) z17 rfl (dAt dX0_timesOver 11 rfl) ?_
      refine lv_iload_n hx hb (dAt dX0_timesOver 12 rfl) rfl (lv_at hl 1 rfl) ?_
      refine lv_icmp_ne (tgt := 25) hx hb (dAt dX0_timesOver 13 rfl) (by decide) (fun c19 => ?_) (fun c19 => ?_)
      · replace h := h.1 c19
        refine lv_iinc (v := (x3 + (1 : Int32))) (lv' := [(3, .int (x3 + (1 : Int32))), (0, .ref (gE E b0)), (1, .int x1), (2, .int x2)]) hx hb (dAt dX0_timesOver 15 rfl) hl (k := 3) rfl rfl (by decide) rfl (fun ls hl => ?_)
        refine lv_goto (tgt := 4) hx hb (dAt dX0_timesOver 16 rfl) (by decide) ?_
        exact ih b0 x1 x2 (x3 + (1 : Int32)) σ hb0 _ _ _ hw (lv_sub hl [1, 2, 3, 0] rfl) h
      · replace h := h.2 c19
        refine lv_iinc (v := (x2 + (1 : Int32))) (lv' := [(2, .int (x2 + (1 : Int32))), (0, .ref (gE E b0)), (1, .int x1), (3, .int x3)]) hx hb (dAt dX0_timesOver 14 rfl) hl (k := 2) rfl rfl (by decide) rfl (fun ls hl => ?_)
        refine lv_iinc (v := (x3 + (1 : Int32))) (lv' := [(3, .int (x3 + (1 : Int32))), (2, .int (x2 + (1 : Int32))), (0, .ref (gE E b0)), (1, .int x1)]) hx hb (dAt dX0_timesOver 15 rfl) hl (k := 3) rfl rfl (by decide) rfl (fun ls hl => ?_)
        refine lv_goto (tgt := 4) hx hb (dAt dX0_timesOver 16 rfl) (by decide) ?_
        exact ih b0 x1 (x2 + (1 : Int32)) (x3 + (1 : Int32)) σ hb0 _ _ _ hw (lv_sub hl [2, 3, 1, 0] rfl) h
set_option maxHeartbeats 4000000 in
set_option maxRecDepth 100000 in
theorem kX0_timesOver (l : Launch) (E : wE) (hE : wX E) (b0 : Nat) (hb0 : isD b0) (x1 : Int32) (σ : Mem) (Q : Int32 → Mem → Prop) (h : wX0_timesOver b0 x1 σ Q) : Met l yX0_timesOver (Cond.code yX0_timesOver cX0_timesOver 4 (some .int) :: TB) rX0_timesOver (wPc E σ [.ref (gE E b0), .int x1]) (wQi E Q) 0 0 (wA E) := by
  refine wMet (by decide) hE.2.2 (Nat.le_of_ble_eq_true rfl) ?_
  intro p e s m args below meth c ls C hr hlk hl hw
  have hx := C.1.1
  have hb := C.1.2.1
  replace C : Cx p s m args c cX0_timesOver 4 RX0 E (wA E) := C
  replace hl : lv_has ls 4 [(0, .ref (gE E b0)), (1, .int x1)] := hl
  unfold wX0_timesOver at h
  refine lv_iconst (v := 0) hx hb (dAt dX0_timesOver 0 rfl) (by decide) ?_
  refine lv_istore_n (lv' := [(2, .int (0 : Int32)), (0, .ref (gE E b0)), (1, .int x1)]) hx hb (dAt dX0_timesOver 1 rfl) rfl hl (by decide) rfl (fun ls hl => ?_)
  refine lv_iconst (v := 0) hx hb (dAt dX0_timesOver 2 rfl) (by decide) ?_
  refine lv_istore_n (lv' := [(3, .int (0 : Int32)), (2, .int (0 : Int32)), (0, .ref (gE E b0)), (1, .int x1)]) hx hb (dAt dX0_timesOver 3 rfl) rfl hl (by decide) rfl (fun ls hl => ?_)
  obtain ⟨n4, h⟩ := h
  exact kX0_timesOver_4 hE C hr hlk n4 b0 x1 (0 : Int32) (0 : Int32) σ hb0 _ _ _ hw (lv_sub hl [2, 3, 1, 0] rfl) h
def tX0_longestRun : List (Nat × Instr × Nat) := [(0, .iconst 0, 1), (1, .istore_n 3, 1), (2, .iconst (-1), 1), (3, .istore 4, 2), (5, .iconst 0, 1), (6, .istore 5, 2), (8, .iconst 0, 1), (9, .istore 6, 2), (11, .iload 6, 2), (13, .aload_n 0, 1), (14, .getfield 109, 3), (17, .if_icmp .ge 57, 3), (20, .aload_n 1, 1), (21, .aload_n 0, 1), (22, .getfield 42, 3), (25, .iload 6, 2), (27, .iaload, 1), (28, .iaload, 1), (29, .aload_n 1, 1), (30, .aload_n 0, 1), (31, .getfield 42, 3), (34, .iload 5, 2), (36, .iaload, 1), (37, .iaload, 1), (38, .if_icmp .eq 7, 3), (41, .iload 6, 2), (43, .istore 5, 2), (45, .iload 6, 2), (47, .iload 5, 2), (49, .isub, 1), (50, .iconst 1, 1), (51, .iadd, 1), (52, .iload_n 3, 1), (53, .if_icmp .le 15, 3), (56, .iload 6, 2), (58, .iload 5, 2), (60, .isub, 1), (61, .iconst 1, 1), (62, .iadd, 1), (63, .istore_n 3, 1), (64, .iload 5, 2), (66, .istore 4, 2), (68, .iinc 6 1, 3), (71, .goto (-60), 3), (74, .iload_n 2, 1), (75, .ifCond .ne 7, 3), (78, .iload_n 3, 1), (79, .goto 5, 3), (82, .iload 4, 2), (84, .ireturn, 1)]
theorem dX0_longestRun : dOk cX0_longestRun tX0_longestRun = true := by decide +kernel
abbrev rX0_longestRun : Room := { frames := 0, cells := 0, slots := 0, locals := 0 }
def wX0_longestRun_74 (Q : Int32 → Mem → Prop) (x2 : Int32) (x3 : Int32) (x4 : Int32) (σ : Mem) : Prop := (Q (if x2 = 0 then x3 else x4) σ)
def wX0_longestRun_45 (K11 : Nat → Nat → Nat → Int32 → Int32 → Int32 → Int32 → Int32 → Mem → Prop) (Q : Int32 → Mem → Prop) (b0 : Nat) (b1 : Nat) (nb1 : Nat) (x2 : Int32) (x3 : Int32) (x4 : Int32) (x5 : Int32) (x6 : Int32) (σ : Mem) : Prop := (((((x6 - x5) + (1 : Int32)) ≤ x3) → (K11 b0 b1 nb1 x2 x3 x4 x5 (x6 + (1 : Int32)) σ)) ∧ ((¬ ((x6 - x5) + (1 : Int32)) ≤ x3) → (∀ x3_63 : Int32, x3_63 = ((x6 - x5) + (1 : Int32)) → (K11 b0 b1 nb1 x2 x3_63 x5 x5 (x6 + (1 : Int32)) σ))))
def wX0_longestRun_11 (Q : Int32 → Mem → Prop) : Nat → Nat → Nat → Nat → Int32 → Int32 → Int32 → Int32 → Int32 → Mem → Prop
  | 0, _, _, _, _, _, _, _, _, _ => False
  | n + 1, b0, b1, nb1, x2, x3, x4, x5, x6, σ => ((((σ b0 16) ≤ x6) → (wX0_longestRun_74 Q x2 x3 x4 σ)) ∧ ((¬ (σ b0 16) ≤ x6) → (vp_in x6 120 ∧ (vp_in (σ (b0 + 11) (x6).toNatClampNeg) nb1 ∧ (vp_in x5 120 ∧ (vp_in (σ (b0 + 11) (x5).toNatClampNeg) nb1 ∧ ((((σ b1 ((σ (b0 + 11) (x6).toNatClampNeg)).toNatClampNeg) = (σ b1 ((σ (b0 + 11) (x5).toNatClampNeg)).toNatClampNeg)) → (wX0_longestRun_45 (fun b0 b1 nb1 x2 x3 x4 x5 x6 ρ => wX0_longestRun_11 Q n b0 b1 nb1 x2 x3 x4 x5 x6 ρ) Q b0 b1 nb1 x2 x3 x4 x5 x6 σ)) ∧ ((¬ (σ b1 ((σ (b0 + 11) (x6).toNatClampNeg)).toNatClampNeg) = (σ b1 ((σ (b0 + 11) (x5).toNatClampNeg)).toNatClampNeg)) → (wX0_longestRun_45 (fun b0 b1 nb1 x2 x3 x4 x5 x6 ρ => wX0_longestRun_11 Q n b0 b1 nb1 x2 x3 x4 x5 x6 ρ) Q b0 b1 nb1 x2 x3 x4 x6 x6 σ)))))))))
def wX0_longestRun (b0 : Nat) (b1 nb1 : Nat) (x2 : Int32) (σ : Mem) (Q : Int32 → Mem → Prop) : Prop := (∃ N11, wX0_longestRun_11 Q N11 b0 b1 nb1 x2 (0 : Int32) (-1 : Int32) (0 : Int32) (0 : Int32) σ)
set_option maxHeartbeats 4000000 in
set_option maxRecDepth 100000 in
theorem kX0_longestRun_74 {p : Program} {l : Launch} {e : Env} {s : State} {m : MethodId} {args : Array Value} {below : List Frame} {meth : Method} {c : Code} {E : wE} (hE : wX E) (C : Cx p s m args c cX0_longestRun 7 RX0 E (wA E)) (hr : meth.sig.returnType = (some .int)) (hlk : meth.locks = false) {Q : Int32 → Mem → Prop} : ∀ (x2 : Int32) (x3 : Int32) (x4 : Int32) (σ : Mem) (H : Heap) (locs : List Loc) (ls : Array Slot), wd E (wA E) s σ H locs → lv_has ls 7 [(2, .int x2), (3, .int x3), (4, .int x4)] → wX0_longestRun_74 Q x2 x3 x4 σ → W p l e rX0_longestRun s m args below meth c H locs 0 0 (MQ below (wQi E Q) args s 0 0 (wA E)) (F0 m 74 ls []) := by
  have hx := C.1.1
  have hb := C.1.2.1
  intro x2 x3 x4 σ  H locs ls hw hl h
  unfold wX0_longestRun_74 at h
  refine lv_iload_n hx hb (dAt dX0_longestRun 44 rfl) rfl (lv_at hl 0 rfl) ?_
  refine x_dia (ls := ls) (pcJ := 84) (cnd := x2 = 0) (a := x3) (b := x4) ([]) ?_ (fun ht75 hf75 => ?_)
  · exact x_iret C hw hr hlk h (dAt dX0_longestRun 49 rfl)
  · refine lv_if_ne (tgt := 82) hx hb (dAt dX0_longestRun 45 rfl) (by decide) (fun c75 => ?_) (fun c75 => ?_)
    · refine lv_iload hx hb (dAt dX0_longestRun 48 rfl) (lv_at hl 2 rfl) ?_
      exact hf75 c75
    · refine lv_iload_n hx hb (dAt dX0_longestRun 46 rfl) rfl (lv_at hl 1 rfl) ?_
      refine lv_goto (tgt := 84) hx hb (dAt dX0_longestRun 47 rfl) (by decide) ?_
      exact ht75 c75
set_option maxHeartbeats 4000000 in
set_option maxRecDepth 100000 in
theorem kX0_longestRun_45 {p : Program} {l : Launch} {e : Env} {s : State} {m : MethodId} {args : Array Value} {below : List Frame} {meth : Method} {c : Code} {E : wE} (hE : wX E) (C : Cx p s m args c cX0_longestRun 7 RX0 E (wA E)) (hr : meth.sig.returnType = (some .int)) (hlk : meth.locks = false) {Q : Int32 → Mem → Prop} {K11 : Nat → Nat → Nat → Int32 → Int32 → Int32 → Int32 → Int32 → Mem → Prop} (hK11 : ∀ (b0 : Nat) (b1 : Nat) (nb1 : Nat) (x2 : Int32) (x3 : Int32) (x4 : Int32) (x5 : Int32) (x6 : Int32) (σ : Mem) (hb0 : isD b0) (hb1 : sE E b1 = .inl nb1) (gb1 : b1 < nE E) (H : Heap) (locs : List Loc) (ls : Array Slot), wd E (wA E) s σ H locs → lv_has ls 7 [(0, .ref (gE E b0)), (1, .ref (gE E b1)), (2, .int x2), (3, .int x3), (4, .int x4), (5, .int x5), (6, .int x6)] → K11 b0 b1 nb1 x2 x3 x4 x5 x6 σ → W p l e rX0_longestRun s m args below meth c H locs 0 0 (MQ below (wQi E Q) args s 0 0 (wA E)) (F0 m 11 ls [])) : ∀ (b0 : Nat) (b1 : Nat) (nb1 : Nat) (x2 : Int32) (x3 : Int32) (x4 : Int32) (x5 : Int32) (x6 : Int32) (σ : Mem) (hb0 : isD b0) (hb1 : sE E b1 = .inl nb1) (gb1 : b1 < nE E) (H : Heap) (locs : List Loc) (ls : Array Slot), wd E (wA E) s σ H locs → lv_has ls 7 [(0, .ref (gE E b0)), (1, .ref (gE E b1)), (2, .int x2), (3, .int x3), (4, .int x4), (5, .int x5), (6, .int x6)] → wX0_longestRun_45 K11 Q b0 b1 nb1 x2 x3 x4 x5 x6 σ → W p l e rX0_longestRun s m args below meth c H locs 0 0 (MQ below (wQi E Q) args s 0 0 (wA E)) (F0 m 45 ls []) := by
  have hx := C.1.1
  have hb := C.1.2.1
  intro b0 b1 nb1 x2 x3 x4 x5 x6 σ hb0 hb1 gb1 H locs ls hw hl h
  unfold wX0_longestRun_45 at h
  refine lv_iload hx hb (dAt dX0_longestRun 27 rfl) (lv_at hl 6 rfl) ?_
  refine lv_iload hx hb (dAt dX0_longestRun 28 rfl) (lv_at hl 5 rfl) ?_
  refine lv_isub hx hb (dAt dX0_longestRun 29 rfl) ?_
  refine lv_iconst (v := 1) hx hb (dAt dX0_longestRun 30 rfl) (by decide) ?_
  refine lv_iadd hx hb (dAt dX0_longestRun 31 rfl) ?_
  refine lv_iload_n hx hb (dAt dX0_longestRun 32 rfl) rfl (lv_at hl 3 rfl) ?_
  refine lv_icmp_le (tgt := 68) hx hb (dAt dX0_longestRun 33 rfl) (by decide) (fun c53 => ?_) (fun c53 => ?_)
  · replace h := h.1 c53
    refine lv_iinc (v := (x6 + (1 : Int32))) (lv' := [(6, .int (x6 + (1 : Int32))), (0, .ref (gE E b0)), (1, .ref (gE E b1)), (2, .int x2), (3, .int x3), (4, .int x4), (5, .int x5)]) hx hb (dAt dX0_longestRun 42 rfl) hl (k := 6) rfl rfl (by decide) rfl (fun ls hl => ?_)
    refine lv_goto (tgt := 11) hx hb (dAt dX0_longestRun 43 rfl) (by decide) ?_
    exact hK11 b0 b1 nb1 x2 x3 x4 x5 (x6 + (1 : Int32)) σ hb0 hb1 gb1 _ _ _ hw (lv_sub hl [1, 2, 3, 4, 5, 6, 0] rfl) h
  · replace h := h.2 c53
    refine lv_iload hx hb (dAt dX0_longestRun 34 rfl) (lv_at hl 6 rfl) ?_
    refine lv_iload hx hb (dAt dX0_longestRun 35 rfl) (lv_at hl 5 rfl) ?_
    refine lv_isub hx hb (dAt dX0_longestRun 36 rfl) ?_
    refine lv_iconst (v := 1) hx hb (dAt dX0_longestRun 37 rfl) (by decide) ?_
    refine lv_iadd hx hb (dAt dX0_longestRun 38 rfl) ?_
    refine lv_topi (fun x3_63 ex3_63 => ?_)
    replace h := h x3_63 ex3_63
    refine lv_istore_n (lv' := [(3, .int x3_63), (0, .ref (gE E b0)), (1, .ref (gE E b1)), (2, .int x2), (4, .int x4), (5, .int x5), (6, .int x6)]) hx hb (dAt dX0_longestRun 39 rfl) rfl hl (by decide) rfl (fun ls hl => ?_)
    refine lv_iload hx hb (dAt dX0_longestRun 40 rfl) (lv_at hl 5 rfl) ?_
    refine lv_istore (lv' := [(4, .int x5), (3, .int x3_63), (0, .ref (gE E b0)), (1, .ref (gE E b1)), (2, .int x2), (5, .int x5), (6, .int x6)]) hx hb (dAt dX0_longestRun 41 rfl) hl (by decide) rfl (fun ls hl => ?_)
    refine lv_iinc (v := (x6 + (1 : Int32))) (lv' := [(6, .int (x6 + (1 : Int32))), (4, .int x5), (3, .int x3_63), (0, .ref (gE E b0)), (1, .ref (gE E b1)), (2, .int x2), (5, .int x5)]) hx hb (dAt dX0_longestRun 42 rfl) hl (k := 6) rfl rfl (by decide) rfl (fun ls hl => ?_)
    refine lv_goto (tgt := 11) hx hb (dAt dX0_longestRun 43 rfl) (by decide) ?_
    exact hK11 b0 b1 nb1 x2 x3_63 x5 x5 (x6 + (1 : Int32)) σ hb0 hb1 gb1 _ _ _ hw (lv_sub hl [3, 4, 5, 2, 1, 6, 0] rfl) h
set_option maxHeartbeats 4000000 in
set_option maxRecDepth 100000 in
theorem kX0_longestRun_11 {p : Program} {l : Launch} {e : Env} {s : State} {m : MethodId} {args : Array Value} {below : List Frame} {meth : Method} {c : Code} {E : wE} (hE : wX E) (C : Cx p s m args c cX0_longestRun 7 RX0 E (wA E)) (hr : meth.sig.returnType = (some .int)) (hlk : meth.locks = false) {Q : Int32 → Mem → Prop} : ∀ (n : Nat) (b0 : Nat) (b1 : Nat) (nb1 : Nat) (x2 : Int32) (x3 : Int32) (x4 : Int32) (x5 : Int32) (x6 : Int32) (σ : Mem) (hb0 : isD b0) (hb1 : sE E b1 = .inl nb1) (gb1 : b1 < nE E) (H : Heap) (locs : List Loc) (ls : Array Slot), wd E (wA E) s σ H locs → lv_has ls 7 [(0, .ref (gE E b0)), (1, .ref (gE E b1)), (2, .int x2), (3, .int x3), (4, .int x4), (5, .int x5), (6, .int x6)] → wX0_longestRun_11 Q n b0 b1 nb1 x2 x3 x4 x5 x6 σ → W p l e rX0_longestRun s m args below meth c H locs 0 0 (MQ below (wQi E Q) args s 0 0 (wA E)) (F0 m 11 ls []) := by
  have hx := C.1.1
  have hb := C.1.2.1
  intro n
  induction n with
  | zero =>
    intro b0 b1 nb1 x2 x3 x4 x5 x6 σ hb0 hb1 gb1 H locs ls hw hl h
    exact h.elim
  | succ n ih =>
    intro b0 b1 nb1 x2 x3 x4 x5 x6 σ hb0 hb1 gb1 H locs ls hw hl h
    rw [wX0_longestRun_11] at h
    refine lv_iload hx hb (dAt dX0_longestRun 8 rfl) (lv_at hl 6 rfl) ?_
    refine lv_aload_n hx hb (dAt dX0_longestRun 9 rfl) rfl (lv_at hl 0 rfl) ?_
    refine x_geti C hw fl_X0_109 (sD hE hb0) (nD hE hb0 (by omega)) rfl (dAt dX0_longestRun 10 rfl) ?_
    refine lv_icmp_ge (tgt := 74) hx hb (dAt dX0_longestRun 11 rfl) (by decide) (fun c17 => ?_) (fun c17 => ?_)
    · replace h := h.1 c17
      exact kX0_longestRun_74 hE C hr hlk x2 x3 x4 σ  _ _ _ hw (lv_sub hl [2, 3, 4] rfl) h
    · replace h := h.2 c17
      refine lv_aload_n hx hb (dAt dX0_longestRun 12 rfl) rfl (lv_at hl 1 rfl) ?_
      refine lv_aload_n hx hb (dAt dX0_longestRun 13 rfl) rfl (lv_at hl 0 rfl) ?_
      refine x_getr C hw fl_X0_42 (sD hE hb0) (nD hE hb0 (by omega)) rfl (dAt dX0_longestRun 14 rfl) ?_
      refine lv_iload hx hb (dAt dX0_longestRun 15 rfl) (lv_at hl 6 rfl) ?_
      obtain ⟨z27, h⟩ := h
      refine x_ild C hw (sD_11 hE hb0) (nD hE hb0 (by omega)) z27 rfl (dAt dX0_longestRun 16 rfl) ?_
      obtain ⟨z28, h⟩ := h
      refine x_ild C hw hb1 gb1 z28 rfl (dAt dX0_longestRun 17 rfl) ?_
      refine lv_aload_n hx hb (dAt dX0_longestRun 18 rfl) rfl (lv_at hl 1 rfl) ?_
      refine lv_aload_n hx hb (dAt dX0_longestRun 19 rfl) rfl (lv_at hl 0 rfl) ?_
      refine x_getr C hw fl_X0_42 (sD hE hb0) (nD hE hb0 (by omega)) rfl (dAt dX0_longestRun 20 rfl) ?_
      refine lv_iload hx hb (dAt dX0_longestRun 21 rfl) (lv_at hl 5 rfl) ?_
      obtain ⟨z36, h⟩ := h
      refine x_ild C hw (sD_11 hE hb0) (nD hE hb0 (by omega)) z36 rfl (dAt dX0_longestRun 22 rfl) ?_
      obtain ⟨z37, h⟩ := h
      refine x_ild C hw hb1 gb1 z37 rfl (dAt dX0_longestRun 23 rfl) ?_
      refine lv_icmp_eq (tgt := 45) hx hb (dAt dX0_longestRun 24 rfl) (by decide) (fun c38 => ?_) (fun c38 => ?_)
      · replace h := h.1 c38
        exact kX0_longestRun_45 hE C hr hlk ih b0 b1 nb1 x2 x3 x4 x5 x6 σ hb0 hb1 gb1 _ _ _ hw (lv_sub hl [0, 1, 2, 3, 4, 5, 6] rfl) h
      · replace h := h.2 c38
        refine lv_iload hx hb (dAt dX0_longestRun 25 rfl) (lv_at hl 6 rfl) ?_
        refine lv_istore (lv' := [(5, .int x6), (0, .ref (gE E b0)), (1, .ref (gE E b1)), (2, .int x2), (3, .int x3), (4, .int x4), (6, .int x6)]) hx hb (dAt dX0_longestRun 26 rfl) hl (by decide) rfl (fun ls hl => ?_)
        exact kX0_longestRun_45 hE C hr hlk ih b0 b1 nb1 x2 x3 x4 x6 x6 σ hb0 hb1 gb1 _ _ _ hw (lv_sub hl [1, 2, 3, 4, 5, 0, 6] rfl) h
set_option maxHeartbeats 4000000 in
set_option maxRecDepth 100000 in
theorem kX0_longestRun (l : Launch) (E : wE) (hE : wX E) (b0 : Nat) (hb0 : isD b0) (b1 nb1 : Nat) (hb1 : sE E b1 = .inl nb1) (gb1 : b1 < nE E) (x2 : Int32) (σ : Mem) (Q : Int32 → Mem → Prop) (h : wX0_longestRun b0 b1 nb1 x2 σ Q) : Met l yX0_longestRun (Cond.code yX0_longestRun cX0_longestRun 7 (some .int) :: TB) rX0_longestRun (wPc E σ [.ref (gE E b0), .ref (gE E b1), .int x2]) (wQi E Q) 0 0 (wA E) := by
  refine wMet (by decide) hE.2.2 (Nat.le_of_ble_eq_true rfl) ?_
  intro p e s m args below meth c ls C hr hlk hl hw
  have hx := C.1.1
  have hb := C.1.2.1
  replace C : Cx p s m args c cX0_longestRun 7 RX0 E (wA E) := C
  replace hl : lv_has ls 7 [(0, .ref (gE E b0)), (1, .ref (gE E b1)), (2, .int x2)] := hl
  unfold wX0_longestRun at h
  refine lv_iconst (v := 0) hx hb (dAt dX0_longestRun 0 rfl) (by decide) ?_
  refine lv_istore_n (lv' := [(3, .int (0 : Int32)), (0, .ref (gE E b0)), (1, .ref (gE E b1)), (2, .int x2)]) hx hb (dAt dX0_longestRun 1 rfl) rfl hl (by decide) rfl (fun ls hl => ?_)
  refine lv_iconst (v := -1) hx hb (dAt dX0_longestRun 2 rfl) (by decide) ?_
  refine lv_istore (lv' := [(4, .int (-1 : Int32)), (3, .int (0 : Int32)), (0, .ref (gE E b0)), (1, .ref (gE E b1)), (2, .int x2)]) hx hb (dAt dX0_longestRun 3 rfl) hl (by decide) rfl (fun ls hl => ?_)
  refine lv_iconst (v := 0) hx hb (dAt dX0_longestRun 4 rfl) (by decide) ?_
  refine lv_istore (lv' := [(5, .int (0 : Int32)), (4, .int (-1 : Int32)), (3, .int (0 : Int32)), (0, .ref (gE E b0)), (1, .ref (gE E b1)), (2, .int x2)]) hx hb (dAt dX0_longestRun 5 rfl) hl (by decide) rfl (fun ls hl => ?_)
  refine lv_iconst (v := 0) hx hb (dAt dX0_longestRun 6 rfl) (by decide) ?_
  refine lv_istore (lv' := [(6, .int (0 : Int32)), (5, .int (0 : Int32)), (4, .int (-1 : Int32)), (3, .int (0 : Int32)), (0, .ref (gE E b0)), (1, .ref (gE E b1)), (2, .int x2)]) hx hb (dAt dX0_longestRun 7 rfl) hl (by decide) rfl (fun ls hl => ?_)
  obtain ⟨n11, h⟩ := h
  exact kX0_longestRun_11 hE C hr hlk n11 b0 b1 nb1 x2 (0 : Int32) (-1 : Int32) (0 : Int32) (0 : Int32) σ hb0 hb1 gb1 _ _ _ hw (lv_sub hl [4, 5, 6, 3, 2, 1, 0] rfl) h
def tX6_isBeat : List (Nat × Instr × Nat) := [(0, .iload_n 0, 1), (1, .ifCond .lt 13, 3), (4, .iload_n 0, 1), (5, .bipush 24, 2), (7, .if_icmp .ge 7, 3), (10, .iconst 1, 1), (11, .goto 4, 3), (14, .iconst 0, 1), (15, .ireturn, 1)]
theorem dX6_isBeat : dOk cX6_isBeat tX6_isBeat = true := by decide +kernel
abbrev rX6_isBeat : Room := { frames := 0, cells := 0, slots := 0, locals := 0 }
def wX6_isBeat (x0 : Int32) (σ : Mem) (Q : Int32 → Mem → Prop) : Prop := (((x0 < 0) → (Q (0 : Int32) σ)) ∧ ((¬ x0 < 0) → ((((24 : Int32) ≤ x0) → (Q (0 : Int32) σ)) ∧ ((¬ (24 : Int32) ≤ x0) → (Q (1 : Int32) σ)))))
set_option maxHeartbeats 4000000 in
set_option maxRecDepth 100000 in
theorem kX6_isBeat (l : Launch) (E : wE) (hE : wX E) (x0 : Int32) (σ : Mem) (Q : Int32 → Mem → Prop) (h : wX6_isBeat x0 σ Q) : Met l yX6_isBeat (Cond.code yX6_isBeat cX6_isBeat 1 (some .boolean) :: TB) rX6_isBeat (wPc E σ [.int x0]) (wQi E Q) 0 0 (wA E) := by
  refine wMet (by decide) hE.2.2 (Nat.le_of_ble_eq_true rfl) ?_
  intro p e s m args below meth c ls C hr hlk hl hw
  have hx := C.1.1
  have hb := C.1.2.1
  replace C : Cx p s m args c cX6_isBeat 1 RX6 E (wA E) := C
  replace hl : lv_has ls 1 [(0, .int x0)] := hl
  unfold wX6_isBeat at h
  refine lv_iload_n hx hb (dAt dX6_isBeat 0 rfl) rfl (lv_at hl 0 rfl) ?_
  refine lv_if_lt (tgt := 14) hx hb (dAt dX6_isBeat 1 rfl) (by decide) (fun c1 => ?_) (fun c1 => ?_)
  · replace h := h.1 c1
    refine lv_iconst (v := 0) hx hb (dAt dX6_isBeat 7 rfl) (by decide) ?_
    exact x_zret C hw hr hlk rfl h (dAt dX6_isBeat 8 rfl)
  · replace h := h.2 c1
    refine lv_iload_n hx hb (dAt dX6_isBeat 2 rfl) rfl (lv_at hl 0 rfl) ?_
    refine lv_bipush (v := 24) hx hb (dAt dX6_isBeat 3 rfl) (by decide) ?_
    refine lv_icmp_ge (tgt := 14) hx hb (dAt dX6_isBeat 4 rfl) (by decide) (fun c7 => ?_) (fun c7 => ?_)
    · replace h := h.1 c7
      refine lv_iconst (v := 0) hx hb (dAt dX6_isBeat 7 rfl) (by decide) ?_
      exact x_zret C hw hr hlk rfl h (dAt dX6_isBeat 8 rfl)
    · replace h := h.2 c7
      refine lv_iconst (v := 1) hx hb (dAt dX6_isBeat 5 rfl) (by decide) ?_
      refine lv_goto (tgt := 15) hx hb (dAt dX6_isBeat 6 rfl) (by decide) ?_
      exact x_zret C hw hr hlk rfl h (dAt dX6_isBeat 8 rfl)
def tX1_mayBe : List (Nat × Instr × Nat) := [(0, .iload_n 1, 1), (1, .ifCond .lt 29, 3), (4, .iload_n 1, 1), (5, .iconst 2, 1), (6, .if_icmp .gt 24, 3), (9, .iload_n 2, 1), (10, .invokestatic 21, 3), (13, .ifCond .eq 17, 3), (16, .iload_n 3, 1), (17, .ifCond .lt 13, 3), (20, .iload_n 3, 1), (21, .bipush 8, 2), (23, .if_icmp .ge 7, 3), (26, .iconst 1, 1), (27, .goto 4, 3), (30, .iconst 0, 1), (31, .ireturn, 1)]
theorem dX1_mayBe : dOk cX1_mayBe tX1_mayBe = true := by decide +kernel
abbrev rX1_mayBe : Room := { frames := 1, cells := 0, slots := 0, locals := 20 }
def wX1_mayBe (x1 : Int32) (x2 : Int32) (x3 : Int32) (σ : Mem) (Q : Int32 → Mem → Prop) : Prop := (((x1 < 0) → (Q (0 : Int32) σ)) ∧ ((¬ x1 < 0) → ((((2 : Int32) < x1) → (Q (0 : Int32) σ)) ∧ ((¬ (2 : Int32) < x1) → (wX6_isBeat x2 σ (fun r10 σ10 => (((r10 = 0) → (Q (0 : Int32) σ10)) ∧ ((¬ r10 = 0) → (((x3 < 0) → (Q (0 : Int32) σ10)) ∧ ((¬ x3 < 0) → ((((8 : Int32) ≤ x3) → (Q (0 : Int32) σ10)) ∧ ((¬ (8 : Int32) ≤ x3) → (Q (1 : Int32) σ10)))))))))))))
set_option maxHeartbeats 4000000 in
set_option maxRecDepth 100000 in
theorem kX1_mayBe (l : Launch) (E : wE) (hE : wX E) (x1 : Int32) (x2 : Int32) (x3 : Int32) (σ : Mem) (Q : Int32 → Mem → Prop) (h : wX1_mayBe x1 x2 x3 σ Q) : Met l yX1_mayBe (Cond.code yX1_mayBe cX1_mayBe 4 (some .boolean) :: TB) rX1_mayBe (wPc E σ [.ref (gE E 6), .int x1, .int x2, .int x3]) (wQi E Q) 0 0 (wA E) := by
  refine wMet (by decide) hE.2.2 (Nat.le_of_ble_eq_true rfl) ?_
  intro p e s m args below meth c ls C hr hlk hl hw
  have hx := C.1.1
  have hb := C.1.2.1
  replace C : Cx p s m args c cX1_mayBe 4 RX1 E (wA E) := C
  replace hl : lv_has ls 4 [(0, .ref (gE E 6)), (1, .int x1), (2, .int x2), (3, .int x3)] := hl
  unfold wX1_mayBe at h
  refine lv_iload_n hx hb (dAt dX1_mayBe 0 rfl) rfl (lv_at hl 1 rfl) ?_
  refine lv_if_lt (tgt := 30) hx hb (dAt dX1_mayBe 1 rfl) (by decide) (fun c1 => ?_) (fun c1 => ?_)
  · replace h := h.1 c1
    refine lv_iconst (v := 0) hx hb (dAt dX1_mayBe 15 rfl) (by decide) ?_
    exact x_zret C hw hr hlk rfl h (dAt dX1_mayBe 16 rfl)
  · replace h := h.2 c1
    refine lv_iload_n hx hb (dAt dX1_mayBe 2 rfl) rfl (lv_at hl 1 rfl) ?_
    refine lv_iconst (v := 2) hx hb (dAt dX1_mayBe 3 rfl) (by decide) ?_
    refine lv_icmp_gt (tgt := 30) hx hb (dAt dX1_mayBe 4 rfl) (by decide) (fun c6 => ?_) (fun c6 => ?_)
    · replace h := h.1 c6
      refine lv_iconst (v := 0) hx hb (dAt dX1_mayBe 15 rfl) (by decide) ?_
      exact x_zret C hw hr hlk rfl h (dAt dX1_mayBe 16 rfl)
    · replace h := h.2 c6
      refine lv_iload_n hx hb (dAt dX1_mayBe 5 rfl) rfl (lv_at hl 2 rfl) ?_
      refine x_calli C hw (x_runSN (As := [.int x2]) (rest := []) C hw (kX6_isBeat l E hE x2 σ _ h) mtX6_isBeat lk_X1_21 ⟨by decide, by decide⟩ ⟨rfl, rfl⟩ rfl hl.1 rfl (Nat.le_of_ble_eq_true rfl) (dAt dX1_mayBe 6 rfl) ⟨Nat.zero_le _, Nat.zero_le _⟩) (fun r10 σ10 H locs h hw => ?_)
      refine lv_if_eq (tgt := 30) hx hb (dAt dX1_mayBe 7 rfl) (by decide) (fun c13 => ?_) (fun c13 => ?_)
      · replace h := h.1 c13
        refine lv_iconst (v := 0) hx hb (dAt dX1_mayBe 15 rfl) (by decide) ?_
        exact x_zret C hw hr hlk rfl h (dAt dX1_mayBe 16 rfl)
      · replace h := h.2 c13
        refine lv_iload_n hx hb (dAt dX1_mayBe 8 rfl) rfl (lv_at hl 3 rfl) ?_
        refine lv_if_lt (tgt := 30) hx hb (dAt dX1_mayBe 9 rfl) (by decide) (fun c17 => ?_) (fun c17 => ?_)
        · replace h := h.1 c17
          refine lv_iconst (v := 0) hx hb (dAt dX1_mayBe 15 rfl) (by decide) ?_
          exact x_zret C hw hr hlk rfl h (dAt dX1_mayBe 16 rfl)
        · replace h := h.2 c17
          refine lv_iload_n hx hb (dAt dX1_mayBe 10 rfl) rfl (lv_at hl 3 rfl) ?_
          refine lv_bipush (v := 8) hx hb (dAt dX1_mayBe 11 rfl) (by decide) ?_
          refine lv_icmp_ge (tgt := 30) hx hb (dAt dX1_mayBe 12 rfl) (by decide) (fun c23 => ?_) (fun c23 => ?_)
          · replace h := h.1 c23
            refine lv_iconst (v := 0) hx hb (dAt dX1_mayBe 15 rfl) (by decide) ?_
            exact x_zret C hw hr hlk rfl h (dAt dX1_mayBe 16 rfl)
          · replace h := h.2 c23
            refine lv_iconst (v := 1) hx hb (dAt dX1_mayBe 13 rfl) (by decide) ?_
            refine lv_goto (tgt := 31) hx hb (dAt dX1_mayBe 14 rfl) (by decide) ?_
            exact x_zret C hw hr hlk rfl h (dAt dX1_mayBe 16 rfl)
def tX1_put : List (Nat × Instr × Nat) := [(0, .aload_n 0, 1), (1, .getfield 9, 3), (4, .aload_n 0, 1), (5, .getfield 25, 3), (8, .iload_n 1, 1), (9, .iastore, 1), (10, .aload_n 0, 1), (11, .getfield 15, 3), (14, .aload_n 0, 1), (15, .getfield 25, 3), (18, .iload_n 2, 1), (19, .iastore, 1), (20, .aload_n 0, 1), (21, .getfield 18, 3), (24, .aload_n 0, 1), (25, .getfield 25, 3), (28, .iload_n 3, 1), (29, .iastore, 1), (30, .aload_n 0, 1), (31, .dup, 1), (32, .getfield 25, 3), (35, .iconst 1, 1), (36, .iadd, 1), (37, .putfield 25, 3), (40, .return_, 1)]
theorem dX1_put : dOk cX1_put tX1_put = true := by decide +kernel
abbrev rX1_put : Room := { frames := 0, cells := 0, slots := 0, locals := 0 }
def wX1_put (x1 : Int32) (x2 : Int32) (x3 : Int32) (σ : Mem) (Q : Mem → Prop) : Prop := (vp_in (σ 6 3) 8 ∧ (∀ σ9 : Mem, σ9 = um σ 7 ((σ 6 3)).toNatClampNeg x1 → (vp_in (σ9 6 3) 8 ∧ (∀ σ19 : Mem, σ19 = um σ9 8 ((σ9 6 3)).toNatClampNeg x2 → (vp_in (σ19 6 3) 8 ∧ (∀ σ29 : Mem, σ29 = um σ19 9 ((σ19 6 3)).toNatClampNeg x3 → (∀ σ37 : Mem, σ37 = um σ29 6 3 ((σ29 6 3) + (1 : Int32)) → (Q σ37))))))))
set_option maxHeartbeats 4000000 in
set_option maxRecDepth 100000 in
theorem kX1_put (l : Launch) (E : wE) (hE : wX E) (x1 : Int32) (x2 : Int32) (x3 : Int32) (σ : Mem) (Q : Mem → Prop) (h : wX1_put x1 x2 x3 σ Q) : Met l yX1_put (Cond.code yX1_put cX1_put 4 none :: TB) rX1_put (wPc E σ [.ref (gE E 6), .int x1, .int x2, .int x3]) (wQv E Q) 0 0 (wA E) := by
  refine wMet (by decide) hE.2.2 (Nat.le_of_ble_eq_true rfl) ?_
  intro p e s m args below meth c ls C hr hlk hl hw
  have hx := C.1.1
  have hb := C.1.2.1
  replace C : Cx p s m args c cX1_put 4 RX1 E (wA E) := C
  replace hl : lv_has ls 4 [(0, .ref (gE E 6)), (1, .int x1), (2, .int x2), (3, .int x3)] := hl
  unfold wX1_put at h
  refine lv_aload_n hx hb (dAt dX1_put 0 rfl) rfl (lv_at hl 0 rfl) ?_
  refine x_getr C hw fl_X1_9 (hE.1 6) (nX hE (by decide)) rfl (dAt dX1_put 1 rfl) ?_
  refine lv_aload_n hx hb (dAt dX1_put 2 rfl) rfl (lv_at hl 0 rfl) ?_
  refine x_geti C hw fl_X1_25 (hE.1 6) (nX hE (by decide)) rfl (dAt dX1_put 3 rfl) ?_
  refine lv_iload_n hx hb (dAt dX1_put 4 rfl) rfl (lv_at hl 1 rfl) ?_
  obtain ⟨z9, h⟩ := h
  refine x_ist C hw (hE.1 7) (nX hE (by decide)) z9 rfl (dAt dX1_put 5 rfl) (fun σ9 H locs eσ9 hw => ?_)
  replace h := h σ9 eσ9
  refine lv_aload_n hx hb (dAt dX1_put 6 rfl) rfl (lv_at hl 0 rfl) ?_
  refine x_getr C hw fl_X1_15 (hE.1 6) (nX hE (by decide)) rfl (dAt dX1_put 7 rfl) ?_
  refine lv_aload_n hx hb (dAt dX1_put 8 rfl) rfl (lv_at hl 0 rfl) ?_
  refine x_geti C hw fl_X1_25 (hE.1 6) (nX hE (by decide)) rfl (dAt dX1_put 9 rfl) ?_
  refine lv_iload_n hx hb (dAt dX1_put 10 rfl) rfl (lv_at hl 2 rfl) ?_
  obtain ⟨z19, h⟩ := h
  refine x_ist C hw (hE.1 8) (nX hE (by decide)) z19 rfl (dAt dX1_put 11 rfl) (fun σ19 H locs eσ19 hw => ?_)
  replace h := h σ19 eσ19
  refine lv_aload_n hx hb (dAt dX1_put 12 rfl) rfl (lv_at hl 0 rfl) ?_
  refine x_getr C hw fl_X1_18 (hE.1 6) (nX hE (by decide)) rfl (dAt dX1_put 13 rfl) ?_
  refine lv_aload_n hx hb (dAt dX1_put 14 rfl) rfl (lv_at hl 0 rfl) ?_
  refine x_geti C hw fl_X1_25 (hE.1 6) (nX hE (by decide)) rfl (dAt dX1_put 15 rfl) ?_
  refine lv_iload_n hx hb (dAt dX1_put 16 rfl) rfl (lv_at hl 3 rfl) ?_
  obtain ⟨z29, h⟩ := h
  refine x_ist C hw (hE.1 9) (nX hE (by decide)) z29 rfl (dAt dX1_put 17 rfl) (fun σ29 H locs eσ29 hw => ?_)
  replace h := h σ29 eσ29
  refine lv_aload_n hx hb (dAt dX1_put 18 rfl) rfl (lv_at hl 0 rfl) ?_
  refine lv_dup hx hb (dAt dX1_put 19 rfl) rfl ?_
  refine x_geti C hw fl_X1_25 (hE.1 6) (nX hE (by decide)) rfl (dAt dX1_put 20 rfl) ?_
  refine lv_iconst (v := 1) hx hb (dAt dX1_put 21 rfl) (by decide) ?_
  refine lv_iadd hx hb (dAt dX1_put 22 rfl) ?_
  refine x_pf C hw fl_X1_25 (hE.1 6) (nX hE (by decide)) rfl rfl rfl (dAt dX1_put 23 rfl) (fun σ37 H locs eσ37 hw => ?_)
  replace h := h σ37 eσ37
  exact x_vret C hw hr hlk h (dAt dX1_put 24 rfl)
def tX2_put : List (Nat × Instr × Nat) := [(0, .aload_n 0, 1), (1, .getfield 9, 3), (4, .aload_n 0, 1), (5, .getfield 18, 3), (8, .iload_n 1, 1), (9, .iastore, 1), (10, .aload_n 0, 1), (11, .getfield 15, 3), (14, .aload_n 0, 1), (15, .getfield 18, 3), (18, .iload_n 2, 1), (19, .iastore, 1), (20, .aload_n 0, 1), (21, .dup, 1), (22, .getfield 18, 3), (25, .iconst 1, 1), (26, .iadd, 1), (27, .putfield 18, 3), (30, .return_, 1)]
theorem dX2_put : dOk cX2_put tX2_put = true := by decide +kernel
abbrev rX2_put : Room := { frames := 0, cells := 0, slots := 0, locals := 0 }
def wX2_put (x1 : Int32) (x2 : Int32) (σ : Mem) (Q : Mem → Prop) : Prop := (vp_in (σ 50 2) 8 ∧ (∀ σ9 : Mem, σ9 = um σ 51 ((σ 50 2)).toNatClampNeg x1 → (vp_in (σ9 50 2) 8 ∧ (∀ σ19 : Mem, σ19 = um σ9 52 ((σ9 50 2)).toNatClampNeg x2 → (∀ σ27 : Mem, σ27 = um σ19 50 2 ((σ19 50 2) + (1 : Int32)) → (Q σ27))))))
set_option maxHeartbeats 4000000 in
set_option maxRecDepth 100000 in
theorem kX2_put (l : Launch) (E : wE) (hE : wX E) (x1 : Int32) (x2 : Int32) (σ : Mem) (Q : Mem → Prop) (h : wX2_put x1 x2 σ Q) : Met l yX2_put (Cond.code yX2_put cX2_put 3 none :: TB) rX2_put (wPc E σ [.ref (gE E 50), .int x1, .int x2]) (wQv E Q) 0 0 (wA E) := by
  refine wMet (by decide) hE.2.2 (Nat.le_of_ble_eq_true rfl) ?_
  intro p e s m args below meth c ls C hr hlk hl hw
  have hx := C.1.1
  have hb := C.1.2.1
  replace C : Cx p s m args c cX2_put 3 RX2 E (wA E) := C
  replace hl : lv_has ls 3 [(0, .ref (gE E 50)), (1, .int x1), (2, .int x2)] := hl
  unfold wX2_put at h
  refine lv_aload_n hx hb (dAt dX2_put 0 rfl) rfl (lv_at hl 0 rfl) ?_
  refine x_getr C hw fl_X2_9 (hE.1 50) (nX hE (by decide)) rfl (dAt dX2_put 1 rfl) ?_
  refine lv_aload_n hx hb (dAt dX2_put 2 rfl) rfl (lv_at hl 0 rfl) ?_
  refine x_geti C hw fl_X2_18 (hE.1 50) (nX hE (by decide)) rfl (dAt dX2_put 3 rfl) ?_
  refine lv_iload_n hx hb (dAt dX2_put 4 rfl) rfl (lv_at hl 1 rfl) ?_
  obtain ⟨z9, h⟩ := h
  refine x_ist C hw (hE.1 51) (nX hE (by decide)) z9 rfl (dAt dX2_put 5 rfl) (fun σ9 H locs eσ9 hw => ?_)
  replace h := h σ9 eσ9
  refine lv_aload_n hx hb (dAt dX2_put 6 rfl) rfl (lv_at hl 0 rfl) ?_
  refine x_getr C hw fl_X2_15 (hE.1 50) (nX hE (by decide)) rfl (dAt dX2_put 7 rfl) ?_
  refine lv_aload_n hx hb (dAt dX2_put 8 rfl) rfl (lv_at hl 0 rfl) ?_
  refine x_geti C hw fl_X2_18 (hE.1 50) (nX hE (by decide)) rfl (dAt dX2_put 9 rfl) ?_
  refine lv_iload_n hx hb (dAt dX2_put 10 rfl) rfl (lv_at hl 2 rfl) ?_
  obtain ⟨z19, h⟩ := h
  refine x_ist C hw (hE.1 52) (nX hE (by decide)) z19 rfl (dAt dX2_put 11 rfl) (fun σ19 H locs eσ19 hw => ?_)
  replace h := h σ19 eσ19
  refine lv_aload_n hx hb (dAt dX2_put 12 rfl) rfl (lv_at hl 0 rfl) ?_
  refine lv_dup hx hb (dAt dX2_put 13 rfl) rfl ?_
  refine x_geti C hw fl_X2_18 (hE.1 50) (nX hE (by decide)) rfl (dAt dX2_put 14 rfl) ?_
  refine lv_iconst (v := 1) hx hb (dAt dX2_put 15 rfl) (by decide) ?_
  refine lv_iadd hx hb (dAt dX2_put 16 rfl) ?_
  refine x_pf C hw fl_X2_18 (hE.1 50) (nX hE (by decide)) rfl rfl rfl (dAt dX2_put 17 rfl) (fun σ27 H locs eσ27 hw => ?_)
  replace h := h σ27 eσ27
  exact x_vret C hw hr hlk h (dAt dX2_put 18 rfl)
def tX2_comesOut : List (Nat × Instr × Nat) := [(0, .iconst 0, 1), (1, .istore_n 3, 1), (2, .iload_n 3, 1), (3, .aload_n 0, 1), (4, .getfield 18, 3), (7, .if_icmp .ge 30, 3), (10, .aload_n 1, 1), (11, .iload_n 2, 1), (12, .aload_n 0, 1), (13, .getfield 9, 3), (16, .iload_n 3, 1), (17, .iaload, 1), (18, .iadd, 1), (19, .iaload, 1), (20, .aload_n 0, 1), (21, .getfield 15, 3), (24, .iload_n 3, 1), (25, .iaload, 1), (26, .if_icmp .eq 5, 3), (29, .iconst 0, 1), (30, .ireturn, 1), (31, .iinc 3 1, 3), (34, .goto (-32), 3), (37, .iconst 1, 1), (38, .ireturn, 1)]
theorem dX2_comesOut : dOk cX2_comesOut tX2_comesOut = true := by decide +kernel
abbrev rX2_comesOut : Room := { frames := 0, cells := 0, slots := 0, locals := 0 }
def wX2_comesOut_2 (Q : Int32 → Mem → Prop) : Nat → Nat → Nat → Int32 → Int32 → Mem → Prop
  | 0, _, _, _, _, _ => False
  | n + 1, b1, nb1, x2, x3, σ => ((((σ 50 2) ≤ x3) → (Q (1 : Int32) σ)) ∧ ((¬ (σ 50 2) ≤ x3) → (vp_in x3 8 ∧ (vp_in (x2 + (σ 51 (x3).toNatClampNeg)) nb1 ∧ (vp_in x3 8 ∧ ((((σ b1 ((x2 + (σ 51 (x3).toNatClampNeg))).toNatClampNeg) = (σ 52 (x3).toNatClampNeg)) → (wX2_comesOut_2 Q n b1 nb1 x2 (x3 + (1 : Int32)) σ)) ∧ ((¬ (σ b1 ((x2 + (σ 51 (x3).toNatClampNeg))).toNatClampNeg) = (σ 52 (x3).toNatClampNeg)) → (Q (0 : Int32) σ))))))))
def wX2_comesOut (b1 nb1 : Nat) (x2 : Int32) (σ : Mem) (Q : Int32 → Mem → Prop) : Prop := (∃ N2, wX2_comesOut_2 Q N2 b1 nb1 x2 (0 : Int32) σ)
set_option maxHeartbeats 4000000 in
set_option maxRecDepth 100000 in
theorem kX2_comesOut_2 {p : Program} {l : Launch} {e : Env} {s : State} {m : MethodId} {args : Array Value} {below : List Frame} {meth : Method} {c : Code} {E : wE} (hE : wX E) (C : Cx p s m args c cX2_comesOut 4 RX2 E (wA E)) (hr : meth.sig.returnType = (some .boolean)) (hlk : meth.locks = false) {Q : Int32 → Mem → Prop} : ∀ (n : Nat) (b1 : Nat) (nb1 : Nat) (x2 : Int32) (x3 : Int32) (σ : Mem) (hb1 : sE E b1 = .inl nb1) (gb1 : b1 < nE E) (H : Heap) (locs : List Loc) (ls : Array Slot), wd E (wA E) s σ H locs → lv_has ls 4 [(0, .ref (gE E 50)), (1, .ref (gE E b1)), (2, .int x2), (3, .int x3)] → wX2_comesOut_2 Q n b1 nb1 x2 x3 σ → W p l e rX2_comesOut s m args below meth c H locs 0 0 (MQ below (wQi E Q) args s 0 0 (wA E)) (F0 m 2 ls []) := by
  have hx := C.1.1
  have hb := C.1.2.1
  intro n
  induction n with
  | zero =>
    intro b1 nb1 x2 x3 σ hb1 gb1 H locs ls hw hl h
    exact h.elim
  | succ n ih =>
    intro b1 nb1 x2 x3 σ hb1 gb1 H locs ls hw hl h
    rw [wX2_comesOut_2] at h
    refine lv_iload_n hx hb (dAt dX2_comesOut 2 rfl) rfl (lv_at hl 3 rfl) ?_
    refine lv_aload_n hx hb (dAt dX2_comesOut 3 rfl) rfl (lv_at hl 0 rfl) ?_
    refine x_geti C hw fl_X2_18 (hE.1 50) (nX hE (by decide)) rfl (dAt dX2_comesOut 4 rfl) ?_
    refine lv_icmp_ge (tgt := 37) hx hb (dAt dX2_comesOut 5 rfl) (by decide) (fun c7 => ?_) (fun c7 => ?_)
    · replace h := h.1 c7
      refine lv_iconst (v := 1) hx hb (dAt dX2_comesOut 23 rfl) (by decide) ?_
      exact x_zret C hw hr hlk rfl h (dAt dX2_comesOut 24 rfl)
    · replace h := h.2 c7
      refine lv_aload_n hx hb (dAt dX2_comesOut 6 rfl) rfl (lv_at hl 1 rfl) ?_
      refine lv_iload_n hx hb (dAt dX2_comesOut 7 rfl) rfl (lv_at hl 2 rfl) ?_
      refine lv_aload_n hx hb (dAt dX2_comesOut 8 rfl) rfl (lv_at hl 0 rfl) ?_
      refine x_getr C hw fl_X2_9 (hE.1 50) (nX hE (by decide)) rfl (dAt dX2_comesOut 9 rfl) ?_
      refine lv_iload_n hx hb (dAt dX2_comesOut 10 rfl) rfl (lv_at hl 3 rfl) ?_
      obtain ⟨z17, h⟩ := h
      refine x_ild C hw (hE.1 51) (nX hE (by decide)) z17 rfl (dAt dX2_comesOut 11 rfl) ?_
      refine lv_iadd hx hb (dAt dX2_comesOut 12 rfl) ?_
      obtain ⟨z19, h⟩ := h
      refine x_ild C hw hb1 gb1 z19 rfl (dAt dX2_comesOut 13 rfl) ?_
      refine lv_aload_n hx hb (dAt dX2_comesOut 14 rfl) rfl (lv_at hl 0 rfl) ?_
      refine x_getr C hw fl_X2_15 (hE.1 50) (nX hE (by decide)) rfl (dAt dX2_comesOut 15 rfl) ?_
      refine lv_iload_n hx hb (dAt dX2_comesOut 16 rfl) rfl (lv_at hl 3 rfl) ?_
      obtain ⟨z25, h⟩ := h
      refine x_ild C hw (hE.1 52) (nX hE (by decide)) z25 rfl (dAt dX2_comesOut 17 rfl) ?_
      refine lv_icmp_eq (tgt := 31) hx hb (dAt dX2_comesOut 18 rfl) (by decide) (fun c26 => ?_) (fun c26 => ?_)
      · replace h := h.1 c26
        refine lv_iinc (v := (x3 + (1 : Int32))) (lv' := [(3, .int (x3 + (1 : Int32))), (0, .ref (gE E 50)), (1, .ref (gE E b1)), (2, .int x2)]) hx hb (dAt dX2_comesOut 21 rfl) hl (k := 3) rfl rfl (by decide) rfl (fun ls hl => ?_)
        refine lv_goto (tgt := 2) hx hb (dAt dX2_comesOut 22 rfl) (by decide) ?_
        exact ih b1 nb1 x2 (x3 + (1 : Int32)) σ hb1 gb1 _ _ _ hw (lv_sub hl [1, 2, 3, 0] rfl) h
      · replace h := h.2 c26
        refine lv_iconst (v := 0) hx hb (dAt dX2_comesOut 19 rfl) (by decide) ?_
        exact x_zret C hw hr hlk rfl h (dAt dX2_comesOut 20 rfl)
set_option maxHeartbeats 4000000 in
set_option maxRecDepth 100000 in
theorem kX2_comesOut (l : Launch) (E : wE) (hE : wX E) (b1 nb1 : Nat) (hb1 : sE E b1 = .inl nb1) (gb1 : b1 < nE E) (x2 : Int32) (σ : Mem) (Q : Int32 → Mem → Prop) (h : wX2_comesOut b1 nb1 x2 σ Q) : Met l yX2_comesOut (Cond.code yX2_comesOut cX2_comesOut 4 (some .boolean) :: TB) rX2_comesOut (wPc E σ [.ref (gE E 50), .ref (gE E b1), .int x2]) (wQi E Q) 0 0 (wA E) := by
  refine wMet (by decide) hE.2.2 (Nat.le_of_ble_eq_true rfl) ?_
  intro p e s m args below meth c ls C hr hlk hl hw
  have hx := C.1.1
  have hb := C.1.2.1
  replace C : Cx p s m args c cX2_comesOut 4 RX2 E (wA E) := C
  replace hl : lv_has ls 4 [(0, .ref (gE E 50)), (1, .ref (gE E b1)), (2, .int x2)] := hl
  unfold wX2_comesOut at h
  refine lv_iconst (v := 0) hx hb (dAt dX2_comesOut 0 rfl) (by decide) ?_
  refine lv_istore_n (lv' := [(3, .int (0 : Int32)), (0, .ref (gE E 50)), (1, .ref (gE E b1)), (2, .int x2)]) hx hb (dAt dX2_comesOut 1 rfl) rfl hl (by decide) rfl (fun ls hl => ?_)
  obtain ⟨n2, h⟩ := h
  exact kX2_comesOut_2 hE C hr hlk n2 b1 nb1 x2 (0 : Int32) σ hb1 gb1 _ _ _ hw (lv_sub hl [1, 2, 3, 0] rfl) h
def tX3_become : List (Nat × Instr × Nat) := [(0, .aload_n 1, 1), (1, .getfield 9, 3), (4, .iconst 0, 1), (5, .aload_n 0, 1), (6, .getfield 9, 3), (9, .iconst 0, 1), (10, .bipush 8, 2), (12, .invokestatic 34, 3), (15, .aload_n 1, 1), (16, .getfield 15, 3), (19, .iconst 0, 1), (20, .aload_n 0, 1), (21, .getfield 15, 3), (24, .iconst 0, 1), (25, .bipush 8, 2), (27, .invokestatic 34, 3), (30, .aload_n 1, 1), (31, .getfield 18, 3), (34, .iconst 0, 1), (35, .aload_n 0, 1), (36, .getfield 18, 3), (39, .iconst 0, 1), (40, .bipush 8, 2), (42, .invokestatic 34, 3), (45, .aload_n 1, 1), (46, .getfield 21, 3), (49, .iconst 0, 1), (50, .aload_n 0, 1), (51, .getfield 21, 3), (54, .iconst 0, 1), (55, .bipush 24, 2), (57, .invokestatic 34, 3), (60, .aload_n 0, 1), (61, .aload_n 1, 1), (62, .getfield 40, 3), (65, .putfield 40, 3), (68, .aload_n 0, 1), (69, .aload_n 1, 1), (70, .getfield 24, 3), (73, .putfield 24, 3), (76, .aload_n 0, 1), (77, .aload_n 1, 1), (78, .getfield 43, 3), (81, .putfield 43, 3), (84, .return_, 1)]
theorem dX3_become : dOk cX3_become tX3_become = true := by decide +kernel
abbrev rX3_become : Room := { frames := 1, cells := 0, slots := 0, locals := 48 }
def wX3_become (b0 : Nat) (b1 : Nat) (σ : Mem) (Q : Mem → Prop) : Prop := (cpOk (0 : Int32) (0 : Int32) (8 : Int32) 8 8 ∧ ∀ σ12 : Mem, σ12 = cpM σ (b1 + 1) (b0 + 1) ((0 : Int32)).toNatClampNeg ((0 : Int32)).toNatClampNeg ((8 : Int32)).toNatClampNeg → (cpOk (0 : Int32) (0 : Int32) (8 : Int32) 8 8 ∧ ∀ σ27 : Mem, σ27 = cpM σ12 (b1 + 2) (b0 + 2) ((0 : Int32)).toNatClampNeg ((0 : Int32)).toNatClampNeg ((8 : Int32)).toNatClampNeg → (cpOk (0 : Int32) (0 : Int32) (8 : Int32) 8 8 ∧ ∀ σ42 : Mem, σ42 = cpM σ27 (b1 + 3) (b0 + 3) ((0 : Int32)).toNatClampNeg ((0 : Int32)).toNatClampNeg ((8 : Int32)).toNatClampNeg → (cpOk (0 : Int32) (0 : Int32) (24 : Int32) 24 24 ∧ ∀ σ57 : Mem, σ57 = cpM σ42 (b1 + 4) (b0 + 4) ((0 : Int32)).toNatClampNeg ((0 : Int32)).toNatClampNeg ((24 : Int32)).toNatClampNeg → (∀ σ65 : Mem, σ65 = um σ57 b0 4 (σ57 b1 4) → (∀ σ73 : Mem, σ73 = um σ65 b0 5 (σ65 b1 5) → (∀ σ81 : Mem, σ81 = um σ73 b0 6 (σ73 b1 6) → (Q σ81))))))))
set_option maxHeartbeats 4000000 in
set_option maxRecDepth 100000 in
theorem kX3_become (l : Launch) (E : wE) (hE : wX E) (b0 : Nat) (hb0 : isS b0) (b1 : Nat) (hb1 : isS b1) (σ : Mem) (Q : Mem → Prop) (h : wX3_become b0 b1 σ Q) : Met l yX3_become (Cond.code yX3_become cX3_become 2 none :: TB) rX3_become (wPc E σ [.ref (gE E b0), .ref (gE E b1)]) (wQv E Q) 0 0 (wA E) := by
  refine wMet (by decide) hE.2.2 (Nat.le_of_ble_eq_true rfl) ?_
  intro p e s m args below meth c ls C hr hlk hl hw
  have hx := C.1.1
  have hb := C.1.2.1
  replace C : Cx p s m args c cX3_become 2 RX3 E (wA E) := C
  replace hl : lv_has ls 2 [(0, .ref (gE E b0)), (1, .ref (gE E b1))] := hl
  unfold wX3_become at h
  refine lv_aload_n hx hb (dAt dX3_become 0 rfl) rfl (lv_at hl 1 rfl) ?_
  refine x_getr C hw fl_X3_9 (sS hE hb1) (nS hE hb1 (by omega)) rfl (dAt dX3_become 1 rfl) ?_
  refine lv_iconst (v := 0) hx hb (dAt dX3_become 2 rfl) (by decide) ?_
  refine lv_aload_n hx hb (dAt dX3_become 3 rfl) rfl (lv_at hl 0 rfl) ?_
  refine x_getr C hw fl_X3_9 (sS hE hb0) (nS hE hb0 (by omega)) rfl (dAt dX3_become 4 rfl) ?_
  refine lv_iconst (v := 0) hx hb (dAt dX3_become 5 rfl) (by decide) ?_
  refine lv_bipush (v := 8) hx hb (dAt dX3_become 6 rfl) (by decide) ?_
  obtain ⟨z12, h⟩ := h
  refine x_cp C hw hl.1 lcp_X3_34 (sS_1 hE hb1) (nS hE hb1 (by omega)) (sS_1 hE hb0) (nS hE hb0 (by omega)) ncp_1 ncp_2 ncp_3 z12 (Nat.le_of_ble_eq_true rfl) (Nat.le_of_ble_eq_true rfl) (dAt dX3_become 7 rfl) (fun σ12 H locs eσ12 hw => ?_)
  replace h := h σ12 eσ12
  refine lv_aload_n hx hb (dAt dX3_become 8 rfl) rfl (lv_at hl 1 rfl) ?_
  refine x_getr C hw fl_X3_15 (sS hE hb1) (nS hE hb1 (by omega)) rfl (dAt dX3_become 9 rfl) ?_
  refine lv_iconst (v := 0) hx hb (dAt dX3_become 10 rfl) (by decide) ?_
  refine lv_aload_n hx hb (dAt dX3_become 11 rfl) rfl (lv_at hl 0 rfl) ?_
  refine x_getr C hw fl_X3_15 (sS hE hb0) (nS hE hb0 (by omega)) rfl (dAt dX3_become 12 rfl) ?_
  refine lv_iconst (v := 0) hx hb (dAt dX3_become 13 rfl) (by decide) ?_
  refine lv_bipush (v := 8) hx hb (dAt dX3_become 14 rfl) (by decide) ?_
  obtain ⟨z27, h⟩ := h
  refine x_cp C hw hl.1 lcp_X3_34 (sS_2 hE hb1) (nS hE hb1 (by omega)) (sS_2 hE hb0) (nS hE hb0 (by omega)) ncp_1 ncp_2 ncp_3 z27 (Nat.le_of_ble_eq_true rfl) (Nat.le_of_ble_eq_true rfl) (dAt dX3_become 15 rfl) (fun σ27 H locs eσ27 hw => ?_)
  replace h := h σ27 eσ27
  refine lv_aload_n hx hb (dAt dX3_become 16 rfl) rfl (lv_at hl 1 rfl) ?_
  refine x_getr C hw fl_X3_18 (sS hE hb1) (nS hE hb1 (by omega)) rfl (dAt dX3_become 17 rfl) ?_
  refine lv_iconst (v := 0) hx hb (dAt dX3_become 18 rfl) (by decide) ?_
  refine lv_aload_n hx hb (dAt dX3_become 19 rfl) rfl (lv_at hl 0 rfl) ?_
  refine x_getr C hw fl_X3_18 (sS hE hb0) (nS hE hb0 (by omega)) rfl (dAt dX3_become 20 rfl) ?_
  refine lv_iconst (v := 0) hx hb (dAt dX3_become 21 rfl) (by decide) ?_
  refine lv_bipush (v := 8) hx hb (dAt dX3_become 22 rfl) (by decide) ?_
  obtain ⟨z42, h⟩ := h
  refine x_cp C hw hl.1 lcp_X3_34 (sS_3 hE hb1) (nS hE hb1 (by omega)) (sS_3 hE hb0) (nS hE hb0 (by omega)) ncp_1 ncp_2 ncp_3 z42 (Nat.le_of_ble_eq_true rfl) (Nat.le_of_ble_eq_true rfl) (dAt dX3_become 23 rfl) (fun σ42 H locs eσ42 hw => ?_)
  replace h := h σ42 eσ42
  refine lv_aload_n hx hb (dAt dX3_become 24 rfl) rfl (lv_at hl 1 rfl) ?_
  refine x_getr C hw fl_X3_21 (sS hE hb1) (nS hE hb1 (by omega)) rfl (dAt dX3_become 25 rfl) ?_
  refine lv_iconst (v := 0) hx hb (dAt dX3_become 26 rfl) (by decide) ?_
  refine lv_aload_n hx hb (dAt dX3_become 27 rfl) rfl (lv_at hl 0 rfl) ?_
  refine x_getr C hw fl_X3_21 (sS hE hb0) (nS hE hb0 (by omega)) rfl (dAt dX3_become 28 rfl) ?_
  refine lv_iconst (v := 0) hx hb (dAt dX3_become 29 rfl) (by decide) ?_
  refine lv_bipush (v := 24) hx hb (dAt dX3_become 30 rfl) (by decide) ?_
  obtain ⟨z57, h⟩ := h
  refine x_cp C hw hl.1 lcp_X3_34 (sS_4 hE hb1) (nS hE hb1 (by omega)) (sS_4 hE hb0) (nS hE hb0 (by omega)) ncp_1 ncp_2 ncp_3 z57 (Nat.le_of_ble_eq_true rfl) (Nat.le_of_ble_eq_true rfl) (dAt dX3_become 31 rfl) (fun σ57 H locs eσ57 hw => ?_)
  replace h := h σ57 eσ57
  refine lv_aload_n hx hb (dAt dX3_become 32 rfl) rfl (lv_at hl 0 rfl) ?_
  refine lv_aload_n hx hb (dAt dX3_become 33 rfl) rfl (lv_at hl 1 rfl) ?_
  refine x_geti C hw fl_X3_40 (sS hE hb1) (nS hE hb1 (by omega)) rfl (dAt dX3_become 34 rfl) ?_
  refine x_pf C hw fl_X3_40 (sS hE hb0) (nS hE hb0 (by omega)) rfl rfl rfl (dAt dX3_become 35 rfl) (fun σ65 H locs eσ65 hw => ?_)
  replace h := h σ65 eσ65
  refine lv_aload_n hx hb (dAt dX3_become 36 rfl) rfl (lv_at hl 0 rfl) ?_
  refine lv_aload_n hx hb (dAt dX3_become 37 rfl) rfl (lv_at hl 1 rfl) ?_
  refine x_geti C hw fl_X3_24 (sS hE hb1) (nS hE hb1 (by omega)) rfl (dAt dX3_become 38 rfl) ?_
  refine x_pf C hw fl_X3_24 (sS hE hb0) (nS hE hb0 (by omega)) rfl rfl rfl (dAt dX3_become 39 rfl) (fun σ73 H locs eσ73 hw => ?_)
  replace h := h σ73 eσ73
  refine lv_aload_n hx hb (dAt dX3_become 40 rfl) rfl (lv_at hl 0 rfl) ?_
  refine lv_aload_n hx hb (dAt dX3_become 41 rfl) rfl (lv_at hl 1 rfl) ?_
  refine x_geti C hw fl_X3_43 (sS hE hb1) (nS hE hb1 (by omega)) rfl (dAt dX3_become 42 rfl) ?_
  refine x_pf C hw fl_X3_43 (sS hE hb0) (nS hE hb0 (by omega)) rfl rfl rfl (dAt dX3_become 43 rfl) (fun σ81 H locs eσ81 hw => ?_)
  replace h := h σ81 eσ81
  exact x_vret C hw hr hlk h (dAt dX3_become 44 rfl)
def tX3_goesOn : List (Nat × Instr × Nat) := [(0, .iload_n 0, 1), (1, .tableswitch 92 0 2 #[27, 56, 74], 27), (28, .iload_n 1, 1), (29, .bipush 97, 2), (31, .if_icmp .lt 24, 3), (34, .iload_n 1, 1), (35, .bipush 108, 2), (37, .if_icmp .gt 18, 3), (40, .iload_n 2, 1), (41, .iload_n 1, 1), (42, .bipush 97, 2), (44, .isub, 1), (45, .invokestatic 56, 3), (48, .ifCond .ne 7, 3), (51, .iconst 1, 1), (52, .goto 4, 3), (55, .iconst 0, 1), (56, .ireturn, 1), (57, .iload_n 1, 1), (58, .bipush 114, 2), (60, .if_icmp .eq 9, 3), (63, .iload_n 1, 1), (64, .bipush 108, 2), (66, .if_icmp .ne 7, 3), (69, .iconst 1, 1), (70, .goto 4, 3), (73, .iconst 0, 1), (74, .ireturn, 1), (75, .iload_n 1, 1), (76, .bipush 48, 2), (78, .if_icmp .lt 13, 3), (81, .iload_n 1, 1), (82, .bipush 57, 2), (84, .if_icmp .gt 7, 3), (87, .iconst 1, 1), (88, .goto 4, 3), (91, .iconst 0, 1), (92, .ireturn, 1), (93, .iload_n 1, 1), (94, .bipush 59, 2), (96, .if_icmp .ne 7, 3), (99, .iconst 1, 1), (100, .goto 4, 3), (103, .iconst 0, 1), (104, .ireturn, 1)]
theorem dX3_goesOn : dOk cX3_goesOn tX3_goesOn = true := by decide +kernel
abbrev rX3_goesOn : Room := { frames := 1, cells := 0, slots := 0, locals := 21 }
def wX3_goesOn (x0 : Int32) (x1 : Int32) (x2 : Int32) (σ : Mem) (Q : Int32 → Mem → Prop) : Prop := ((x0 = (0 : Int32) → (((x1 < (97 : Int32)) → (Q (0 : Int32) σ)) ∧ ((¬ x1 < (97 : Int32)) → ((((108 : Int32) < x1) → (Q (0 : Int32) σ)) ∧ ((¬ (108 : Int32) < x1) → (wX6_has x2 (x1 - (97 : Int32)) σ (fun r45 σ45 => (((¬ r45 = 0) → (Q (0 : Int32) σ45)) ∧ ((r45 = 0) → (Q (1 : Int32) σ45)))))))))) ∧ (x0 = (1 : Int32) → (((x1 = (114 : Int32)) → (Q (1 : Int32) σ)) ∧ ((¬ x1 = (114 : Int32)) → (((¬ x1 = (108 : Int32)) → (Q (0 : Int32) σ)) ∧ ((x1 = (108 : Int32)) → (Q (1 : Int32) σ)))))) ∧ (x0 = (2 : Int32) → (((x1 < (48 : Int32)) → (Q (0 : Int32) σ)) ∧ ((¬ x1 < (48 : Int32)) → ((((57 : Int32) < x1) → (Q (0 : Int32) σ)) ∧ ((¬ (57 : Int32) < x1) → (Q (1 : Int32) σ)))))) ∧ ((x0).toInt < 0 ∨ 2 < (x0).toInt → (bz (if x1 = (59 : Int32) then (1 : Int32) else (0 : Int32)) ∧ Q (if x1 = (59 : Int32) then (1 : Int32) else (0 : Int32)) σ)))
set_option maxHeartbeats 4000000 in
set_option maxRecDepth 100000 in
theorem kX3_goesOn (l : Launch) (E : wE) (hE : wX E) (x0 : Int32) (x1 : Int32) (x2 : Int32) (σ : Mem) (Q : Int32 → Mem → Prop) (h : wX3_goesOn x0 x1 x2 σ Q) : Met l yX3_goesOn (Cond.code yX3_goesOn cX3_goesOn 3 (some .boolean) :: TB) rX3_goesOn (wPc E σ [.int x0, .int x1, .int x2]) (wQi E Q) 0 0 (wA E) := by
  refine wMet (by decide) hE.2.2 (Nat.le_of_ble_eq_true rfl) ?_
  intro p e s m args below meth c ls C hr hlk hl hw
  have hx := C.1.1
  have hb := C.1.2.1
  replace C : Cx p s m args c cX3_goesOn 3 RX3 E (wA E) := C
  replace hl : lv_has ls 3 [(0, .int x0), (1, .int x1), (2, .int x2)] := hl
  unfold wX3_goesOn at h
  refine lv_iload_n hx hb (dAt dX3_goesOn 0 rfl) rfl (lv_at hl 0 rfl) ?_
  rcases swT x0 0 3 (by decide) with ⟨j1, hj1, ej1⟩ | ej1
  · match j1, hj1, ej1 with
    | 0, _, ej1 =>
      have ej1 : x0 = (0 : Int32) := ej1
      replace h := h.1 ej1
      refine lv_tableIn (off := 27) (tgt := 28) hx hb (dAt dX3_goesOn 1 rfl) (by rw [ej1]; decide) (by rw [ej1]; decide) (by rw [ej1]; rfl) (by decide) ?_
      refine lv_iload_n hx hb (dAt dX3_goesOn 2 rfl) rfl (lv_at hl 1 rfl) ?_
      refine lv_bipush (v := 97) hx hb (dAt dX3_goesOn 3 rfl) (by decide) ?_
      refine lv_icmp_lt (tgt := 55) hx hb (dAt dX3_goesOn 4 rfl) (by decide) (fun c31 => ?_) (fun c31 => ?_)
      · replace h := h.1 c31
        refine lv_iconst (v := 0) hx hb (dAt dX3_goesOn 16 rfl) (by decide) ?_
        exact x_zret C hw hr hlk rfl h (dAt dX3_goesOn 17 rfl)
      · replace h := h.2 c31
        refine lv_iload_n hx hb (dAt dX3_goesOn 5 rfl) rfl (lv_at hl 1 rfl) ?_
        refine lv_bipush (v := 108) hx hb (dAt dX3_goesOn 6 rfl) (by decide) ?_
        refine lv_icmp_gt (tgt := 55) hx hb (dAt dX3_goesOn 7 rfl) (by decide) (fun c37 => ?_) (fun c37 => ?_)
        · replace h := h.1 c37
          refine lv_iconst (v := 0) hx hb (dAt dX3_goesOn 16 rfl) (by decide) ?_
          exact x_zret C hw hr hlk rfl h (dAt dX3_goesOn 17 rfl)
        · replace h := h.2 c37
          refine lv_iload_n hx hb (dAt dX3_goesOn 8 rfl) rfl (lv_at hl 2 rfl) ?_
          refine lv_iload_n hx hb (dAt dX3_goesOn 9 rfl) rfl (lv_at hl 1 rfl) ?_
          refine lv_bipush (v := 97) hx hb (dAt dX3_goesOn 10 rfl) (by decide) ?_
          refine lv_isub hx hb (dAt dX3_goesOn 11 rfl) ?_
          refine x_calli C hw (x_runSN (As := [.int x2, .int (x1 - (97 : Int32))]) (rest := []) C hw (kX6_has l E hE x2 (x1 - (97 : Int32)) σ _ h) mtX6_has lk_X3_56 ⟨by decide, by decide⟩ ⟨rfl, rfl⟩ rfl hl.1 rfl (Nat.le_of_ble_eq_true rfl) (dAt dX3_goesOn 12 rfl) ⟨Nat.zero_le _, Nat.zero_le _⟩) (fun r45 σ45 H locs h hw => ?_)
          refine lv_if_ne (tgt := 55) hx hb (dAt dX3_goesOn 13 rfl) (by decide) (fun c48 => ?_) (fun c48 => ?_)
          · replace h := h.1 c48
            refine lv_iconst (v := 0) hx hb (dAt dX3_goesOn 16 rfl) (by decide) ?_
            exact x_zret C hw hr hlk rfl h (dAt dX3_goesOn 17 rfl)
          · replace h := h.2 c48
            refine lv_iconst (v := 1) hx hb (dAt dX3_goesOn 14 rfl) (by decide) ?_
            refine lv_goto (tgt := 56) hx hb (dAt dX3_goesOn 15 rfl) (by decide) ?_
            exact x_zret C hw hr hlk rfl h (dAt dX3_goesOn 17 rfl)
    | 1, _, ej1 =>
      have ej1 : x0 = (1 : Int32) := ej1
      replace h := h.2.1 ej1
      refine lv_tableIn (off := 56) (tgt := 57) hx hb (dAt dX3_goesOn 1 rfl) (by rw [ej1]; decide) (by rw [ej1]; decide) (by rw [ej1]; rfl) (by decide) ?_
      refine lv_iload_n hx hb (dAt dX3_goesOn 18 rfl) rfl (lv_at hl 1 rfl) ?_
      refine lv_bipush (v := 114) hx hb (dAt dX3_goesOn 19 rfl) (by decide) ?_
      refine lv_icmp_eq (tgt := 69) hx hb (dAt dX3_goesOn 20 rfl) (by decide) (fun c60 => ?_) (fun c60 => ?_)
      · replace h := h.1 c60
        refine lv_iconst (v := 1) hx hb (dAt dX3_goesOn 24 rfl) (by decide) ?_
        refine lv_goto (tgt := 74) hx hb (dAt dX3_goesOn 25 rfl) (by decide) ?_
        exact x_zret C hw hr hlk rfl h (dAt dX3_goesOn 27 rfl)
      · replace h := h.2 c60
        refine lv_iload_n hx hb (dAt dX3_goesOn 21 rfl) rfl (lv_at hl 1 rfl) ?_
        refine lv_bipush (v := 108) hx hb (dAt dX3_goesOn 22 rfl) (by decide) ?_
        refine lv_icmp_ne (tgt := 73) hx hb (dAt dX3_goesOn 23 rfl) (by decide) (fun c66 => ?_) (fun c66 => ?_)
        · replace h := h.1 c66
          refine lv_iconst (v := 0) hx hb (dAt dX3_goesOn 26 rfl) (by decide) ?_
          exact x_zret C hw hr hlk rfl h (dAt dX3_goesOn 27 rfl)
        · replace h := h.2 c66
          refine lv_iconst (v := 1) hx hb (dAt dX3_goesOn 24 rfl) (by decide) ?_
          refine lv_goto (tgt := 74) hx hb (dAt dX3_goesOn 25 rfl) (by decide) ?_
          exact x_zret C hw hr hlk rfl h (dAt dX3_goesOn 27 rfl)
    | 2, _, ej1 =>
      have ej1 : x0 = (2 : Int32) := ej1
      replace h := h.2.2.1 ej1
      refine lv_tableIn (off := 74) (tgt := 75) hx hb (dAt dX3_goesOn 1 rfl) (by rw [ej1]; decide) (by rw [ej1]; decide) (by rw [ej1]; rfl) (by decide) ?_
      refine lv_iload_n hx hb (dAt dX3_goesOn 28 rfl) rfl (lv_at hl 1 rfl) ?_
      refine lv_bipush (v := 48) hx hb (dAt dX3_goesOn 29 rfl) (by decide) ?_
      refine lv_icmp_lt (tgt := 91) hx hb (dAt dX3_goesOn 30 rfl) (by decide) (fun c78 => ?_) (fun c78 => ?_)
      · replace h := h.1 c78
        refine lv_iconst (v := 0) hx hb (dAt dX3_goesOn 36 rfl) (by decide) ?_
        exact x_zret C hw hr hlk rfl h (dAt dX3_goesOn 37 rfl)
      · replace h := h.2 c78
        refine lv_iload_n hx hb (dAt dX3_goesOn 31 rfl) rfl (lv_at hl 1 rfl) ?_
        refine lv_bipush (v := 57) hx hb (dAt dX3_goesOn 32 rfl) (by decide) ?_
        refine lv_icmp_gt (tgt := 91) hx hb (dAt dX3_goesOn 33 rfl) (by decide) (fun c84 => ?_) (fun c84 => ?_)
        · replace h := h.1 c84
          refine lv_iconst (v := 0) hx hb (dAt dX3_goesOn 36 rfl) (by decide) ?_
          exact x_zret C hw hr hlk rfl h (dAt dX3_goesOn 37 rfl)
        · replace h := h.2 c84
          refine lv_iconst (v := 1) hx hb (dAt dX3_goesOn 34 rfl) (by decide) ?_
          refine lv_goto (tgt := 92) hx hb (dAt dX3_goesOn 35 rfl) (by decide) ?_
          exact x_zret C hw hr hlk rfl h (dAt dX3_goesOn 37 rfl)
    | j + 3, hj, _ => exact absurd hj (by omega)
  · replace h := h.2.2.2 ej1
    refine lv_tableOut (tgt := 93) hx hb (dAt dX3_goesOn 1 rfl) ej1 (by decide) ?_
    refine lv_iload_n hx hb (dAt dX3_goesOn 38 rfl) rfl (lv_at hl 1 rfl) ?_
    refine lv_bipush (v := 59) hx hb (dAt dX3_goesOn 39 rfl) (by decide) ?_
    refine x_dia (ls := ls) (pcJ := 104) (cnd := x1 = (59 : Int32)) (a := (1 : Int32)) (b := (0 : Int32)) ([]) ?_ (fun ht96 hf96 => ?_)
    · exact x_zret C hw hr hlk h.1 h.2 (dAt dX3_goesOn 44 rfl)
    · refine lv_icmp_ne (tgt := 103) hx hb (dAt dX3_goesOn 40 rfl) (by decide) (fun c96 => ?_) (fun c96 => ?_)
      · refine lv_iconst (v := 0) hx hb (dAt dX3_goesOn 43 rfl) (by decide) ?_
        exact hf96 c96
      · refine lv_iconst (v := 1) hx hb (dAt dX3_goesOn 41 rfl) (by decide) ?_
        refine lv_goto (tgt := 104) hx hb (dAt dX3_goesOn 42 rfl) (by decide) ?_
        exact ht96 c96
def tX3_takeDancers : List (Nat × Instr × Nat) := [(0, .aload_n 0, 1), (1, .iconst 0, 1), (2, .putfield 40, 3), (5, .iconst 0, 1), (6, .istore_n 2, 1), (7, .iconst 0, 1), (8, .istore_n 3, 1), (9, .iload_n 3, 1), (10, .aload_n 1, 1), (11, .getfield 46, 3), (14, .if_icmp .ge 136, 3), (17, .iload_n 3, 1), (18, .iconst 4, 1), (19, .idiv, 1), (20, .istore 4, 2), (22, .aload_n 1, 1), (23, .getfield 49, 3), (26, .iload_n 3, 1), (27, .iaload, 1), (28, .istore 5, 2), (30, .iload 4, 2), (32, .bipush 8, 2), (34, .if_icmp .ge 15, 3), (37, .iload_n 3, 1), (38, .iconst 4, 1), (39, .irem, 1), (40, .iload 5, 2), (42, .iload_n 2, 1), (43, .invokestatic 52, 3), (46, .ifCond .ne 5, 3), (49, .iload_n 3, 1), (50, .ireturn, 1), (51, .iload_n 3, 1), (52, .iconst 4, 1), (53, .irem, 1), (54, .tableswitch 90 0 2 #[26, 53, 75], 26), (80, .aload_n 0, 1), (81, .getfield 9, 3), (84, .iload 4, 2), (86, .iload 5, 2), (88, .bipush 97, 2), (90, .isub, 1), (91, .iastore, 1), (92, .iload_n 2, 1), (93, .iconst 1, 1), (94, .aload_n 0, 1), (95, .getfield 9, 3), (98, .iload 4, 2), (100, .iaload, 1), (101, .ishl, 1), (102, .ior, 1), (103, .istore_n 2, 1), (104, .goto 40, 3), (107, .aload_n 0, 1), (108, .getfield 15, 3), (111, .iload 4, 2), (113, .iload 5, 2), (115, .bipush 114, 2), (117, .if_icmp .ne 7, 3), (120, .iconst 0, 1), (121, .goto 4, 3), (124, .iconst 1, 1), (125, .iastore, 1), (126, .goto 18, 3), (129, .aload_n 0, 1), (130, .getfield 18, 3), (133, .iload 4, 2), (135, .iload 5, 2), (137, .bipush 48, 2), (139, .isub, 1), (140, .iastore, 1), (141, .goto 3, 3), (144, .iinc 3 1, 3), (147, .goto (-138), 3), (150, .aload_n 1, 1), (151, .getfield 46, 3), (154, .ifCond .le 18, 3), (157, .aload_n 1, 1), (158, .getfield 46, 3), (161, .iconst 4, 1), (162, .irem, 1), (163, .iconst 3, 1), (164, .if_icmp .eq 8, 3), (167, .aload_n 1, 1), (168, .getfield 46, 3), (171, .ireturn, 1), (172, .aload_n 0, 1), (173, .aload_n 1, 1), (174, .getfield 46, 3), (177, .iconst 1, 1), (178, .iadd, 1), (179, .iconst 4, 1), (180, .idiv, 1), (181, .putfield 40, 3), (184, .iconst (-1), 1), (185, .ireturn, 1)]
theorem dX3_takeDancers : dOk cX3_takeDancers tX3_takeDancers = true := by decide +kernel
abbrev rX3_takeDancers : Room := { frames := 2, cells := 0, slots := 0, locals := 43 }
def wX3_takeDancers_172 (Q : Int32 → Mem → Prop) (b0 : Nat) (b1 : Nat) (σ : Mem) : Prop := (∀ σ181 : Mem, σ181 = um σ b0 4 (((σ b1 2) + (1 : Int32)) / (4 : Int32)) → (Q (-1 : Int32) σ181))
def wX3_takeDancers_150 (Q : Int32 → Mem → Prop) (b0 : Nat) (b1 : Nat) (σ : Mem) : Prop := ((((σ b1 2) ≤ 0) → (wX3_takeDancers_172 Q b0 b1 σ)) ∧ ((¬ (σ b1 2) ≤ 0) → (((((σ b1 2) - (σ b1 2) / (4 : Int32) * (4 : Int32)) = (3 : Int32)) → (wX3_takeDancers_172 Q b0 b1 σ)) ∧ ((¬ ((σ b1 2) - (σ b1 2) / (4 : Int32) * (4 : Int32)) = (3 : Int32)) → (Q (σ b1 2) σ)))))
def wX3_takeDancers_9 (Q : Int32 → Mem → Prop) : Nat → Nat → Nat → Int32 → Int32 → Mem → Prop
  | 0, _, _, _, _, _ => False
  | n + 1, b0, b1, x2, x3, σ => ((((σ b1 2) ≤ x3) → (wX3_takeDancers_150 Q b0 b1 σ)) ∧ ((¬ (σ b1 2) ≤ x3) → (∀ x4_20 : Int32, x4_20 = (x3 / (4 : Int32)) → (vp_in x3 31 ∧ (∀ x5_28 : Int32, x5_28 = (σ (b1 + 1) (x3).toNatClampNeg) → ((((8 : Int32) ≤ x4_20) → (Q x3 σ)) ∧ ((¬ (8 : Int32) ≤ x4_20) → (wX3_goesOn (x3 - x3 / (4 : Int32) * (4 : Int32)) x5_28 x2 σ (fun r43 σ43 => (((¬ r43 = 0) → (((x3 - x3 / (4 : Int32) * (4 : Int32)) = (0 : Int32) → (vp_in x4_20 8 ∧ (∀ σ91 : Mem, σ91 = um σ43 (b0 + 1) (x4_20).toNatClampNeg (x5_28 - (97 : Int32)) → (vp_in x4_20 8 ∧ (∀ x2_103 : Int32, x2_103 = (x2 ||| ((1 : Int32) <<< ((σ91 (b0 + 1) (x4_20).toNatClampNeg) &&& 31))) → (wX3_takeDancers_9 Q n b0 b1 x2_103 (x3 + (1 : Int32)) σ91)))))) ∧ ((x3 - x3 / (4 : Int32) * (4 : Int32)) = (1 : Int32) → (vp_in x4_20 8 ∧ (∀ σ125 : Mem, σ125 = um σ43 (b0 + 2) (x4_20).toNatClampNeg (if x5_28 = (114 : Int32) then (0 : Int32) else (1 : Int32)) → (wX3_takeDancers_9 Q n b0 b1 x2 (x3 + (1 : Int32)) σ125)))) ∧ ((x3 - x3 / (4 : Int32) * (4 : Int32)) = (2 : Int32) → (vp_in x4_20 8 ∧ (∀ σ140 : Mem, σ140 = um σ43 (b0 + 3) (x4_20).toNatClampNeg (x5_28 - (48 : Int32)) → (wX3_takeDancers_9 Q n b0 b1 x2 (x3 + (1 : Int32)) σ140)))) ∧ (((x3 - x3 / (4 : Int32) * (4 : Int32))).toInt < 0 ∨ 2 < ((x3 - x3 / (4 : Int32) * (4 : Int32))).toInt → (wX3_takeDancers_9 Q n b0 b1 x2 (x3 + (1 : Int32)) σ43)))) ∧ ((r43 = 0) → (Q x3 σ43))))))))))))
def wX3_takeDancers (b0 : Nat) (b1 : Nat) (σ : Mem) (Q : Int32 → Mem → Prop) : Prop := (∀ σ2 : Mem, σ2 = um σ b0 4 (0 : Int32) → (∃ N9, wX3_takeDancers_9 Q N9 b0 b1 (0 : Int32) (0 : Int32) σ2))
set_option maxHeartbeats 4000000 in
set_option maxRecDepth 100000 in
theorem kX3_takeDancers_172 {p : Program} {l : Launch} {e : Env} {s : State} {m : MethodId} {args : Array Value} {below : List Frame} {meth : Method} {c : Code} {E : wE} (hE : wX E) (C : Cx p s m args c cX3_takeDancers 6 RX3 E (wA E)) (hr : meth.sig.returnType = (some .int)) (hlk : meth.locks = false) {Q : Int32 → Mem → Prop} : ∀ (b0 : Nat) (b1 : Nat) (σ : Mem) (hb0 : isS b0) (hb1 : isT b1) (H : Heap) (locs : List Loc) (ls : Array Slot), wd E (wA E) s σ H locs → lv_has ls 6 [(0, .ref (gE E b0)), (1, .ref (gE E b1))] → wX3_takeDancers_172 Q b0 b1 σ → W p l e rX3_takeDancers s m args below meth c H locs 0 0 (MQ below (wQi E Q) args s 0 0 (wA E)) (F0 m 172 ls []) := by
  have hx := C.1.1
  have hb := C.1.2.1
  intro b0 b1 σ hb0 hb1 H locs ls hw hl h
  unfold wX3_takeDancers_172 at h
  refine lv_aload_n hx hb (dAt dX3_takeDancers 86 rfl) rfl (lv_at hl 0 rfl) ?_
  refine lv_aload_n hx hb (dAt dX3_takeDancers 87 rfl) rfl (lv_at hl 1 rfl) ?_
  refine x_getiN C hw fl_X3_46 (sT hE hb1) (nT hE hb1 (by omega)) rfl (dAt dX3_takeDancers 88 rfl) ?_
  refine lv_iconst (v := 1) hx hb (dAt dX3_takeDancers 89 rfl) (by decide) ?_
  refine lv_iadd hx hb (dAt dX3_takeDancers 90 rfl) ?_
  refine lv_iconst (v := 4) hx hb (dAt dX3_takeDancers 91 rfl) (by decide) ?_
  refine lv_idiv hx hb (dAt dX3_takeDancers 92 rfl) (by decide) ?_
  refine x_pf C hw fl_X3_40 (sS hE hb0) (nS hE hb0 (by omega)) rfl rfl rfl (dAt dX3_takeDancers 93 rfl) (fun σ181 H locs eσ181 hw => ?_)
  replace h := h σ181 eσ181
  refine lv_iconst (v := -1) hx hb (dAt dX3_takeDancers 94 rfl) (by decide) ?_
  exact x_iret C hw hr hlk h (dAt dX3_takeDancers 95 rfl)
set_option maxHeartbeats 4000000 in
set_option maxRecDepth 100000 in
theorem kX3_takeDancers_150 {p : Program} {l : Launch} {e : Env} {s : State} {m : MethodId} {args : Array Value} {below : List Frame} {meth : Method} {c : Code} {E : wE} (hE : wX E) (C : Cx p s m args c cX3_takeDancers 6 RX3 E (wA E)) (hr : meth.sig.returnType = (some .int)) (hlk : meth.locks = false) {Q : Int32 → Mem → Prop} : ∀ (b0 : Nat) (b1 : Nat) (σ : Mem) (hb0 : isS b0) (hb1 : isT b1) (H : Heap) (locs : List Loc) (ls : Array Slot), wd E (wA E) s σ H locs → lv_has ls 6 [(0, .ref (gE E b0)), (1, .ref (gE E b1))] → wX3_takeDancers_150 Q b0 b1 σ → W p l e rX3_takeDancers s m args below meth c H locs 0 0 (MQ below (wQi E Q) args s 0 0 (wA E)) (F0 m 150 ls []) := by
  have hx := C.1.1
  have hb := C.1.2.1
  intro b0 b1 σ hb0 hb1 H locs ls hw hl h
  unfold wX3_takeDancers_150 at h
  refine lv_aload_n hx hb (dAt dX3_takeDancers 74 rfl) rfl (lv_at hl 1 rfl) ?_
  refine x_getiN C hw fl_X3_46 (sT hE hb1) (nT hE hb1 (by omega)) rfl (dAt dX3_takeDancers 75 rfl) ?_
  refine lv_if_le (tgt := 172) hx hb (dAt dX3_takeDancers 76 rfl) (by decide) (fun c154 => ?_) (fun c154 => ?_)
  · replace h := h.1 c154
    exact kX3_takeDancers_172 hE C hr hlk b0 b1 σ hb0 hb1 _ _ _ hw (lv_sub hl [0, 1] rfl) h
  · replace h := h.2 c154
    refine lv_aload_n hx hb (dAt dX3_takeDancers 77 rfl) rfl (lv_at hl 1 rfl) ?_
    refine x_getiN C hw fl_X3_46 (sT hE hb1) (nT hE hb1 (by omega)) rfl (dAt dX3_takeDancers 78 rfl) ?_
    refine lv_iconst (v := 4) hx hb (dAt dX3_takeDancers 79 rfl) (by decide) ?_
    refine lv_irem hx hb (dAt dX3_takeDancers 80 rfl) (by decide) ?_
    refine lv_iconst (v := 3) hx hb (dAt dX3_takeDancers 81 rfl) (by decide) ?_
    refine lv_icmp_eq (tgt := 172) hx hb (dAt dX3_takeDancers 82 rfl) (by decide) (fun c164 => ?_) (fun c164 => ?_)
    · replace h := h.1 c164
      exact kX3_takeDancers_172 hE C hr hlk b0 b1 σ hb0 hb1 _ _ _ hw (lv_sub hl [0, 1] rfl) h
    · replace h := h.2 c164
      refine lv_aload_n hx hb (dAt dX3_takeDancers 83 rfl) rfl (lv_at hl 1 rfl) ?_
      refine x_getiN C hw fl_X3_46 (sT hE hb1) (nT hE hb1 (by omega)) rfl (dAt dX3_takeDancers 84 rfl) ?_
      exact x_iret C hw hr hlk h (dAt dX3_takeDancers 85 rfl)
set_option maxHeartbeats 4000000 in
set_option maxRecDepth 100000 in
theorem kX3_takeDancers_9 {p : Program} {l : Launch} {e : Env} {s : State} {m : MethodId} {args : Array Value} {below : List Frame} {meth : Method} {c : Code} {E : wE} (hE : wX E) (C : Cx p s m args c cX3_takeDancers 6 RX3 E (wA E)) (hr : meth.sig.returnType = (some .int)) (hlk : meth.locks = false) {Q : Int32 → Mem → Prop} : ∀ (n : Nat) (b0 : Nat) (b1 : Nat) (x2 : Int32) (x3 : Int32) (σ : Mem) (hb0 : isS b0) (hb1 : isT b1) (H : Heap) (locs : List Loc) (ls : Array Slot), wd E (wA E) s σ H locs → lv_has ls 6 [(0, .ref (gE E b0)), (1, .ref (gE E b1)), (2, .int x2), (3, .int x3)] → wX3_takeDancers_9 Q n b0 b1 x2 x3 σ → W p l e rX3_takeDancers s m args below meth c H locs 0 0 (MQ below (wQi E Q) args s 0 0 (wA E)) (F0 m 9 ls []) := by
  have hx := C.1.1
  have hb := C.1.2.1
  intro n
  induction n with
  | zero =>
    intro b0 b1 x2 x3 σ hb0 hb1 H locs ls hw hl h
    exact h.elim
  | succ n ih =>
    intro b0 b1 x2 x3 σ hb0 hb1 H locs ls hw hl h
    rw [wX3_takeDancers_9] at h
    refine lv_iload_n hx hb (dAt dX3_takeDancers 7 rfl) rfl (lv_at hl 3 rfl) ?_
    refine lv_aload_n hx hb (dAt dX3_takeDancers 8 rfl) rfl (lv_at hl 1 rfl) ?_
    refine x_getiN C hw fl_X3_46 (sT hE hb1) (nT hE hb1 (by omega)) rfl (dAt dX3_takeDancers 9 rfl) ?_
    refine lv_icmp_ge (tgt := 150) hx hb (dAt dX3_takeDancers 10 rfl) (by decide) (fun c14 => ?_) (fun c14 => ?_)
    · replace h := h.1 c14
      exact kX3_takeDancers_150 hE C hr hlk b0 b1 σ hb0 hb1 _ _ _ hw (lv_sub hl [0, 1] rfl) h
    · replace h := h.2 c14
      refine lv_iload_n hx hb (dAt dX3_takeDancers 11 rfl) rfl (lv_at hl 3 rfl) ?_
      refine lv_iconst (v := 4) hx hb (dAt dX3_takeDancers 12 rfl) (by decide) ?_
      refine lv_idiv hx hb (dAt dX3_takeDancers 13 rfl) (by decide) ?_
      refine lv_topi (fun x4_20 ex4_20 => ?_)
      replace h := h x4_20 ex4_20
      refine lv_istore (lv' := [(4, .int x4_20), (0, .ref (gE E b0)), (1, .ref (gE E b1)), (2, .int x2), (3, .int x3)]) hx hb (dAt dX3_takeDancers 14 rfl) hl (by decide) rfl (fun ls hl => ?_)
      refine lv_aload_n hx hb (dAt dX3_takeDancers 15 rfl) rfl (lv_at hl 2 rfl) ?_
      refine x_getrN C hw fl_X3_49 (sT hE hb1) (nT hE hb1 (by omega)) rfl (dAt dX3_takeDancers 16 rfl) ?_
      refine lv_iload_n hx hb (dAt dX3_takeDancers 17 rfl) rfl (lv_at hl 4 rfl) ?_
      obtain ⟨z27, h⟩ := h
      refine x_ild C hw (sT_1 hE hb1) (nT hE hb1 (by omega)) z27 rfl (dAt dX3_takeDancers 18 rfl) ?_
      refine lv_topi (fun x5_28 ex5_28 => ?_)
      replace h := h x5_28 ex5_28
      refine lv_istore (lv' := [(5, .int x5_28), (4, .int x4_20), (0, .ref (gE E b0)), (1, .ref (gE E b1)), (2, .int x2), (3, .int x3)]) hx hb (dAt dX3_takeDancers 19 rfl) hl (by decide) rfl (fun ls hl => ?_)
      refine lv_iload hx hb (dAt dX3_takeDancers 20 rfl) (lv_at hl 1 rfl) ?_
      refine lv_bipush (v := 8) hx hb (dAt dX3_takeDancers 21 rfl) (by decide) ?_
      refine lv_icmp_ge (tgt := 49) hx hb (dAt dX3_takeDancers 22 rfl) (by decide) (fun c34 => ?_) (fun c34 => ?_)
      · replace h := h.1 c34
        refine lv_iload_n hx hb (dAt dX3_takeDancers 30 rfl) rfl (lv_at hl 5 rfl) ?_
        exact x_iret C hw hr hlk h (dAt dX3_takeDancers 31 rfl)
      · replace h := h.2 c34
        refine lv_iload_n hx hb (dAt dX3_takeDancers 23 rfl) rfl (lv_at hl 5 rfl) ?_
        refine lv_iconst (v := 4) hx hb (dAt dX3_takeDancers 24 rfl) (by decide) ?_
        refine lv_irem hx hb (dAt dX3_takeDancers 25 rfl) (by decide) ?_
        refine lv_iload hx hb (dAt dX3_takeDancers 26 rfl) (lv_at hl 0 rfl) ?_
        refine lv_iload_n hx hb (dAt dX3_takeDancers 27 rfl) rfl (lv_at hl 4 rfl) ?_
        refine x_calli C hw (x_runS (As := [.int (x3 - x3 / (4 : Int32) * (4 : Int32)), .int x5_28, .int x2]) (rest := []) C hw (kX3_goesOn l E hE (x3 - x3 / (4 : Int32) * (4 : Int32)) x5_28 x2 σ _ h) mtX3_goesOn lk_X3_52 ⟨by decide, by decide⟩ ⟨rfl, rfl⟩ rfl hl.1 rfl (Nat.le_of_ble_eq_true rfl) (dAt dX3_takeDancers 28 rfl) ⟨Nat.zero_le _, Nat.zero_le _⟩) (fun r43 σ43 H locs h hw => ?_)
        refine lv_if_ne (tgt := 51) hx hb (dAt dX3_takeDancers 29 rfl) (by decide) (fun c46 => ?_) (fun c46 => ?_)
        · replace h := h.1 c46
          refine lv_iload_n hx hb (dAt dX3_takeDancers 32 rfl) rfl (lv_at hl 5 rfl) ?_
          refine lv_iconst (v := 4) hx hb (dAt dX3_takeDancers 33 rfl) (by decide) ?_
          refine lv_irem hx hb (dAt dX3_takeDancers 34 rfl) (by decide) ?_
          rcases swT (x3 - x3 / (4 : Int32) * (4 : Int32)) 0 3 (by decide) with ⟨j54, hj54, ej54⟩ | ej54
          · match j54, hj54, ej54 with
            | 0, _, ej54 =>
              have ej54 : (x3 - x3 / (4 : Int32) * (4 : Int32)) = (0 : Int32) := ej54
              replace h := h.1 ej54
              refine lv_tableIn (off := 26) (tgt := 80) hx hb (dAt dX3_takeDancers 35 rfl) (by rw [ej54]; decide) (by rw [ej54]; decide) (by rw [ej54]; rfl) (by decide) ?_
              refine lv_aload_n hx hb (dAt dX3_takeDancers 36 rfl) rfl (lv_at hl 2 rfl) ?_
              refine x_getr C hw fl_X3_9 (sS hE hb0) (nS hE hb0 (by omega)) rfl (dAt dX3_takeDancers 37 rfl) ?_
              refine lv_iload hx hb (dAt dX3_takeDancers 38 rfl) (lv_at hl 1 rfl) ?_
              refine lv_iload hx hb (dAt dX3_takeDancers 39 rfl) (lv_at hl 0 rfl) ?_
              refine lv_bipush (v := 97) hx hb (dAt dX3_takeDancers 40 rfl) (by decide) ?_
              refine lv_isub hx hb (dAt dX3_takeDancers 41 rfl) ?_
              obtain ⟨z91, h⟩ := h
              refine x_ist C hw (sS_1 hE hb0) (nS hE hb0 (by omega)) z91 rfl (dAt dX3_takeDancers 42 rfl) (fun σ91 H locs eσ91 hw => ?_)
              replace h := h σ91 eσ91
              refine lv_iload_n hx hb (dAt dX3_takeDancers 43 rfl) rfl (lv_at hl 4 rfl) ?_
              refine lv_iconst (v := 1) hx hb (dAt dX3_takeDancers 44 rfl) (by decide) ?_
              refine lv_aload_n hx hb (dAt dX3_takeDancers 45 rfl) rfl (lv_at hl 2 rfl) ?_
              refine x_getr C hw fl_X3_9 (sS hE hb0) (nS hE hb0 (by omega)) rfl (dAt dX3_takeDancers 46 rfl) ?_
              refine lv_iload hx hb (dAt dX3_takeDancers 47 rfl) (lv_at hl 1 rfl) ?_
              obtain ⟨z100, h⟩ := h
              refine x_ild C hw (sS_1 hE hb0) (nS hE hb0 (by omega)) z100 rfl (dAt dX3_takeDancers 48 rfl) ?_
              refine lv_ishl hx hb (dAt dX3_takeDancers 49 rfl) ?_
              refine lv_ior hx hb (dAt dX3_takeDancers 50 rfl) ?_
              refine lv_topi (fun x2_103 ex2_103 => ?_)
              replace h := h x2_103 ex2_103
              refine lv_istore_n (lv' := [(2, .int x2_103), (5, .int x5_28), (4, .int x4_20), (0, .ref (gE E b0)), (1, .ref (gE E b1)), (3, .int x3)]) hx hb (dAt dX3_takeDancers 51 rfl) rfl hl (by decide) rfl (fun ls hl => ?_)
              refine lv_goto (tgt := 144) hx hb (dAt dX3_takeDancers 52 rfl) (by decide) ?_
              refine lv_iinc (v := (x3 + (1 : Int32))) (lv' := [(3, .int (x3 + (1 : Int32))), (2, .int x2_103), (5, .int x5_28), (4, .int x4_20), (0, .ref (gE E b0)), (1, .ref (gE E b1))]) hx hb (dAt dX3_takeDancers 72 rfl) hl (k := 5) rfl rfl (by decide) rfl (fun ls hl => ?_)
              refine lv_goto (tgt := 9) hx hb (dAt dX3_takeDancers 73 rfl) (by decide) ?_
              exact ih b0 b1 x2_103 (x3 + (1 : Int32)) σ91 hb0 hb1 _ _ _ hw (lv_sub hl [4, 5, 1, 0] rfl) h
            | 1, _, ej54 =>
              have ej54 : (x3 - x3 / (4 : Int32) * (4 : Int32)) = (1 : Int32) := ej54
              replace h := h.2.1 ej54
              refine lv_tableIn (off := 53) (tgt := 107) hx hb (dAt dX3_takeDancers 35 rfl) (by rw [ej54]; decide) (by rw [ej54]; decide) (by rw [ej54]; rfl) (by decide) ?_
              refine lv_aload_n hx hb (dAt dX3_takeDancers 53 rfl) rfl (lv_at hl 2 rfl) ?_
              refine x_getr C hw fl_X3_15 (sS hE hb0) (nS hE hb0 (by omega)) rfl (dAt dX3_takeDancers 54 rfl) ?_
              refine lv_iload hx hb (dAt dX3_takeDancers 55 rfl) (lv_at hl 1 rfl) ?_
              refine lv_iload hx hb (dAt dX3_takeDancers 56 rfl) (lv_at hl 0 rfl) ?_
              refine lv_bipush (v := 114) hx hb (dAt dX3_takeDancers 57 rfl) (by decide) ?_
              refine x_dia (ls := ls) (pcJ := 125) (cnd := x5_28 = (114 : Int32)) (a := (0 : Int32)) (b := (1 : Int32)) ([.int x4_20, .ref (gE E (b0 + 2))]) ?_ (fun ht117 hf117 => ?_)
              · obtain ⟨z125, h⟩ := h
                refine x_ist C hw (sS_2 hE hb0) (nS hE hb0 (by omega)) z125 rfl (dAt dX3_takeDancers 62 rfl) (fun σ125 H locs eσ125 hw => ?_)
                replace h := h σ125 eσ125
                refine lv_goto (tgt := 144) hx hb (dAt dX3_takeDancers 63 rfl) (by decide) ?_
                refine lv_iinc (v := (x3 + (1 : Int32))) (lv' := [(3, .int (x3 + (1 : Int32))), (5, .int x5_28), (4, .int x4_20), (0, .ref (gE E b0)), (1, .ref (gE E b1)), (2, .int x2)]) hx hb (dAt dX3_takeDancers 72 rfl) hl (k := 5) rfl rfl (by decide) rfl (fun ls hl => ?_)
                refine lv_goto (tgt := 9) hx hb (dAt dX3_takeDancers 73 rfl) (by decide) ?_
                exact ih b0 b1 x2 (x3 + (1 : Int32)) σ125 hb0 hb1 _ _ _ hw (lv_sub hl [3, 4, 5, 0] rfl) h
              · refine lv_icmp_ne (tgt := 124) hx hb (dAt dX3_takeDancers 58 rfl) (by decide) (fun c117 => ?_) (fun c117 => ?_)
                · refine lv_iconst (v := 1) hx hb (dAt dX3_takeDancers 61 rfl) (by decide) ?_
                  exact hf117 c117
                · refine lv_iconst (v := 0) hx hb (dAt dX3_takeDancers 59 rfl) (by decide) ?_
                  refine lv_goto (tgt := 125) hx hb (dAt dX3_takeDancers 60 rfl) (by decide) ?_
                  exact ht117 c117
            | 2, _, ej54 =>
              have ej54 : (x3 - x3 / (4 : Int32) * (4 : Int32)) = (2 : Int32) := ej54
              replace h := h.2.2.1 ej54
              refine lv_tableIn (off := 75) (tgt := 129) hx hb (dAt dX3_takeDancers 35 rfl) (by rw [ej54]; decide) (by rw [ej54]; decide) (by rw [ej54]; rfl) (by decide) ?_
              refine lv_aload_n hx hb (dAt dX3_takeDancers 64 rfl) rfl (lv_at hl 2 rfl) ?_
              refine x_getr C hw fl_X3_18 (sS hE hb0) (nS hE hb0 (by omega)) rfl (dAt dX3_takeDancers 65 rfl) ?_
              refine lv_iload hx hb (dAt dX3_takeDancers 66 rfl) (lv_at hl 1 rfl) ?_
              refine lv_iload hx hb (dAt dX3_takeDancers 67 rfl) (lv_at hl 0 rfl) ?_
              refine lv_bipush (v := 48) hx hb (dAt dX3_takeDancers 68 rfl) (by decide) ?_
              refine lv_isub hx hb (dAt dX3_takeDancers 69 rfl) ?_
              obtain ⟨z140, h⟩ := h
              refine x_ist C hw (sS_3 hE hb0) (nS hE hb0 (by omega)) z140 rfl (dAt dX3_takeDancers 70 rfl) (fun σ140 H locs eσ140 hw => ?_)
              replace h := h σ140 eσ140
              refine lv_goto (tgt := 144) hx hb (dAt dX3_takeDancers 71 rfl) (by decide) ?_
              refine lv_iinc (v := (x3 + (1 : Int32))) (lv' := [(3, .int (x3 + (1 : Int32))), (5, .int x5_28), (4, .int x4_20), (0, .ref (gE E b0)), (1, .ref (gE E b1)), (2, .int x2)]) hx hb (dAt dX3_takeDancers 72 rfl) hl (k := 5) rfl rfl (by decide) rfl (fun ls hl => ?_)
              refine lv_goto (tgt := 9) hx hb (dAt dX3_takeDancers 73 rfl) (by decide) ?_
              exact ih b0 b1 x2 (x3 + (1 : Int32)) σ140 hb0 hb1 _ _ _ hw (lv_sub hl [3, 4, 5, 0] rfl) h
            | j + 3, hj, _ => exact absurd hj (by omega)
          · replace h := h.2.2.2 ej54
            refine lv_tableOut (tgt := 144) hx hb (dAt dX3_takeDancers 35 rfl) ej54 (by decide) ?_
            refine lv_iinc (v := (x3 + (1 : Int32))) (lv' := [(3, .int (x3 + (1 : Int32))), (5, .int x5_28), (4, .int x4_20), (0, .ref (gE E b0)), (1, .ref (gE E b1)), (2, .int x2)]) hx hb (dAt dX3_takeDancers 72 rfl) hl (k := 5) rfl rfl (by decide) rfl (fun ls hl => ?_)
            refine lv_goto (tgt := 9) hx hb (dAt dX3_takeDancers 73 rfl) (by decide) ?_
            exact ih b0 b1 x2 (x3 + (1 : Int32)) σ43 hb0 hb1 _ _ _ hw (lv_sub hl [3, 4, 5, 0] rfl) h
        · replace h := h.2 c46
          refine lv_iload_n hx hb (dAt dX3_takeDancers 30 rfl) rfl (lv_at hl 5 rfl) ?_
          exact x_iret C hw hr hlk h (dAt dX3_takeDancers 31 rfl)
set_option maxHeartbeats 4000000 in
set_option maxRecDepth 100000 in
theorem kX3_takeDancers (l : Launch) (E : wE) (hE : wX E) (b0 : Nat) (hb0 : isS b0) (b1 : Nat) (hb1 : isT b1) (σ : Mem) (Q : Int32 → Mem → Prop) (h : wX3_takeDancers b0 b1 σ Q) : Met l yX3_takeDancers (Cond.code yX3_takeDancers cX3_takeDancers 6 (some .int) :: TB) rX3_takeDancers (wPc E σ [.ref (gE E b0), .ref (gE E b1)]) (wQi E Q) 0 0 (wA E) := by
  refine wMet (by decide) hE.2.2 (Nat.le_of_ble_eq_true rfl) ?_
  intro p e s m args below meth c ls C hr hlk hl hw
  have hx := C.1.1
  have hb := C.1.2.1
  replace C : Cx p s m args c cX3_takeDancers 6 RX3 E (wA E) := C
  replace hl : lv_has ls 6 [(0, .ref (gE E b0)), (1, .ref (gE E b1))] := hl
  unfold wX3_takeDancers at h
  refine lv_aload_n hx hb (dAt dX3_takeDancers 0 rfl) rfl (lv_at hl 0 rfl) ?_
  refine lv_iconst (v := 0) hx hb (dAt dX3_takeDancers 1 rfl) (by decide) ?_
  refine x_pf C hw fl_X3_40 (sS hE hb0) (nS hE hb0 (by omega)) rfl rfl rfl (dAt dX3_takeDancers 2 rfl) (fun σ2 H locs eσ2 hw => ?_)
  replace h := h σ2 eσ2
  refine lv_iconst (v := 0) hx hb (dAt dX3_takeDancers 3 rfl) (by decide) ?_
  refine lv_istore_n (lv' := [(2, .int (0 : Int32)), (0, .ref (gE E b0)), (1, .ref (gE E b1))]) hx hb (dAt dX3_takeDancers 4 rfl) rfl hl (by decide) rfl (fun ls hl => ?_)
  refine lv_iconst (v := 0) hx hb (dAt dX3_takeDancers 5 rfl) (by decide) ?_
  refine lv_istore_n (lv' := [(3, .int (0 : Int32)), (2, .int (0 : Int32)), (0, .ref (gE E b0)), (1, .ref (gE E b1))]) hx hb (dAt dX3_takeDancers 6 rfl) rfl hl (by decide) rfl (fun ls hl => ?_)
  obtain ⟨n9, h⟩ := h
  exact kX3_takeDancers_9 hE C hr hlk n9 b0 b1 (0 : Int32) (0 : Int32) σ2 hb0 hb1 _ _ _ hw (lv_sub hl [2, 3, 1, 0] rfl) h
