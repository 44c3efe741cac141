def tX3_stepOf : List (Nat × Instr × Nat) := [(0, .iload_n 0, 1), (1, .tableswitch 51 111 117 #[43, 51, 51, 51, 47, 49, 45], 43), (44, .iconst 0, 1), (45, .ireturn, 1), (46, .iconst 1, 1), (47, .ireturn, 1), (48, .iconst 2, 1), (49, .ireturn, 1), (50, .iconst 3, 1), (51, .ireturn, 1), (52, .iconst (-1), 1), (53, .ireturn, 1)]
theorem dX3_stepOf : dOk cX3_stepOf tX3_stepOf = true := by decide +kernel
abbrev rX3_stepOf : Room := { frames := 0, cells := 0, slots := 0, locals := 0 }
def wX3_stepOf (x0 : Int32) (σ : Mem) (Q : Int32 → Mem → Prop) : Prop := ((x0 = (111 : Int32) → (Q (0 : Int32) σ)) ∧ (x0 = (112 : Int32) → (Q (-1 : Int32) σ)) ∧ (x0 = (113 : Int32) → (Q (-1 : Int32) σ)) ∧ (x0 = (114 : Int32) → (Q (-1 : Int32) σ)) ∧ (x0 = (115 : Int32) → (Q (2 : Int32) σ)) ∧ (x0 = (116 : Int32) → (Q (3 : Int32) σ)) ∧ (x0 = (117 : Int32) → (Q (1 : Int32) σ)) ∧ ((x0).toInt < 111 ∨ 117 < (x0).toInt → (Q (-1 : Int32) σ)))
set_option maxHeartbeats 4000000 in
set_option maxRecDepth 100000 in
theorem kX3_stepOf (l : Launch) (E : wE) (hE : wX E) (x0 : Int32) (σ : Mem) (Q : Int32 → Mem → Prop) (h : wX3_stepOf x0 σ Q) : Met l yX3_stepOf (Cond.code yX3_stepOf cX3_stepOf 1 (some .int) :: TB) rX3_stepOf (wPc E σ [.int x0]) (wQi E Q) 0 0 (wA E) := by
  refine wMet (by decide) hE.2.2 (Nat.le_of_ble_eq_true rfl) ?_
  intro p e s m args below meth c ls C hr hlk hl hw
  have hx := C.1.1
  have hb := C.1.2.1
  replace C : Cx p s m args c cX3_stepOf 1 RX3 E (wA E) := C
  replace hl : lv_has ls 1 [(0, .int x0)] := hl
  unfold wX3_stepOf at h
  refine lv_iload_n hx hb (dAt dX3_stepOf 0 rfl) rfl (lv_at hl 0 rfl) ?_
  rcases swT x0 111 7 (by decide) with ⟨j1, hj1, ej1⟩ | ej1
  · match j1, hj1, ej1 with
    | 0, _, ej1 =>
      have ej1 : x0 = (111 : Int32) := ej1
      replace h := h.1 ej1
      refine lv_tableIn (off := 43) (tgt := 44) hx hb (dAt dX3_stepOf 1 rfl) (by rw [ej1]; decide) (by rw [ej1]; decide) (by rw [ej1]; rfl) (by decide) ?_
      refine lv_iconst (v := 0) hx hb (dAt dX3_stepOf 2 rfl) (by decide) ?_
      exact x_iret C hw hr hlk h (dAt dX3_stepOf 3 rfl)
    | 1, _, ej1 =>
      have ej1 : x0 = (112 : Int32) := ej1
      replace h := h.2.1 ej1
      refine lv_tableIn (off := 51) (tgt := 52) hx hb (dAt dX3_stepOf 1 rfl) (by rw [ej1]; decide) (by rw [ej1]; decide) (by rw [ej1]; rfl) (by decide) ?_
      refine lv_iconst (v := -1) hx hb (dAt dX3_stepOf 10 rfl) (by decide) ?_
      exact x_iret C hw hr hlk h (dAt dX3_stepOf 11 rfl)
    | 2, _, ej1 =>
      have ej1 : x0 = (113 : Int32) := ej1
      replace h := h.2.2.1 ej1
      refine lv_tableIn (off := 51) (tgt := 52) hx hb (dAt dX3_stepOf 1 rfl) (by rw [ej1]; decide) (by rw [ej1]; decide) (by rw [ej1]; rfl) (by decide) ?_
      refine lv_iconst (v := -1) hx hb (dAt dX3_stepOf 10 rfl) (by decide) ?_
      exact x_iret C hw hr hlk h (dAt dX3_stepOf 11 rfl)
    | 3, _, ej1 =>
      have ej1 : x0 = (114 : Int32) := ej1
      replace h := h.2.2.2.1 ej1
      refine lv_tableIn (off := 51) (tgt := 52) hx hb (dAt dX3_stepOf 1 rfl) (by rw [ej1]; decide) (by rw [ej1]; decide) (by rw [ej1]; rfl) (by decide) ?_
      refine lv_iconst (v := -1) hx hb (dAt dX3_stepOf 10 rfl) (by decide) ?_
      exact x_iret C hw hr hlk h (dAt dX3_stepOf 11 rfl)
    | 4, _, ej1 =>
      have ej1 : x0 = (115 : Int32) := ej1
      replace h := h.2.2.2.2.1 ej1
      refine lv_tableIn (off := 47) (tgt := 48) hx hb (dAt dX3_stepOf 1 rfl) (by rw [ej1]; decide) (by rw [ej1]; decide) (by rw [ej1]; rfl) (by decide) ?_
      refine lv_iconst (v := 2) hx hb (dAt dX3_stepOf 6 rfl) (by decide) ?_
      exact x_iret C hw hr hlk h (dAt dX3_stepOf 7 rfl)
    | 5, _, ej1 =>
      have ej1 : x0 = (116 : Int32) := ej1
      replace h := h.2.2.2.2.2.1 ej1
      refine lv_tableIn (off := 49) (tgt := 50) hx hb (dAt dX3_stepOf 1 rfl) (by rw [ej1]; decide) (by rw [ej1]; decide) (by rw [ej1]; rfl) (by decide) ?_
      refine lv_iconst (v := 3) hx hb (dAt dX3_stepOf 8 rfl) (by decide) ?_
      exact x_iret C hw hr hlk h (dAt dX3_stepOf 9 rfl)
    | 6, _, ej1 =>
      have ej1 : x0 = (117 : Int32) := ej1
      replace h := h.2.2.2.2.2.2.1 ej1
      refine lv_tableIn (off := 45) (tgt := 46) hx hb (dAt dX3_stepOf 1 rfl) (by rw [ej1]; decide) (by rw [ej1]; decide) (by rw [ej1]; rfl) (by decide) ?_
      refine lv_iconst (v := 1) hx hb (dAt dX3_stepOf 4 rfl) (by decide) ?_
      exact x_iret C hw hr hlk h (dAt dX3_stepOf 5 rfl)
    | j + 7, hj, _ => exact absurd hj (by omega)
  · replace h := h.2.2.2.2.2.2.2 ej1
    refine lv_tableOut (tgt := 52) hx hb (dAt dX3_stepOf 1 rfl) ej1 (by decide) ?_
    refine lv_iconst (v := -1) hx hb (dAt dX3_stepOf 10 rfl) (by decide) ?_
    exact x_iret C hw hr hlk h (dAt dX3_stepOf 11 rfl)
def tX3_takeSteps : List (Nat × Instr × Nat) := [(0, .aload_n 0, 1), (1, .getfield 21, 3), (4, .iconst 2, 1), (5, .invokestatic 28, 3), (8, .iconst 0, 1), (9, .istore_n 2, 1), (10, .iload_n 2, 1), (11, .aload_n 1, 1), (12, .getfield 46, 3), (15, .if_icmp .ge 47, 3), (18, .iload_n 2, 1), (19, .bipush 24, 2), (21, .if_icmp .ge 41, 3), (24, .aload_n 1, 1), (25, .getfield 49, 3), (28, .iload_n 2, 1), (29, .iaload, 1), (30, .invokestatic 60, 3), (33, .istore_n 3, 1), (34, .iload_n 3, 1), (35, .iconst (-1), 1), (36, .if_icmp .ne 13, 3), (39, .aload_n 0, 1), (40, .getfield 21, 3), (43, .iconst 2, 1), (44, .invokestatic 28, 3), (47, .iload_n 2, 1), (48, .ireturn, 1), (49, .aload_n 0, 1), (50, .getfield 21, 3), (53, .iload_n 2, 1), (54, .iload_n 3, 1), (55, .iastore, 1), (56, .iinc 2 1, 3), (59, .goto (-49), 3), (62, .iconst (-1), 1), (63, .ireturn, 1)]
theorem dX3_takeSteps : dOk cX3_takeSteps tX3_takeSteps = true := by decide +kernel
abbrev rX3_takeSteps : Room := { frames := 1, cells := 0, slots := 0, locals := 23 }
def wX3_takeSteps_10 (Q : Int32 → Mem → Prop) : Nat → Nat → Nat → Int32 → Mem → Prop
  | 0, _, _, _, _ => False
  | n + 1, b0, b1, x2, σ => ((((σ b1 2) ≤ x2) → (Q (-1 : Int32) σ)) ∧ ((¬ (σ b1 2) ≤ x2) → ((((24 : Int32) ≤ x2) → (Q (-1 : Int32) σ)) ∧ ((¬ (24 : Int32) ≤ x2) → (vp_in x2 31 ∧ (wX3_stepOf (σ (b1 + 1) (x2).toNatClampNeg) σ (fun r30 σ30 => (((¬ r30 = (-1 : Int32)) → (vp_in x2 24 ∧ (∀ σ55 : Mem, σ55 = um σ30 (b0 + 4) (x2).toNatClampNeg r30 → (wX3_takeSteps_10 Q n b0 b1 (x2 + (1 : Int32)) σ55)))) ∧ ((r30 = (-1 : Int32)) → (wJ7_fill_53178 (b0 + 4) 24 (2 : Int32) σ30 (fun σ44 => (Q x2 σ44))))))))))))
def wX3_takeSteps (b0 : Nat) (b1 : Nat) (σ : Mem) (Q : Int32 → Mem → Prop) : Prop := (wJ7_fill_53178 (b0 + 4) 24 (2 : Int32) σ (fun σ5 => (∃ N10, wX3_takeSteps_10 Q N10 b0 b1 (0 : Int32) σ5)))
set_option maxHeartbeats 4000000 in
set_option maxRecDepth 100000 in
theorem kX3_takeSteps_10 {p : Program} {l : Launch} {e : Env} {s : State} {m : MethodId} {args : Array Value} {below : List Frame} {meth : Method} {c : Code} {E : wE} (hE : wX E) (C : Cx p s m args c cX3_takeSteps 4 RX3 E (wA E)) (hr : meth.sig.returnType = (some .int)) (hlk : meth.locks = false) {Q : Int32 → Mem → Prop} : ∀ (n : Nat) (b0 : Nat) (b1 : Nat) (x2 : Int32) (σ : Mem) (hb0 : isS b0) (hb1 : isT b1) (H : Heap) (locs : List Loc) (ls : Array Slot), wd E (wA E) s σ H locs → lv_has ls 4 [(0, .ref (gE E b0)), (1, .ref (gE E b1)), (2, .int x2)] → wX3_takeSteps_10 Q n b0 b1 x2 σ → W p l e rX3_takeSteps s m args below meth c H locs 0 0 (MQ below (wQi E Q) args s 0 0 (wA E)) (F0 m 10 ls []) := by
  have hx := C.1.1
  have hb := C.1.2.1
  intro n
  induction n with
  | zero =>
    intro b0 b1 x2 σ hb0 hb1 H locs ls hw hl h
    exact h.elim
  | succ n ih =>
    intro b0 b1 x2 σ hb0 hb1 H locs ls hw hl h
    rw [wX3_takeSteps_10] at h
    refine lv_iload_n hx hb (dAt dX3_takeSteps 6 rfl) rfl (lv_at hl 2 rfl) ?_
    refine lv_aload_n hx hb (dAt dX3_takeSteps 7 rfl) rfl (lv_at hl 1 rfl) ?_
    refine x_getiN C hw fl_X3_46 (sT hE hb1) (nT hE hb1 (by omega)) rfl (dAt dX3_takeSteps 8 rfl) ?_
    refine lv_icmp_ge (tgt := 62) hx hb (dAt dX3_takeSteps 9 rfl) (by decide) (fun c15 => ?_) (fun c15 => ?_)
    · replace h := h.1 c15
      refine lv_iconst (v := -1) hx hb (dAt dX3_takeSteps 35 rfl) (by decide) ?_
      exact x_iret C hw hr hlk h (dAt dX3_takeSteps 36 rfl)
    · replace h := h.2 c15
      refine lv_iload_n hx hb (dAt dX3_takeSteps 10 rfl) rfl (lv_at hl 2 rfl) ?_
      refine lv_bipush (v := 24) hx hb (dAt dX3_takeSteps 11 rfl) (by decide) ?_
      refine lv_icmp_ge (tgt := 62) hx hb (dAt dX3_takeSteps 12 rfl) (by decide) (fun c21 => ?_) (fun c21 => ?_)
      · replace h := h.1 c21
        refine lv_iconst (v := -1) hx hb (dAt dX3_takeSteps 35 rfl) (by decide) ?_
        exact x_iret C hw hr hlk h (dAt dX3_takeSteps 36 rfl)
      · replace h := h.2 c21
        refine lv_aload_n hx hb (dAt dX3_takeSteps 13 rfl) rfl (lv_at hl 1 rfl) ?_
        refine x_getrN C hw fl_X3_49 (sT hE hb1) (nT hE hb1 (by omega)) rfl (dAt dX3_takeSteps 14 rfl) ?_
        refine lv_iload_n hx hb (dAt dX3_takeSteps 15 rfl) rfl (lv_at hl 2 rfl) ?_
        obtain ⟨z29, h⟩ := h
        refine x_ild C hw (sT_1 hE hb1) (nT hE hb1 (by omega)) z29 rfl (dAt dX3_takeSteps 16 rfl) ?_
        refine x_calli C hw (x_runS (As := [.int (σ (b1 + 1) (x2).toNatClampNeg)]) (rest := []) C hw (kX3_stepOf l E hE (σ (b1 + 1) (x2).toNatClampNeg) σ _ h) mtX3_stepOf lk_X3_60 ⟨by decide, by decide⟩ ⟨rfl, rfl⟩ rfl hl.1 rfl (Nat.le_of_ble_eq_true rfl) (dAt dX3_takeSteps 17 rfl) ⟨Nat.zero_le _, Nat.zero_le _⟩) (fun r30 σ30 H locs h hw => ?_)
        refine lv_istore_n (lv' := [(3, .int r30), (0, .ref (gE E b0)), (1, .ref (gE E b1)), (2, .int x2)]) hx hb (dAt dX3_takeSteps 18 rfl) rfl hl (by decide) rfl (fun ls hl => ?_)
        refine lv_iload_n hx hb (dAt dX3_takeSteps 19 rfl) rfl (lv_at hl 0 rfl) ?_
        refine lv_iconst (v := -1) hx hb (dAt dX3_takeSteps 20 rfl) (by decide) ?_
        refine lv_icmp_ne (tgt := 49) hx hb (dAt dX3_takeSteps 21 rfl) (by decide) (fun c36 => ?_) (fun c36 => ?_)
        · replace h := h.1 c36
          refine lv_aload_n hx hb (dAt dX3_takeSteps 28 rfl) rfl (lv_at hl 1 rfl) ?_
          refine x_getr C hw fl_X3_21 (sS hE hb0) (nS hE hb0 (by omega)) rfl (dAt dX3_takeSteps 29 rfl) ?_
          refine lv_iload_n hx hb (dAt dX3_takeSteps 30 rfl) rfl (lv_at hl 3 rfl) ?_
          refine lv_iload_n hx hb (dAt dX3_takeSteps 31 rfl) rfl (lv_at hl 0 rfl) ?_
          obtain ⟨z55, h⟩ := h
          refine x_ist C hw (sS_4 hE hb0) (nS hE hb0 (by omega)) z55 rfl (dAt dX3_takeSteps 32 rfl) (fun σ55 H locs eσ55 hw => ?_)
          replace h := h σ55 eσ55
          refine lv_iinc (v := (x2 + (1 : Int32))) (lv' := [(2, .int (x2 + (1 : Int32))), (3, .int r30), (0, .ref (gE E b0)), (1, .ref (gE E b1))]) hx hb (dAt dX3_takeSteps 33 rfl) hl (k := 3) rfl rfl (by decide) rfl (fun ls hl => ?_)
          refine lv_goto (tgt := 10) hx hb (dAt dX3_takeSteps 34 rfl) (by decide) ?_
          exact ih b0 b1 (x2 + (1 : Int32)) σ55 hb0 hb1 _ _ _ hw (lv_sub hl [2, 3, 0] rfl) h
        · replace h := h.2 c36
          refine lv_aload_n hx hb (dAt dX3_takeSteps 22 rfl) rfl (lv_at hl 1 rfl) ?_
          refine x_getr C hw fl_X3_21 (sS hE hb0) (nS hE hb0 (by omega)) rfl (dAt dX3_takeSteps 23 rfl) ?_
          refine lv_iconst (v := 2) hx hb (dAt dX3_takeSteps 24 rfl) (by decide) ?_
          refine x_callv C hw (x_runS (As := [.ref (gE E (b0 + 4)), .int (2 : Int32)]) (rest := []) C hw (kJ7_fill_53178 l E hE.2.2 (b0 + 4) 24 (sS_4 hE hb0) (nS hE hb0 (by omega)) (2 : Int32) σ30 _ h) mtJ7_fill_53178 lk_X3_28 ⟨by decide, by decide⟩ ⟨rfl, rfl⟩ rfl hl.1 rfl (Nat.le_of_ble_eq_true rfl) (dAt dX3_takeSteps 25 rfl) ⟨Nat.zero_le _, Nat.zero_le _⟩) (fun σ44 H locs h hw => ?_)
          refine lv_iload_n hx hb (dAt dX3_takeSteps 26 rfl) rfl (lv_at hl 3 rfl) ?_
          exact x_iret C hw hr hlk h (dAt dX3_takeSteps 27 rfl)
set_option maxHeartbeats 4000000 in
set_option maxRecDepth 100000 in
theorem kX3_takeSteps (l : Launch) (E : wE) (hE : wX E) (b0 : Nat) (hb0 : isS b0) (b1 : Nat) (hb1 : isT b1) (σ : Mem) (Q : Int32 → Mem → Prop) (h : wX3_takeSteps b0 b1 σ Q) : Met l yX3_takeSteps (Cond.code yX3_takeSteps cX3_takeSteps 4 (some .int) :: TB) rX3_takeSteps (wPc E σ [.ref (gE E b0), .ref (gE E b1)]) (wQi E Q) 0 0 (wA E) := by
  refine wMet (by decide) hE.2.2 (Nat.le_of_ble_eq_true rfl) ?_
  intro p e s m args below meth c ls C hr hlk hl hw
  have hx := C.1.1
  have hb := C.1.2.1
  replace C : Cx p s m args c cX3_takeSteps 4 RX3 E (wA E) := C
  replace hl : lv_has ls 4 [(0, .ref (gE E b0)), (1, .ref (gE E b1))] := hl
  unfold wX3_takeSteps at h
  refine lv_aload_n hx hb (dAt dX3_takeSteps 0 rfl) rfl (lv_at hl 0 rfl) ?_
  refine x_getr C hw fl_X3_21 (sS hE hb0) (nS hE hb0 (by omega)) rfl (dAt dX3_takeSteps 1 rfl) ?_
  refine lv_iconst (v := 2) hx hb (dAt dX3_takeSteps 2 rfl) (by decide) ?_
  refine x_callv C hw (x_runS (As := [.ref (gE E (b0 + 4)), .int (2 : Int32)]) (rest := []) C hw (kJ7_fill_53178 l E hE.2.2 (b0 + 4) 24 (sS_4 hE hb0) (nS hE hb0 (by omega)) (2 : Int32) σ _ h) mtJ7_fill_53178 lk_X3_28 ⟨by decide, by decide⟩ ⟨rfl, rfl⟩ rfl hl.1 rfl (Nat.le_of_ble_eq_true rfl) (dAt dX3_takeSteps 3 rfl) ⟨Nat.zero_le _, Nat.zero_le _⟩) (fun σ5 H locs h hw => ?_)
  refine lv_iconst (v := 0) hx hb (dAt dX3_takeSteps 4 rfl) (by decide) ?_
  refine lv_istore_n (lv' := [(2, .int (0 : Int32)), (0, .ref (gE E b0)), (1, .ref (gE E b1))]) hx hb (dAt dX3_takeSteps 5 rfl) rfl hl (by decide) rfl (fun ls hl => ?_)
  obtain ⟨n10, h⟩ := h
  exact kX3_takeSteps_10 hE C hr hlk n10 b0 b1 (0 : Int32) σ5 hb0 hb1 _ _ _ hw (lv_sub hl [1, 2, 0] rfl) h
def tX3_placesBeside : List (Nat × Instr × Nat) := [(0, .iconst 0, 1), (1, .istore_n 2, 1), (2, .iconst 0, 1), (3, .istore_n 3, 1), (4, .iload_n 3, 1), (5, .aload_n 0, 1), (6, .getfield 40, 3), (9, .if_icmp .ge 25, 3), (12, .iload_n 3, 1), (13, .iload_n 1, 1), (14, .if_icmp .eq 14, 3), (17, .iload_n 2, 1), (18, .iconst 1, 1), (19, .aload_n 0, 1), (20, .getfield 9, 3), (23, .iload_n 3, 1), (24, .iaload, 1), (25, .ishl, 1), (26, .ior, 1), (27, .istore_n 2, 1), (28, .iinc 3 1, 3), (31, .goto (-27), 3), (34, .iload_n 2, 1), (35, .ireturn, 1)]
theorem dX3_placesBeside : dOk cX3_placesBeside tX3_placesBeside = true := by decide +kernel
abbrev rX3_placesBeside : Room := { frames := 0, cells := 0, slots := 0, locals := 0 }
def wX3_placesBeside_4 (Q : Int32 → Mem → Prop) : Nat → Nat → Int32 → Int32 → Int32 → Mem → Prop
  | 0, _, _, _, _, _ => False
  | n + 1, b0, x1, x2, x3, σ => ((((σ b0 4) ≤ x3) → (Q x2 σ)) ∧ ((¬ (σ b0 4) ≤ x3) → (((x3 = x1) → (wX3_placesBeside_4 Q n b0 x1 x2 (x3 + (1 : Int32)) σ)) ∧ ((¬ x3 = x1) → (vp_in x3 8 ∧ (∀ x2_27 : Int32, x2_27 = (x2 ||| ((1 : Int32) <<< ((σ (b0 + 1) (x3).toNatClampNeg) &&& 31))) → (wX3_placesBeside_4 Q n b0 x1 x2_27 (x3 + (1 : Int32)) σ)))))))
def wX3_placesBeside (b0 : Nat) (x1 : Int32) (σ : Mem) (Q : Int32 → Mem → Prop) : Prop := (∃ N4, wX3_placesBeside_4 Q N4 b0 x1 (0 : Int32) (0 : Int32) σ)
set_option maxHeartbeats 4000000 in
set_option maxRecDepth 100000 in
theorem kX3_placesBeside_4 {p : Program} {l : Launch} {e : Env} {s : State} {m : MethodId} {args : Array Value} {below : List Frame} {meth : Method} {c : Code} {E : wE} (hE : wX E) (C : Cx p s m args c cX3_placesBeside 4 RX3 E (wA E)) (hr : meth.sig.returnType = (some .int)) (hlk : meth.locks = false) {Q : Int32 → Mem → Prop} : ∀ (n : Nat) (b0 : Nat) (x1 : Int32) (x2 : Int32) (x3 : Int32) (σ : Mem) (hb0 : isS b0) (H : Heap) (locs : List Loc) (ls : Array Slot), wd E (wA E) s σ H locs → lv_has ls 4 [(0, .ref (gE E b0)), (1, .int x1), (2, .int x2), (3, .int x3)] → wX3_placesBeside_4 Q n b0 x1 x2 x3 σ → W p l e rX3_placesBeside s m args below meth c H locs 0 0 (MQ below (wQi E Q) args s 0 0 (wA E)) (F0 m 4 ls []) := by
  have hx := C.1.1
  have hb := C.1.2.1
  intro n
  induction n with
  | zero =>
    intro b0 x1 x2 x3 σ hb0 H locs ls hw hl h
    exact h.elim
  | succ n ih =>
    intro b0 x1 x2 x3 σ hb0 H locs ls hw hl h
    rw [wX3_placesBeside_4] at h
    refine lv_iload_n hx hb (dAt dX3_placesBeside 4 rfl) rfl (lv_at hl 3 rfl) ?_
    refine lv_aload_n hx hb (dAt dX3_placesBeside 5 rfl) rfl (lv_at hl 0 rfl) ?_
    refine x_geti C hw fl_X3_40 (sS hE hb0) (nS hE hb0 (by omega)) rfl (dAt dX3_placesBeside 6 rfl) ?_
    refine lv_icmp_ge (tgt := 34) hx hb (dAt dX3_placesBeside 7 rfl) (by decide) (fun c9 => ?_) (fun c9 => ?_)
    · replace h := h.1 c9
      refine lv_iload_n hx hb (dAt dX3_placesBeside 22 rfl) rfl (lv_at hl 2 rfl) ?_
      exact x_iret C hw hr hlk h (dAt dX3_placesBeside 23 rfl)
    · replace h := h.2 c9
      refine lv_iload_n hx hb (dAt dX3_placesBeside 8 rfl) rfl (lv_at hl 3 rfl) ?_
      refine lv_iload_n hx hb (dAt dX3_placesBeside 9 rfl) rfl (lv_at hl 1 rfl) ?_
      refine lv_icmp_eq (tgt := 28) hx hb (dAt dX3_placesBeside 10 rfl) (by decide) (fun c14 => ?_) (fun c14 => ?_)
      · replace h := h.1 c14
        refine lv_iinc (v := (x3 + (1 : Int32))) (lv' := [(3, .int (x3 + (1 : Int32))), (0, .ref (gE E b0)), (1, .int x1), (2, .int x2)]) hx hb (dAt dX3_placesBeside 20 rfl) hl (k := 3) rfl rfl (by decide) rfl (fun ls hl => ?_)
        refine lv_goto (tgt := 4) hx hb (dAt dX3_placesBeside 21 rfl) (by decide) ?_
        exact ih b0 x1 x2 (x3 + (1 : Int32)) σ hb0 _ _ _ hw (lv_sub hl [1, 2, 3, 0] rfl) h
      · replace h := h.2 c14
        refine lv_iload_n hx hb (dAt dX3_placesBeside 11 rfl) rfl (lv_at hl 2 rfl) ?_
        refine lv_iconst (v := 1) hx hb (dAt dX3_placesBeside 12 rfl) (by decide) ?_
        refine lv_aload_n hx hb (dAt dX3_placesBeside 13 rfl) rfl (lv_at hl 0 rfl) ?_
        refine x_getr C hw fl_X3_9 (sS hE hb0) (nS hE hb0 (by omega)) rfl (dAt dX3_placesBeside 14 rfl) ?_
        refine lv_iload_n hx hb (dAt dX3_placesBeside 15 rfl) rfl (lv_at hl 3 rfl) ?_
        obtain ⟨z24, h⟩ := h
        refine x_ild C hw (sS_1 hE hb0) (nS hE hb0 (by omega)) z24 rfl (dAt dX3_placesBeside 16 rfl) ?_
        refine lv_ishl hx hb (dAt dX3_placesBeside 17 rfl) ?_
        refine lv_ior hx hb (dAt dX3_placesBeside 18 rfl) ?_
        refine lv_topi (fun x2_27 ex2_27 => ?_)
        replace h := h x2_27 ex2_27
        refine lv_istore_n (lv' := [(2, .int x2_27), (0, .ref (gE E b0)), (1, .int x1), (3, .int x3)]) hx hb (dAt dX3_placesBeside 19 rfl) rfl hl (by decide) rfl (fun ls hl => ?_)
        refine lv_iinc (v := (x3 + (1 : Int32))) (lv' := [(3, .int (x3 + (1 : Int32))), (2, .int x2_27), (0, .ref (gE E b0)), (1, .int x1)]) hx hb (dAt dX3_placesBeside 20 rfl) hl (k := 3) rfl rfl (by decide) rfl (fun ls hl => ?_)
        refine lv_goto (tgt := 4) hx hb (dAt dX3_placesBeside 21 rfl) (by decide) ?_
        exact ih b0 x1 x2_27 (x3 + (1 : Int32)) σ hb0 _ _ _ hw (lv_sub hl [2, 3, 1, 0] rfl) h
set_option maxHeartbeats 4000000 in
set_option maxRecDepth 100000 in
theorem kX3_placesBeside (l : Launch) (E : wE) (hE : wX E) (b0 : Nat) (hb0 : isS b0) (x1 : Int32) (σ : Mem) (Q : Int32 → Mem → Prop) (h : wX3_placesBeside b0 x1 σ Q) : Met l yX3_placesBeside (Cond.code yX3_placesBeside cX3_placesBeside 4 (some .int) :: TB) rX3_placesBeside (wPc E σ [.ref (gE E b0), .int x1]) (wQi E Q) 0 0 (wA E) := by
  refine wMet (by decide) hE.2.2 (Nat.le_of_ble_eq_true rfl) ?_
  intro p e s m args below meth c ls C hr hlk hl hw
  have hx := C.1.1
  have hb := C.1.2.1
  replace C : Cx p s m args c cX3_placesBeside 4 RX3 E (wA E) := C
  replace hl : lv_has ls 4 [(0, .ref (gE E b0)), (1, .int x1)] := hl
  unfold wX3_placesBeside at h
  refine lv_iconst (v := 0) hx hb (dAt dX3_placesBeside 0 rfl) (by decide) ?_
  refine lv_istore_n (lv' := [(2, .int (0 : Int32)), (0, .ref (gE E b0)), (1, .int x1)]) hx hb (dAt dX3_placesBeside 1 rfl) rfl hl (by decide) rfl (fun ls hl => ?_)
  refine lv_iconst (v := 0) hx hb (dAt dX3_placesBeside 2 rfl) (by decide) ?_
  refine lv_istore_n (lv' := [(3, .int (0 : Int32)), (2, .int (0 : Int32)), (0, .ref (gE E b0)), (1, .int x1)]) hx hb (dAt dX3_placesBeside 3 rfl) rfl hl (by decide) rfl (fun ls hl => ?_)
  obtain ⟨n4, h⟩ := h
  exact kX3_placesBeside_4 hE C hr hlk n4 b0 x1 (0 : Int32) (0 : Int32) σ hb0 _ _ _ hw (lv_sub hl [2, 3, 1, 0] rfl) h
def tX4_holds : List (Nat × Instr × Nat) := [(0, .iload_n 1, 1), (1, .ifCond .lt 29, 3), (4, .iload_n 2, 1), (5, .ifCond .lt 25, 3), (8, .iload_n 1, 1), (9, .aload_n 0, 1), (10, .getfield 19, 3), (13, .if_icmp .gt 17, 3), (16, .iload_n 2, 1), (17, .aload_n 0, 1), (18, .getfield 19, 3), (21, .iload_n 1, 1), (22, .isub, 1), (23, .if_icmp .gt 7, 3), (26, .iconst 1, 1), (27, .goto 4, 3), (30, .iconst 0, 1), (31, .ireturn, 1)]
theorem dX4_holds : dOk cX4_holds tX4_holds = true := by decide +kernel
abbrev rX4_holds : Room := { frames := 0, cells := 0, slots := 0, locals := 0 }
def wX4_holds (b0 : Nat) (x1 : Int32) (x2 : Int32) (σ : Mem) (Q : Int32 → Mem → Prop) : Prop := (((x1 < 0) → (Q (0 : Int32) σ)) ∧ ((¬ x1 < 0) → (((x2 < 0) → (Q (0 : Int32) σ)) ∧ ((¬ x2 < 0) → ((((σ b0 2) < x1) → (Q (0 : Int32) σ)) ∧ ((¬ (σ b0 2) < x1) → (((((σ b0 2) - x1) < x2) → (Q (0 : Int32) σ)) ∧ ((¬ ((σ b0 2) - x1) < x2) → (Q (1 : Int32) σ)))))))))
set_option maxHeartbeats 4000000 in
set_option maxRecDepth 100000 in
theorem kX4_holds (l : Launch) (E : wE) (hE : wX E) (b0 : Nat) (hb0 : isH b0) (x1 : Int32) (x2 : Int32) (σ : Mem) (Q : Int32 → Mem → Prop) (h : wX4_holds b0 x1 x2 σ Q) : Met l yX4_holds (Cond.code yX4_holds cX4_holds 3 (some .boolean) :: TB) rX4_holds (wPc E σ [.ref (gE E b0), .int x1, .int x2]) (wQi E Q) 0 0 (wA E) := by
  refine wMet (by decide) hE.2.2 (Nat.le_of_ble_eq_true rfl) ?_
  intro p e s m args below meth c ls C hr hlk hl hw
  have hx := C.1.1
  have hb := C.1.2.1
  replace C : Cx p s m args c cX4_holds 3 RX4 E (wA E) := C
  replace hl : lv_has ls 3 [(0, .ref (gE E b0)), (1, .int x1), (2, .int x2)] := hl
  unfold wX4_holds at h
  refine lv_iload_n hx hb (dAt dX4_holds 0 rfl) rfl (lv_at hl 1 rfl) ?_
  refine lv_if_lt (tgt := 30) hx hb (dAt dX4_holds 1 rfl) (by decide) (fun c1 => ?_) (fun c1 => ?_)
  · replace h := h.1 c1
    refine lv_iconst (v := 0) hx hb (dAt dX4_holds 16 rfl) (by decide) ?_
    exact x_zret C hw hr hlk rfl h (dAt dX4_holds 17 rfl)
  · replace h := h.2 c1
    refine lv_iload_n hx hb (dAt dX4_holds 2 rfl) rfl (lv_at hl 2 rfl) ?_
    refine lv_if_lt (tgt := 30) hx hb (dAt dX4_holds 3 rfl) (by decide) (fun c5 => ?_) (fun c5 => ?_)
    · replace h := h.1 c5
      refine lv_iconst (v := 0) hx hb (dAt dX4_holds 16 rfl) (by decide) ?_
      exact x_zret C hw hr hlk rfl h (dAt dX4_holds 17 rfl)
    · replace h := h.2 c5
      refine lv_iload_n hx hb (dAt dX4_holds 4 rfl) rfl (lv_at hl 1 rfl) ?_
      refine lv_aload_n hx hb (dAt dX4_holds 5 rfl) rfl (lv_at hl 0 rfl) ?_
      refine x_geti C hw fl_X4_19 (sH hE hb0) (nH hE hb0 (by omega)) rfl (dAt dX4_holds 6 rfl) ?_
      refine lv_icmp_gt (tgt := 30) hx hb (dAt dX4_holds 7 rfl) (by decide) (fun c13 => ?_) (fun c13 => ?_)
      · replace h := h.1 c13
        refine lv_iconst (v := 0) hx hb (dAt dX4_holds 16 rfl) (by decide) ?_
        exact x_zret C hw hr hlk rfl h (dAt dX4_holds 17 rfl)
      · replace h := h.2 c13
        refine lv_iload_n hx hb (dAt dX4_holds 8 rfl) rfl (lv_at hl 2 rfl) ?_
        refine lv_aload_n hx hb (dAt dX4_holds 9 rfl) rfl (lv_at hl 0 rfl) ?_
        refine x_geti C hw fl_X4_19 (sH hE hb0) (nH hE hb0 (by omega)) rfl (dAt dX4_holds 10 rfl) ?_
        refine lv_iload_n hx hb (dAt dX4_holds 11 rfl) rfl (lv_at hl 1 rfl) ?_
        refine lv_isub hx hb (dAt dX4_holds 12 rfl) ?_
        refine lv_icmp_gt (tgt := 30) hx hb (dAt dX4_holds 13 rfl) (by decide) (fun c23 => ?_) (fun c23 => ?_)
        · replace h := h.1 c23
          refine lv_iconst (v := 0) hx hb (dAt dX4_holds 16 rfl) (by decide) ?_
          exact x_zret C hw hr hlk rfl h (dAt dX4_holds 17 rfl)
        · replace h := h.2 c23
          refine lv_iconst (v := 1) hx hb (dAt dX4_holds 14 rfl) (by decide) ?_
          refine lv_goto (tgt := 31) hx hb (dAt dX4_holds 15 rfl) (by decide) ?_
          exact x_zret C hw hr hlk rfl h (dAt dX4_holds 17 rfl)
def tX4_put : List (Nat × Instr × Nat) := [(0, .aload_n 0, 1), (1, .getfield 9, 3), (4, .iload_n 1, 1), (5, .aload_n 0, 1), (6, .getfield 15, 3), (9, .ifCond .ne 8, 3), (12, .iload_n 2, 1), (13, .i2b, 1), (14, .goto 17, 3), (17, .aload_n 0, 1), (18, .getfield 15, 3), (21, .iconst 1, 1), (22, .if_icmp .ne 8, 3), (25, .iload_n 2, 1), (26, .i2s, 1), (27, .goto 4, 3), (30, .iload_n 2, 1), (31, .iastore, 1), (32, .return_, 1)]
theorem dX4_put : dOk cX4_put tX4_put = true := by decide +kernel
abbrev rX4_put : Room := { frames := 0, cells := 0, slots := 0, locals := 0 }
def wX4_put (b0 : Nat) (x1 : Int32) (x2 : Int32) (σ : Mem) (Q : Mem → Prop) : Prop := (vp_in x1 60 ∧ (∀ σ31 : Mem, σ31 = um σ (b0 + 1) (x1).toNatClampNeg (if (σ b0 1) = 0 then ((x2).toInt8.toInt32) else (if (σ b0 1) = (1 : Int32) then ((x2).toInt16.toInt32) else x2)) → (Q σ31)))
set_option maxHeartbeats 4000000 in
set_option maxRecDepth 100000 in
theorem kX4_put (l : Launch) (E : wE) (hE : wX E) (b0 : Nat) (hb0 : isH b0) (x1 : Int32) (x2 : Int32) (σ : Mem) (Q : Mem → Prop) (h : wX4_put b0 x1 x2 σ Q) : Met l yX4_put (Cond.code yX4_put cX4_put 3 none :: TB) rX4_put (wPc E σ [.ref (gE E b0), .int x1, .int x2]) (wQv E Q) 0 0 (wA E) := by
  refine wMet (by decide) hE.2.2 (Nat.le_of_ble_eq_true rfl) ?_
  intro p e s m args below meth c ls C hr hlk hl hw
  have hx := C.1.1
  have hb := C.1.2.1
  replace C : Cx p s m args c cX4_put 3 RX4 E (wA E) := C
  replace hl : lv_has ls 3 [(0, .ref (gE E b0)), (1, .int x1), (2, .int x2)] := hl
  unfold wX4_put at h
  refine lv_aload_n hx hb (dAt dX4_put 0 rfl) rfl (lv_at hl 0 rfl) ?_
  refine x_getr C hw fl_X4_9 (sH hE hb0) (nH hE hb0 (by omega)) rfl (dAt dX4_put 1 rfl) ?_
  refine lv_iload_n hx hb (dAt dX4_put 2 rfl) rfl (lv_at hl 1 rfl) ?_
  refine lv_aload_n hx hb (dAt dX4_put 3 rfl) rfl (lv_at hl 0 rfl) ?_
  refine x_geti C hw fl_X4_15 (sH hE hb0) (nH hE hb0 (by omega)) rfl (dAt dX4_put 4 rfl) ?_
  refine x_dia (ls := ls) (pcJ := 31) (cnd := (σ b0 1) = 0) (a := ((x2).toInt8.toInt32)) (b := (if (σ b0 1) = (1 : Int32) then ((x2).toInt16.toInt32) else x2)) ([.int x1, .ref (gE E (b0 + 1))]) ?_ (fun ht9 hf9 => ?_)
  · obtain ⟨z31, h⟩ := h
    refine x_ist C hw (sH_1 hE hb0) (nH hE hb0 (by omega)) z31 rfl (dAt dX4_put 17 rfl) (fun σ31 H locs eσ31 hw => ?_)
    replace h := h σ31 eσ31
    exact x_vret C hw hr hlk h (dAt dX4_put 18 rfl)
  · refine lv_if_ne (tgt := 17) hx hb (dAt dX4_put 5 rfl) (by decide) (fun c9 => ?_) (fun c9 => ?_)
    · refine lv_aload_n hx hb (dAt dX4_put 9 rfl) rfl (lv_at hl 0 rfl) ?_
      refine x_geti C hw fl_X4_15 (sH hE hb0) (nH hE hb0 (by omega)) rfl (dAt dX4_put 10 rfl) ?_
      refine lv_iconst (v := 1) hx hb (dAt dX4_put 11 rfl) (by decide) ?_
      refine x_dia (ls := ls) _ (hf9 c9) (fun ht9_9t hf9_9t => ?_)
      refine lv_icmp_ne (tgt := 30) hx hb (dAt dX4_put 12 rfl) (by decide) (fun c22 => ?_) (fun c22 => ?_)
      · refine lv_iload_n hx hb (dAt dX4_put 16 rfl) rfl (lv_at hl 2 rfl) ?_
        exact hf9_9t c22
      · refine lv_iload_n hx hb (dAt dX4_put 13 rfl) rfl (lv_at hl 2 rfl) ?_
        refine lv_i2s hx hb (dAt dX4_put 14 rfl) rfl ?_
        refine lv_goto (tgt := 31) hx hb (dAt dX4_put 15 rfl) (by decide) ?_
        exact ht9_9t c22
    · refine lv_iload_n hx hb (dAt dX4_put 6 rfl) rfl (lv_at hl 2 rfl) ?_
      refine lv_i2b hx hb (dAt dX4_put 7 rfl) rfl ?_
      refine lv_goto (tgt := 31) hx hb (dAt dX4_put 8 rfl) (by decide) ?_
      exact ht9 c9
def tX6_isText : List (Nat × Instr × Nat) := [(0, .iload_n 0, 1), (1, .ifCond .eq 8, 3), (4, .iload_n 0, 1), (5, .iconst 1, 1), (6, .if_icmp .ne 7, 3), (9, .iconst 1, 1), (10, .goto 4, 3), (13, .iconst 0, 1), (14, .ireturn, 1)]
theorem dX6_isText : dOk cX6_isText tX6_isText = true := by decide +kernel
abbrev rX6_isText : Room := { frames := 0, cells := 0, slots := 0, locals := 0 }
def wX6_isText (x0 : Int32) (σ : Mem) (Q : Int32 → Mem → Prop) : Prop := (((x0 = 0) → (Q (1 : Int32) σ)) ∧ ((¬ x0 = 0) → (((¬ x0 = (1 : Int32)) → (Q (0 : Int32) σ)) ∧ ((x0 = (1 : Int32)) → (Q (1 : Int32) σ)))))
set_option maxHeartbeats 4000000 in
set_option maxRecDepth 100000 in
theorem kX6_isText (l : Launch) (E : wE) (hE : wX E) (x0 : Int32) (σ : Mem) (Q : Int32 → Mem → Prop) (h : wX6_isText x0 σ Q) : Met l yX6_isText (Cond.code yX6_isText cX6_isText 1 (some .boolean) :: TB) rX6_isText (wPc E σ [.int x0]) (wQi E Q) 0 0 (wA E) := by
  refine wMet (by decide) hE.2.2 (Nat.le_of_ble_eq_true rfl) ?_
  intro p e s m args below meth c ls C hr hlk hl hw
  have hx := C.1.1
  have hb := C.1.2.1
  replace C : Cx p s m args c cX6_isText 1 RX6 E (wA E) := C
  replace hl : lv_has ls 1 [(0, .int x0)] := hl
  unfold wX6_isText at h
  refine lv_iload_n hx hb (dAt dX6_isText 0 rfl) rfl (lv_at hl 0 rfl) ?_
  refine lv_if_eq (tgt := 9) hx hb (dAt dX6_isText 1 rfl) (by decide) (fun c1 => ?_) (fun c1 => ?_)
  · replace h := h.1 c1
    refine lv_iconst (v := 1) hx hb (dAt dX6_isText 5 rfl) (by decide) ?_
    refine lv_goto (tgt := 14) hx hb (dAt dX6_isText 6 rfl) (by decide) ?_
    exact x_zret C hw hr hlk rfl h (dAt dX6_isText 8 rfl)
  · replace h := h.2 c1
    refine lv_iload_n hx hb (dAt dX6_isText 2 rfl) rfl (lv_at hl 0 rfl) ?_
    refine lv_iconst (v := 1) hx hb (dAt dX6_isText 3 rfl) (by decide) ?_
    refine lv_icmp_ne (tgt := 13) hx hb (dAt dX6_isText 4 rfl) (by decide) (fun c6 => ?_) (fun c6 => ?_)
    · replace h := h.1 c6
      refine lv_iconst (v := 0) hx hb (dAt dX6_isText 7 rfl) (by decide) ?_
      exact x_zret C hw hr hlk rfl h (dAt dX6_isText 8 rfl)
    · replace h := h.2 c6
      refine lv_iconst (v := 1) hx hb (dAt dX6_isText 5 rfl) (by decide) ?_
      refine lv_goto (tgt := 14) hx hb (dAt dX6_isText 6 rfl) (by decide) ?_
      exact x_zret C hw hr hlk rfl h (dAt dX6_isText 8 rfl)
def tX6_forgetOutcomes : List (Nat × Instr × Nat) := [(0, .aload_n 0, 1), (1, .iconst 0, 1), (2, .putfield 388, 3), (5, .aload_n 0, 1), (6, .iconst 0, 1), (7, .putfield 231, 3), (10, .aload_n 0, 1), (11, .iconst 0, 1), (12, .putfield 391, 3), (15, .return_, 1)]
theorem dX6_forgetOutcomes : dOk cX6_forgetOutcomes tX6_forgetOutcomes = true := by decide +kernel
abbrev rX6_forgetOutcomes : Room := { frames := 0, cells := 0, slots := 0, locals := 0 }
def wX6_forgetOutcomes (σ : Mem) (Q : Mem → Prop) : Prop := (∀ σ2 : Mem, σ2 = um σ 0 11 (0 : Int32) → (∀ σ7 : Mem, σ7 = um σ2 0 12 (0 : Int32) → (∀ σ12 : Mem, σ12 = um σ7 0 13 (0 : Int32) → (Q σ12))))
set_option maxHeartbeats 4000000 in
set_option maxRecDepth 100000 in
theorem kX6_forgetOutcomes (l : Launch) (E : wE) (hE : wX E) (σ : Mem) (Q : Mem → Prop) (h : wX6_forgetOutcomes  σ Q) : Met l yX6_forgetOutcomes (Cond.code yX6_forgetOutcomes cX6_forgetOutcomes 1 none :: TB) rX6_forgetOutcomes (wPc E σ [.ref (gE E 0)]) (wQv E Q) 0 0 (wA E) := by
  refine wMet (by decide) hE.2.2 (Nat.le_of_ble_eq_true rfl) ?_
  intro p e s m args below meth c ls C hr hlk hl hw
  have hx := C.1.1
  have hb := C.1.2.1
  replace C : Cx p s m args c cX6_forgetOutcomes 1 RX6 E (wA E) := C
  replace hl : lv_has ls 1 [(0, .ref (gE E 0))] := hl
  unfold wX6_forgetOutcomes at h
  refine lv_aload_n hx hb (dAt dX6_forgetOutcomes 0 rfl) rfl (lv_at hl 0 rfl) ?_
  refine lv_iconst (v := 0) hx hb (dAt dX6_forgetOutcomes 1 rfl) (by decide) ?_
  refine x_pf C hw fl_X6_388 (hE.1 0) (nX hE (by decide)) rfl rfl rfl (dAt dX6_forgetOutcomes 2 rfl) (fun σ2 H locs eσ2 hw => ?_)
  replace h := h σ2 eσ2
  refine lv_aload_n hx hb (dAt dX6_forgetOutcomes 3 rfl) rfl (lv_at hl 0 rfl) ?_
  refine lv_iconst (v := 0) hx hb (dAt dX6_forgetOutcomes 4 rfl) (by decide) ?_
  refine x_pf C hw fl_X6_231 (hE.1 0) (nX hE (by decide)) rfl rfl rfl (dAt dX6_forgetOutcomes 5 rfl) (fun σ7 H locs eσ7 hw => ?_)
  replace h := h σ7 eσ7
  refine lv_aload_n hx hb (dAt dX6_forgetOutcomes 6 rfl) rfl (lv_at hl 0 rfl) ?_
  refine lv_iconst (v := 0) hx hb (dAt dX6_forgetOutcomes 7 rfl) (by decide) ?_
  refine x_pf C hw fl_X6_391 (hE.1 0) (nX hE (by decide)) rfl rfl rfl (dAt dX6_forgetOutcomes 8 rfl) (fun σ12 H locs eσ12 hw => ?_)
  replace h := h σ12 eσ12
  exact x_vret C hw hr hlk h (dAt dX6_forgetOutcomes 9 rfl)
def tX6_takeText : List (Nat × Instr × Nat) := [(0, .iload_n 1, 1), (1, .ifCond .ne 28, 3), (4, .aload_n 0, 1), (5, .getfield 14, 3), (8, .iload_n 1, 1), (9, .aaload, 1), (10, .aload_n 0, 1), (11, .getfield 28, 3), (14, .aload_n 0, 1), (15, .getfield 14, 3), (18, .iload_n 1, 1), (19, .aaload, 1), (20, .invokevirtual 381, 3), (23, .putfield 86, 3), (26, .goto 25, 3), (29, .aload_n 0, 1), (30, .getfield 14, 3), (33, .iload_n 1, 1), (34, .aaload, 1), (35, .aload_n 0, 1), (36, .getfield 28, 3), (39, .aload_n 0, 1), (40, .getfield 14, 3), (43, .iload_n 1, 1), (44, .aaload, 1), (45, .invokevirtual 385, 3), (48, .putfield 86, 3), (51, .aload_n 0, 1), (52, .invokevirtual 108, 3), (55, .return_, 1)]
theorem dX6_takeText : dOk cX6_takeText tX6_takeText = true := by decide +kernel
abbrev rX6_takeText : Room := { frames := 3, cells := 0, slots := 0, locals := 68 }
def wX6_takeText (x1 : Int32) (σ : Mem) (Q : Mem → Prop) : Prop := (((¬ x1 = 0) → (vp_in x1 2 ∧ (vp_in x1 2 ∧ (wX3_takeSteps 10 (2 + 2 * (x1).toNatClampNeg) σ (fun r45 σ45 => (∀ σ48 : Mem, σ48 = um σ45 (2 + 2 * (x1).toNatClampNeg) 3 r45 → (wX6_forgetOutcomes  σ48 (fun σ52 => (Q σ52))))))))) ∧ ((x1 = 0) → (vp_in x1 2 ∧ (vp_in x1 2 ∧ (wX3_takeDancers 10 (2 + 2 * (x1).toNatClampNeg) σ (fun r20 σ20 => (∀ σ23 : Mem, σ23 = um σ20 (2 + 2 * (x1).toNatClampNeg) 3 r20 → (wX6_forgetOutcomes  σ23 (fun σ52 => (Q σ52))))))))))
set_option maxHeartbeats 4000000 in
set_option maxRecDepth 100000 in
theorem kX6_takeText (l : Launch) (E : wE) (hE : wX E) (x1 : Int32) (σ : Mem) (Q : Mem → Prop) (h : wX6_takeText x1 σ Q) : Met l yX6_takeText (Cond.code yX6_takeText cX6_takeText 2 none :: TB) rX6_takeText (wPc E σ [.ref (gE E 0), .int x1]) (wQv E Q) 0 0 (wA E) := by
  refine wMet (by decide) hE.2.2 (Nat.le_of_ble_eq_true rfl) ?_
  intro p e s m args below meth c ls C hr hlk hl hw
  have hx := C.1.1
  have hb := C.1.2.1
  replace C : Cx p s m args c cX6_takeText 2 RX6 E (wA E) := C
  replace hl : lv_has ls 2 [(0, .ref (gE E 0)), (1, .int x1)] := hl
  unfold wX6_takeText at h
  refine lv_iload_n hx hb (dAt dX6_takeText 0 rfl) rfl (lv_at hl 1 rfl) ?_
  refine lv_if_ne (tgt := 29) hx hb (dAt dX6_takeText 1 rfl) (by decide) (fun c1 => ?_) (fun c1 => ?_)
  · replace h := h.1 c1
    refine lv_aload_n hx hb (dAt dX6_takeText 15 rfl) rfl (lv_at hl 0 rfl) ?_
    refine x_getr C hw fl_X6_14 (hE.1 0) (nX hE (by decide)) rfl (dAt dX6_takeText 16 rfl) ?_
    refine lv_iload_n hx hb (dAt dX6_takeText 17 rfl) rfl (lv_at hl 1 rfl) ?_
    obtain ⟨z34, h⟩ := h
    refine x_aald C hw (hE.1 1) (nX hE (by decide)) z34 (dAt dX6_takeText 18 rfl) ?_
    refine lv_aload_n hx hb (dAt dX6_takeText 19 rfl) rfl (lv_at hl 0 rfl) ?_
    refine x_getr C hw fl_X6_28 (hE.1 0) (nX hE (by decide)) rfl (dAt dX6_takeText 20 rfl) ?_
    refine lv_aload_n hx hb (dAt dX6_takeText 21 rfl) rfl (lv_at hl 0 rfl) ?_
    refine x_getr C hw fl_X6_14 (hE.1 0) (nX hE (by decide)) rfl (dAt dX6_takeText 22 rfl) ?_
    refine lv_iload_n hx hb (dAt dX6_takeText 23 rfl) rfl (lv_at hl 1 rfl) ?_
    obtain ⟨z44, h⟩ := h
    refine x_aald C hw (hE.1 1) (nX hE (by decide)) z44 (dAt dX6_takeText 24 rfl) ?_
    refine x_calli C hw (x_runVN (As := [.ref (gE E (2 + 2 * (x1).toNatClampNeg))]) (rest := [.ref (gE E (2 + 2 * (x1).toNatClampNeg))]) C hw (kX3_takeSteps l E hE 10 isS_10 (2 + 2 * (x1).toNatClampNeg) (isT_of z44) σ _ h) mtX3_takeSteps lk_X6_385 (hE.1 10) (nX hE (by decide)) rfl ⟨by decide, by decide⟩ ⟨rfl, rfl⟩ rfl hl.1 rfl (Nat.le_of_ble_eq_true rfl) (dAt dX6_takeText 25 rfl) ⟨Nat.zero_le _, Nat.zero_le _⟩) (fun r45 σ45 H locs h hw => ?_)
    refine x_pfN C hw fl_X6_86 (sT hE (isT_of z34)) (nT hE (isT_of z34) (by omega)) rfl rfl rfl (dAt dX6_takeText 26 rfl) (fun σ48 H locs eσ48 hw => ?_)
    replace h := h σ48 eσ48
    refine lv_aload_n hx hb (dAt dX6_takeText 27 rfl) rfl (lv_at hl 0 rfl) ?_
    refine x_callv C hw (x_runV (As := []) (rest := []) C hw (kX6_forgetOutcomes l E hE  σ48 _ h) mtX6_forgetOutcomes lk_X6_108 (hE.1 0) (nX hE (by decide)) rfl ⟨by decide, by decide⟩ ⟨rfl, rfl⟩ rfl hl.1 rfl (Nat.le_of_ble_eq_true rfl) (dAt dX6_takeText 28 rfl) ⟨Nat.zero_le _, Nat.zero_le _⟩) (fun σ52 H locs h hw => ?_)
    exact x_vret C hw hr hlk h (dAt dX6_takeText 29 rfl)
  · replace h := h.2 c1
    refine lv_aload_n hx hb (dAt dX6_takeText 2 rfl) rfl (lv_at hl 0 rfl) ?_
    refine x_getr C hw fl_X6_14 (hE.1 0) (nX hE (by decide)) rfl (dAt dX6_takeText 3 rfl) ?_
    refine lv_iload_n hx hb (dAt dX6_takeText 4 rfl) rfl (lv_at hl 1 rfl) ?_
    obtain ⟨z9, h⟩ := h
    refine x_aald C hw (hE.1 1) (nX hE (by decide)) z9 (dAt dX6_takeText 5 rfl) ?_
    refine lv_aload_n hx hb (dAt dX6_takeText 6 rfl) rfl (lv_at hl 0 rfl) ?_
    refine x_getr C hw fl_X6_28 (hE.1 0) (nX hE (by decide)) rfl (dAt dX6_takeText 7 rfl) ?_
    refine lv_aload_n hx hb (dAt dX6_takeText 8 rfl) rfl (lv_at hl 0 rfl) ?_
    refine x_getr C hw fl_X6_14 (hE.1 0) (nX hE (by decide)) rfl (dAt dX6_takeText 9 rfl) ?_
    refine lv_iload_n hx hb (dAt dX6_takeText 10 rfl) rfl (lv_at hl 1 rfl) ?_
    obtain ⟨z19, h⟩ := h
    refine x_aald C hw (hE.1 1) (nX hE (by decide)) z19 (dAt dX6_takeText 11 rfl) ?_
    refine x_calli C hw (x_runVN (As := [.ref (gE E (2 + 2 * (x1).toNatClampNeg))]) (rest := [.ref (gE E (2 + 2 * (x1).toNatClampNeg))]) C hw (kX3_takeDancers l E hE 10 isS_10 (2 + 2 * (x1).toNatClampNeg) (isT_of z19) σ _ h) mtX3_takeDancers lk_X6_381 (hE.1 10) (nX hE (by decide)) rfl ⟨by decide, by decide⟩ ⟨rfl, rfl⟩ rfl hl.1 rfl (Nat.le_of_ble_eq_true rfl) (dAt dX6_takeText 12 rfl) ⟨Nat.zero_le _, Nat.zero_le _⟩) (fun r20 σ20 H locs h hw => ?_)
    refine x_pfN C hw fl_X6_86 (sT hE (isT_of z9)) (nT hE (isT_of z9) (by omega)) rfl rfl rfl (dAt dX6_takeText 13 rfl) (fun σ23 H locs eσ23 hw => ?_)
    replace h := h σ23 eσ23
    refine lv_goto (tgt := 51) hx hb (dAt dX6_takeText 14 rfl) (by decide) ?_
    refine lv_aload_n hx hb (dAt dX6_takeText 27 rfl) rfl (lv_at hl 0 rfl) ?_
    refine x_callv C hw (x_runV (As := []) (rest := []) C hw (kX6_forgetOutcomes l E hE  σ23 _ h) mtX6_forgetOutcomes lk_X6_108 (hE.1 0) (nX hE (by decide)) rfl ⟨by decide, by decide⟩ ⟨rfl, rfl⟩ rfl hl.1 rfl (Nat.le_of_ble_eq_true rfl) (dAt dX6_takeText 28 rfl) ⟨Nat.zero_le _, Nat.zero_le _⟩) (fun σ52 H locs h hw => ?_)
    exact x_vret C hw hr hlk h (dAt dX6_takeText 29 rfl)
def tX6_type : List (Nat × Instr × Nat) := [(0, .iload_n 1, 1), (1, .invokestatic 69, 3), (4, .ifCond .eq 14, 3), (7, .iload_n 2, 1), (8, .ifCond .lt 10, 3), (11, .iload_n 2, 1), (12, .sipush 255, 3), (15, .if_icmp .le 6, 3), (18, .bipush (-2), 2), (20, .ireturn, 1), (21, .aload_n 0, 1), (22, .getfield 14, 3), (25, .iload_n 1, 1), (26, .aaload, 1), (27, .astore_n 3, 1), (28, .aload_n 3, 1), (29, .getfield 73, 3), (32, .aload_n 3, 1), (33, .getfield 77, 3), (36, .if_icmp .lt 6, 3), (39, .bipush (-4), 2), (41, .ireturn, 1), (42, .aload_n 3, 1), (43, .getfield 80, 3), (46, .aload_n 3, 1), (47, .getfield 73, 3), (50, .iload_n 2, 1), (51, .iastore, 1), (52, .aload_n 3, 1), (53, .dup, 1), (54, .getfield 73, 3), (57, .iconst 1, 1), (58, .iadd, 1), (59, .putfield 73, 3), (62, .aload_n 0, 1), (63, .iload_n 1, 1), (64, .invokevirtual 83, 3), (67, .aload_n 3, 1), (68, .getfield 73, 3), (71, .ireturn, 1)]
theorem dX6_type : dOk cX6_type tX6_type = true := by decide +kernel
abbrev rX6_type : Room := { frames := 4, cells := 0, slots := 0, locals := 89 }
def wX6_type (x1 : Int32) (x2 : Int32) (σ : Mem) (Q : Int32 → Mem → Prop) : Prop := (wX6_isText x1 σ (fun r1 σ1 => (((r1 = 0) → (Q (-2 : Int32) σ1)) ∧ ((¬ r1 = 0) → (((x2 < 0) → (Q (-2 : Int32) σ1)) ∧ ((¬ x2 < 0) → (((x2 ≤ (255 : Int32)) → (vp_in x1 2 ∧ ((((σ1 (2 + 2 * (x1).toNatClampNeg) 2) < (σ1 (2 + 2 * (x1).toNatClampNeg) 0)) → (vp_in (σ1 (2 + 2 * (x1).toNatClampNeg) 2) 31 ∧ (∀ σ51 : Mem, σ51 = um σ1 ((2 + 2 * (x1).toNatClampNeg) + 1) ((σ1 (2 + 2 * (x1).toNatClampNeg) 2)).toNatClampNeg x2 → (∀ σ59 : Mem, σ59 = um σ51 (2 + 2 * (x1).toNatClampNeg) 2 ((σ51 (2 + 2 * (x1).toNatClampNeg) 2) + (1 : Int32)) → (wX6_takeText x1 σ59 (fun σ64 => (Q (σ64 (2 + 2 * (x1).toNatClampNeg) 2) σ64))))))) ∧ ((¬ (σ1 (2 + 2 * (x1).toNatClampNeg) 2) < (σ1 (2 + 2 * (x1).toNatClampNeg) 0)) → (Q (-4 : Int32) σ1))))) ∧ ((¬ x2 ≤ (255 : Int32)) → (Q (-2 : Int32) σ1)))))))))
set_option maxHeartbeats 4000000 in
set_option maxRecDepth 100000 in
theorem kX6_type (l : Launch) (E : wE) (hE : wX E) (x1 : Int32) (x2 : Int32) (σ : Mem) (Q : Int32 → Mem → Prop) (h : wX6_type x1 x2 σ Q) : Met l yX6_type (Cond.code yX6_type cX6_type 4 (some .int) :: TB) rX6_type (wPc E σ [.ref (gE E 0), .int x1, .int x2]) (wQi E Q) 0 0 (wA E) := by
  refine wMet (by decide) hE.2.2 (Nat.le_of_ble_eq_true rfl) ?_
  intro p e s m args below meth c ls C hr hlk hl hw
  have hx := C.1.1
  have hb := C.1.2.1
  replace C : Cx p s m args c cX6_type 4 RX6 E (wA E) := C
  replace hl : lv_has ls 4 [(0, .ref (gE E 0)), (1, .int x1), (2, .int x2)] := hl
  unfold wX6_type at h
  refine lv_iload_n hx hb (dAt dX6_type 0 rfl) rfl (lv_at hl 1 rfl) ?_
  refine x_calli C hw (x_runS (As := [.int x1]) (rest := []) C hw (kX6_isText l E hE x1 σ _ h) mtX6_isText lk_X6_69 ⟨by decide, by decide⟩ ⟨rfl, rfl⟩ rfl hl.1 rfl (Nat.le_of_ble_eq_true rfl) (dAt dX6_type 1 rfl) ⟨Nat.zero_le _, Nat.zero_le _⟩) (fun r1 σ1 H locs h hw => ?_)
  refine lv_if_eq (tgt := 18) hx hb (dAt dX6_type 2 rfl) (by decide) (fun c4 => ?_) (fun c4 => ?_)
  · replace h := h.1 c4
    refine lv_bipush (v := -2) hx hb (dAt dX6_type 8 rfl) (by decide) ?_
    exact x_iret C hw hr hlk h (dAt dX6_type 9 rfl)
  · replace h := h.2 c4
    refine lv_iload_n hx hb (dAt dX6_type 3 rfl) rfl (lv_at hl 2 rfl) ?_
    refine lv_if_lt (tgt := 18) hx hb (dAt dX6_type 4 rfl) (by decide) (fun c8 => ?_) (fun c8 => ?_)
    · replace h := h.1 c8
      refine lv_bipush (v := -2) hx hb (dAt dX6_type 8 rfl) (by decide) ?_
      exact x_iret C hw hr hlk h (dAt dX6_type 9 rfl)
    · replace h := h.2 c8
      refine lv_iload_n hx hb (dAt dX6_type 5 rfl) rfl (lv_at hl 2 rfl) ?_
      refine lv_sipush (v := 255) hx hb (dAt dX6_type 6 rfl) (by decide) ?_
      refine lv_icmp_le (tgt := 21) hx hb (dAt dX6_type 7 rfl) (by decide) (fun c15 => ?_) (fun c15 => ?_)
      · replace h := h.1 c15
        refine lv_aload_n hx hb (dAt dX6_type 10 rfl) rfl (lv_at hl 0 rfl) ?_
        refine x_getr C hw fl_X6_14 (hE.1 0) (nX hE (by decide)) rfl (dAt dX6_type 11 rfl) ?_
        refine lv_iload_n hx hb (dAt dX6_type 12 rfl) rfl (lv_at hl 1 rfl) ?_
        obtain ⟨z26, h⟩ := h
        refine x_aald C hw (hE.1 1) (nX hE (by decide)) z26 (dAt dX6_type 13 rfl) ?_
        refine lv_astore_n (lv' := [(3, .ref (gE E (2 + 2 * (x1).toNatClampNeg))), (0, .ref (gE E 0)), (1, .int x1), (2, .int x2)]) hx hb (dAt dX6_type 14 rfl) rfl hl (by decide) rfl (fun ls hl => ?_)
        refine lv_aload_n hx hb (dAt dX6_type 15 rfl) rfl (lv_at hl 0 rfl) ?_
        refine x_getiN C hw fl_X6_73 (sT hE (isT_of z26)) (nT hE (isT_of z26) (by omega)) rfl (dAt dX6_type 16 rfl) ?_
        refine lv_aload_n hx hb (dAt dX6_type 17 rfl) rfl (lv_at hl 0 rfl) ?_
        refine x_getiN C hw fl_X6_77 (sT hE (isT_of z26)) (nT hE (isT_of z26) (by omega)) rfl (dAt dX6_type 18 rfl) ?_
        refine lv_icmp_lt (tgt := 42) hx hb (dAt dX6_type 19 rfl) (by decide) (fun c36 => ?_) (fun c36 => ?_)
        · replace h := h.1 c36
          refine lv_aload_n hx hb (dAt dX6_type 22 rfl) rfl (lv_at hl 0 rfl) ?_
          refine x_getrN C hw fl_X6_80 (sT hE (isT_of z26)) (nT hE (isT_of z26) (by omega)) rfl (dAt dX6_type 23 rfl) ?_
          refine lv_aload_n hx hb (dAt dX6_type 24 rfl) rfl (lv_at hl 0 rfl) ?_
          refine x_getiN C hw fl_X6_73 (sT hE (isT_of z26)) (nT hE (isT_of z26) (by omega)) rfl (dAt dX6_type 25 rfl) ?_
          refine lv_iload_n hx hb (dAt dX6_type 26 rfl) rfl (lv_at hl 3 rfl) ?_
          obtain ⟨z51, h⟩ := h
          refine x_ist C hw (sT_1 hE (isT_of z26)) (nT hE (isT_of z26) (by omega)) z51 rfl (dAt dX6_type 27 rfl) (fun σ51 H locs eσ51 hw => ?_)
          replace h := h σ51 eσ51
          refine lv_aload_n hx hb (dAt dX6_type 28 rfl) rfl (lv_at hl 0 rfl) ?_
          refine lv_dup hx hb (dAt dX6_type 29 rfl) rfl ?_
          refine x_getiN C hw fl_X6_73 (sT hE (isT_of z26)) (nT hE (isT_of z26) (by omega)) rfl (dAt dX6_type 30 rfl) ?_
          refine lv_iconst (v := 1) hx hb (dAt dX6_type 31 rfl) (by decide) ?_
          refine lv_iadd hx hb (dAt dX6_type 32 rfl) ?_
          refine x_pfN C hw fl_X6_73 (sT hE (isT_of z26)) (nT hE (isT_of z26) (by omega)) rfl rfl rfl (dAt dX6_type 33 rfl) (fun σ59 H locs eσ59 hw => ?_)
          replace h := h σ59 eσ59
          refine lv_aload_n hx hb (dAt dX6_type 34 rfl) rfl (lv_at hl 1 rfl) ?_
          refine lv_iload_n hx hb (dAt dX6_type 35 rfl) rfl (lv_at hl 2 rfl) ?_
          refine x_callv C hw (x_runV (As := [.int x1]) (rest := []) C hw (kX6_takeText l E hE x1 σ59 _ h) mtX6_takeText lk_X6_83 (hE.1 0) (nX hE (by decide)) rfl ⟨by decide, by decide⟩ ⟨rfl, rfl⟩ rfl hl.1 rfl (Nat.le_of_ble_eq_true rfl) (dAt dX6_type 36 rfl) ⟨Nat.zero_le _, Nat.zero_le _⟩) (fun σ64 H locs h hw => ?_)
          refine lv_aload_n hx hb (dAt dX6_type 37 rfl) rfl (lv_at hl 0 rfl) ?_
          refine x_getiN C hw fl_X6_73 (sT hE (isT_of z26)) (nT hE (isT_of z26) (by omega)) rfl (dAt dX6_type 38 rfl) ?_
          exact x_iret C hw hr hlk h (dAt dX6_type 39 rfl)
        · replace h := h.2 c36
          refine lv_bipush (v := -4) hx hb (dAt dX6_type 20 rfl) (by decide) ?_
          exact x_iret C hw hr hlk h (dAt dX6_type 21 rfl)
      · replace h := h.2 c15
        refine lv_bipush (v := -2) hx hb (dAt dX6_type 8 rfl) (by decide) ?_
        exact x_iret C hw hr hlk h (dAt dX6_type 9 rfl)
def tX6_wipe : List (Nat × Instr × Nat) := [(0, .iload_n 1, 1), (1, .invokestatic 69, 3), (4, .ifCond .ne 6, 3), (7, .bipush (-2), 2), (9, .ireturn, 1), (10, .aload_n 0, 1), (11, .getfield 14, 3), (14, .iload_n 1, 1), (15, .aaload, 1), (16, .getfield 73, 3), (19, .istore_n 2, 1), (20, .aload_n 0, 1), (21, .getfield 14, 3), (24, .iload_n 1, 1), (25, .aaload, 1), (26, .iconst 0, 1), (27, .putfield 73, 3), (30, .aload_n 0, 1), (31, .iload_n 1, 1), (32, .invokevirtual 83, 3), (35, .iload_n 2, 1), (36, .ireturn, 1)]
theorem dX6_wipe : dOk cX6_wipe tX6_wipe = true := by decide +kernel
abbrev rX6_wipe : Room := { frames := 4, cells := 0, slots := 0, locals := 89 }
def wX6_wipe (x1 : Int32) (σ : Mem) (Q : Int32 → Mem → Prop) : Prop := (wX6_isText x1 σ (fun r1 σ1 => (((¬ r1 = 0) → (vp_in x1 2 ∧ (∀ x2_19 : Int32, x2_19 = (σ1 (2 + 2 * (x1).toNatClampNeg) 2) → (vp_in x1 2 ∧ (∀ σ27 : Mem, σ27 = um σ1 (2 + 2 * (x1).toNatClampNeg) 2 (0 : Int32) → (wX6_takeText x1 σ27 (fun σ32 => (Q x2_19 σ32)))))))) ∧ ((r1 = 0) → (Q (-2 : Int32) σ1)))))
set_option maxHeartbeats 4000000 in
set_option maxRecDepth 100000 in
theorem kX6_wipe (l : Launch) (E : wE) (hE : wX E) (x1 : Int32) (σ : Mem) (Q : Int32 → Mem → Prop) (h : wX6_wipe x1 σ Q) : Met l yX6_wipe (Cond.code yX6_wipe cX6_wipe 3 (some .int) :: TB) rX6_wipe (wPc E σ [.ref (gE E 0), .int x1]) (wQi E Q) 0 0 (wA E) := by
  refine wMet (by decide) hE.2.2 (Nat.le_of_ble_eq_true rfl) ?_
  intro p e s m args below meth c ls C hr hlk hl hw
  have hx := C.1.1
  have hb := C.1.2.1
  replace C : Cx p s m args c cX6_wipe 3 RX6 E (wA E) := C
  replace hl : lv_has ls 3 [(0, .ref (gE E 0)), (1, .int x1)] := hl
  unfold wX6_wipe at h
  refine lv_iload_n hx hb (dAt dX6_wipe 0 rfl) rfl (lv_at hl 1 rfl) ?_
  refine x_calli C hw (x_runS (As := [.int x1]) (rest := []) C hw (kX6_isText l E hE x1 σ _ h) mtX6_isText lk_X6_69 ⟨by decide, by decide⟩ ⟨rfl, rfl⟩ rfl hl.1 rfl (Nat.le_of_ble_eq_true rfl) (dAt dX6_wipe 1 rfl) ⟨Nat.zero_le _, Nat.zero_le _⟩) (fun r1 σ1 H locs h hw => ?_)
  refine lv_if_ne (tgt := 10) hx hb (dAt dX6_wipe 2 rfl) (by decide) (fun c4 => ?_) (fun c4 => ?_)
  · replace h := h.1 c4
    refine lv_aload_n hx hb (dAt dX6_wipe 5 rfl) rfl (lv_at hl 0 rfl) ?_
    refine x_getr C hw fl_X6_14 (hE.1 0) (nX hE (by decide)) rfl (dAt dX6_wipe 6 rfl) ?_
    refine lv_iload_n hx hb (dAt dX6_wipe 7 rfl) rfl (lv_at hl 1 rfl) ?_
    obtain ⟨z15, h⟩ := h
    refine x_aald C hw (hE.1 1) (nX hE (by decide)) z15 (dAt dX6_wipe 8 rfl) ?_
    refine x_getiN C hw fl_X6_73 (sT hE (isT_of z15)) (nT hE (isT_of z15) (by omega)) rfl (dAt dX6_wipe 9 rfl) ?_
    refine lv_topi (fun x2_19 ex2_19 => ?_)
    replace h := h x2_19 ex2_19
    refine lv_istore_n (lv' := [(2, .int x2_19), (0, .ref (gE E 0)), (1, .int x1)]) hx hb (dAt dX6_wipe 10 rfl) rfl hl (by decide) rfl (fun ls hl => ?_)
    refine lv_aload_n hx hb (dAt dX6_wipe 11 rfl) rfl (lv_at hl 1 rfl) ?_
    refine x_getr C hw fl_X6_14 (hE.1 0) (nX hE (by decide)) rfl (dAt dX6_wipe 12 rfl) ?_
    refine lv_iload_n hx hb (dAt dX6_wipe 13 rfl) rfl (lv_at hl 2 rfl) ?_
    obtain ⟨z25, h⟩ := h
    refine x_aald C hw (hE.1 1) (nX hE (by decide)) z25 (dAt dX6_wipe 14 rfl) ?_
    refine lv_iconst (v := 0) hx hb (dAt dX6_wipe 15 rfl) (by decide) ?_
    refine x_pfN C hw fl_X6_73 (sT hE (isT_of z25)) (nT hE (isT_of z25) (by omega)) rfl rfl rfl (dAt dX6_wipe 16 rfl) (fun σ27 H locs eσ27 hw => ?_)
    replace h := h σ27 eσ27
    refine lv_aload_n hx hb (dAt dX6_wipe 17 rfl) rfl (lv_at hl 1 rfl) ?_
    refine lv_iload_n hx hb (dAt dX6_wipe 18 rfl) rfl (lv_at hl 2 rfl) ?_
    refine x_callv C hw (x_runV (As := [.int x1]) (rest := []) C hw (kX6_takeText l E hE x1 σ27 _ h) mtX6_takeText lk_X6_83 (hE.1 0) (nX hE (by decide)) rfl ⟨by decide, by decide⟩ ⟨rfl, rfl⟩ rfl hl.1 rfl (Nat.le_of_ble_eq_true rfl) (dAt dX6_wipe 19 rfl) ⟨Nat.zero_le _, Nat.zero_le _⟩) (fun σ32 H locs h hw => ?_)
    refine lv_iload_n hx hb (dAt dX6_wipe 20 rfl) rfl (lv_at hl 0 rfl) ?_
    exact x_iret C hw hr hlk h (dAt dX6_wipe 21 rfl)
  · replace h := h.2 c4
    refine lv_bipush (v := -2) hx hb (dAt dX6_wipe 3 rfl) (by decide) ?_
    exact x_iret C hw hr hlk h (dAt dX6_wipe 4 rfl)
def tX6_undo : List (Nat × Instr × Nat) := [(0, .iload_n 1, 1), (1, .invokestatic 69, 3), (4, .ifCond .ne 6, 3), (7, .bipush (-2), 2), (9, .ireturn, 1), (10, .aload_n 0, 1), (11, .getfield 14, 3), (14, .iload_n 1, 1), (15, .aaload, 1), (16, .getfield 73, 3), (19, .ifCond .ne 6, 3), (22, .bipush (-3), 2), (24, .ireturn, 1), (25, .aload_n 0, 1), (26, .getfield 14, 3), (29, .iload_n 1, 1), (30, .aaload, 1), (31, .dup, 1), (32, .getfield 73, 3), (35, .iconst 1, 1), (36, .isub, 1), (37, .putfield 73, 3), (40, .aload_n 0, 1), (41, .iload_n 1, 1), (42, .invokevirtual 83, 3), (45, .aload_n 0, 1), (46, .getfield 14, 3), (49, .iload_n 1, 1), (50, .aaload, 1), (51, .getfield 73, 3), (54, .ireturn, 1)]
theorem dX6_undo : dOk cX6_undo tX6_undo = true := by decide +kernel
abbrev rX6_undo : Room := { frames := 4, cells := 0, slots := 0, locals := 89 }
def wX6_undo (x1 : Int32) (σ : Mem) (Q : Int32 → Mem → Prop) : Prop := (wX6_isText x1 σ (fun r1 σ1 => (((¬ r1 = 0) → (vp_in x1 2 ∧ (((¬ (σ1 (2 + 2 * (x1).toNatClampNeg) 2) = 0) → (vp_in x1 2 ∧ (∀ σ37 : Mem, σ37 = um σ1 (2 + 2 * (x1).toNatClampNeg) 2 ((σ1 (2 + 2 * (x1).toNatClampNeg) 2) - (1 : Int32)) → (wX6_takeText x1 σ37 (fun σ42 => (vp_in x1 2 ∧ (Q (σ42 (2 + 2 * (x1).toNatClampNeg) 2) σ42))))))) ∧ (((σ1 (2 + 2 * (x1).toNatClampNeg) 2) = 0) → (Q (-3 : Int32) σ1))))) ∧ ((r1 = 0) → (Q (-2 : Int32) σ1)))))
set_option maxHeartbeats 4000000 in
set_option maxRecDepth 100000 in
theorem kX6_undo (l : Launch) (E : wE) (hE : wX E) (x1 : Int32) (σ : Mem) (Q : Int32 → Mem → Prop) (h : wX6_undo x1 σ Q) : Met l yX6_undo (Cond.code yX6_undo cX6_undo 2 (some .int) :: TB) rX6_undo (wPc E σ [.ref (gE E 0), .int x1]) (wQi E Q) 0 0 (wA E) := by
  refine wMet (by decide) hE.2.2 (Nat.le_of_ble_eq_true rfl) ?_
  intro p e s m args below meth c ls C hr hlk hl hw
  have hx := C.1.1
  have hb := C.1.2.1
  replace C : Cx p s m args c cX6_undo 2 RX6 E (wA E) := C
  replace hl : lv_has ls 2 [(0, .ref (gE E 0)), (1, .int x1)] := hl
  unfold wX6_undo at h
  refine lv_iload_n hx hb (dAt dX6_undo 0 rfl) rfl (lv_at hl 1 rfl) ?_
  refine x_calli C hw (x_runS (As := [.int x1]) (rest := []) C hw (kX6_isText l E hE x1 σ _ h) mtX6_isText lk_X6_69 ⟨by decide, by decide⟩ ⟨rfl, rfl⟩ rfl hl.1 rfl (Nat.le_of_ble_eq_true rfl) (dAt dX6_undo 1 rfl) ⟨Nat.zero_le _, Nat.zero_le _⟩) (fun r1 σ1 H locs h hw => ?_)
  refine lv_if_ne (tgt := 10) hx hb (dAt dX6_undo 2 rfl) (by decide) (fun c4 => ?_) (fun c4 => ?_)
  · replace h := h.1 c4
    refine lv_aload_n hx hb (dAt dX6_undo 5 rfl) rfl (lv_at hl 0 rfl) ?_
    refine x_getr C hw fl_X6_14 (hE.1 0) (nX hE (by decide)) rfl (dAt dX6_undo 6 rfl) ?_
    refine lv_iload_n hx hb (dAt dX6_undo 7 rfl) rfl (lv_at hl 1 rfl) ?_
    obtain ⟨z15, h⟩ := h
    refine x_aald C hw (hE.1 1) (nX hE (by decide)) z15 (dAt dX6_undo 8 rfl) ?_
    refine x_getiN C hw fl_X6_73 (sT hE (isT_of z15)) (nT hE (isT_of z15) (by omega)) rfl (dAt dX6_undo 9 rfl) ?_
    refine lv_if_ne (tgt := 25) hx hb (dAt dX6_undo 10 rfl) (by decide) (fun c19 => ?_) (fun c19 => ?_)
    · replace h := h.1 c19
      refine lv_aload_n hx hb (dAt dX6_undo 13 rfl) rfl (lv_at hl 0 rfl) ?_
      refine x_getr C hw fl_X6_14 (hE.1 0) (nX hE (by decide)) rfl (dAt dX6_undo 14 rfl) ?_
      refine lv_iload_n hx hb (dAt dX6_undo 15 rfl) rfl (lv_at hl 1 rfl) ?_
      obtain ⟨z30, h⟩ := h
      refine x_aald C hw (hE.1 1) (nX hE (by decide)) z30 (dAt dX6_undo 16 rfl) ?_
      refine lv_dup hx hb (dAt dX6_undo 17 rfl) rfl ?_
      refine x_getiN C hw fl_X6_73 (sT hE (isT_of z30)) (nT hE (isT_of z30) (by omega)) rfl (dAt dX6_undo 18 rfl) ?_
      refine lv_iconst (v := 1) hx hb (dAt dX6_undo 19 rfl) (by decide) ?_
      refine lv_isub hx hb (dAt dX6_undo 20 rfl) ?_
      refine x_pfN C hw fl_X6_73 (sT hE (isT_of z30)) (nT hE (isT_of z30) (by omega)) rfl rfl rfl (dAt dX6_undo 21 rfl) (fun σ37 H locs eσ37 hw => ?_)
      replace h := h σ37 eσ37
      refine lv_aload_n hx hb (dAt dX6_undo 22 rfl) rfl (lv_at hl 0 rfl) ?_
      refine lv_iload_n hx hb (dAt dX6_undo 23 rfl) rfl (lv_at hl 1 rfl) ?_
      refine x_callv C hw (x_runV (As := [.int x1]) (rest := []) C hw (kX6_takeText l E hE x1 σ37 _ h) mtX6_takeText lk_X6_83 (hE.1 0) (nX hE (by decide)) rfl ⟨by decide, by decide⟩ ⟨rfl, rfl⟩ rfl hl.1 rfl (Nat.le_of_ble_eq_true rfl) (dAt dX6_undo 24 rfl) ⟨Nat.zero_le _, Nat.zero_le _⟩) (fun σ42 H locs h hw => ?_)
      refine lv_aload_n hx hb (dAt dX6_undo 25 rfl) rfl (lv_at hl 0 rfl) ?_
      refine x_getr C hw fl_X6_14 (hE.1 0) (nX hE (by decide)) rfl (dAt dX6_undo 26 rfl) ?_
      refine lv_iload_n hx hb (dAt dX6_undo 27 rfl) rfl (lv_at hl 1 rfl) ?_
      obtain ⟨z50, h⟩ := h
      refine x_aald C hw (hE.1 1) (nX hE (by decide)) z50 (dAt dX6_undo 28 rfl) ?_
      refine x_getiN C hw fl_X6_73 (sT hE (isT_of z50)) (nT hE (isT_of z50) (by omega)) rfl (dAt dX6_undo 29 rfl) ?_
      exact x_iret C hw hr hlk h (dAt dX6_undo 30 rfl)
    · replace h := h.2 c19
      refine lv_bipush (v := -3) hx hb (dAt dX6_undo 11 rfl) (by decide) ?_
      exact x_iret C hw hr hlk h (dAt dX6_undo 12 rfl)
  · replace h := h.2 c4
    refine lv_bipush (v := -2) hx hb (dAt dX6_undo 3 rfl) (by decide) ?_
    exact x_iret C hw hr hlk h (dAt dX6_undo 4 rfl)
def tX6_fault : List (Nat × Instr × Nat) := [(0, .iload_n 1, 1), (1, .invokestatic 69, 3), (4, .ifCond .eq 15, 3), (7, .aload_n 0, 1), (8, .getfield 14, 3), (11, .iload_n 1, 1), (12, .aaload, 1), (13, .getfield 86, 3), (16, .goto 5, 3), (19, .bipush (-2), 2), (21, .ireturn, 1)]
theorem dX6_fault : dOk cX6_fault tX6_fault = true := by decide +kernel
abbrev rX6_fault : Room := { frames := 1, cells := 0, slots := 0, locals := 20 }
def wX6_fault (x1 : Int32) (σ : Mem) (Q : Int32 → Mem → Prop) : Prop := (wX6_isText x1 σ (fun r1 σ1 => (((r1 = 0) → (Q (-2 : Int32) σ1)) ∧ ((¬ r1 = 0) → (vp_in x1 2 ∧ (Q (σ1 (2 + 2 * (x1).toNatClampNeg) 3) σ1))))))
set_option maxHeartbeats 4000000 in
set_option maxRecDepth 100000 in
theorem kX6_fault (l : Launch) (E : wE) (hE : wX E) (x1 : Int32) (σ : Mem) (Q : Int32 → Mem → Prop) (h : wX6_fault x1 σ Q) : Met l yX6_fault (Cond.code yX6_fault cX6_fault 2 (some .int) :: TB) rX6_fault (wPc E σ [.ref (gE E 0), .int x1]) (wQi E Q) 0 0 (wA E) := by
  refine wMet (by decide) hE.2.2 (Nat.le_of_ble_eq_true rfl) ?_
  intro p e s m args below meth c ls C hr hlk hl hw
  have hx := C.1.1
  have hb := C.1.2.1
  replace C : Cx p s m args c cX6_fault 2 RX6 E (wA E) := C
  replace hl : lv_has ls 2 [(0, .ref (gE E 0)), (1, .int x1)] := hl
  unfold wX6_fault at h
  refine lv_iload_n hx hb (dAt dX6_fault 0 rfl) rfl (lv_at hl 1 rfl) ?_
  refine x_calli C hw (x_runS (As := [.int x1]) (rest := []) C hw (kX6_isText l E hE x1 σ _ h) mtX6_isText lk_X6_69 ⟨by decide, by decide⟩ ⟨rfl, rfl⟩ rfl hl.1 rfl (Nat.le_of_ble_eq_true rfl) (dAt dX6_fault 1 rfl) ⟨Nat.zero_le _, Nat.zero_le _⟩) (fun r1 σ1 H locs h hw => ?_)
  refine lv_if_eq (tgt := 19) hx hb (dAt dX6_fault 2 rfl) (by decide) (fun c4 => ?_) (fun c4 => ?_)
  · replace h := h.1 c4
    refine lv_bipush (v := -2) hx hb (dAt dX6_fault 9 rfl) (by decide) ?_
    exact x_iret C hw hr hlk h (dAt dX6_fault 10 rfl)
  · replace h := h.2 c4
    refine lv_aload_n hx hb (dAt dX6_fault 3 rfl) rfl (lv_at hl 0 rfl) ?_
    refine x_getr C hw fl_X6_14 (hE.1 0) (nX hE (by decide)) rfl (dAt dX6_fault 4 rfl) ?_
    refine lv_iload_n hx hb (dAt dX6_fault 5 rfl) rfl (lv_at hl 1 rfl) ?_
    obtain ⟨z12, h⟩ := h
    refine x_aald C hw (hE.1 1) (nX hE (by decide)) z12 (dAt dX6_fault 6 rfl) ?_
    refine x_getiN C hw fl_X6_86 (sT hE (isT_of z12)) (nT hE (isT_of z12) (by omega)) rfl (dAt dX6_fault 7 rfl) ?_
    refine lv_goto (tgt := 21) hx hb (dAt dX6_fault 8 rfl) (by decide) ?_
    exact x_iret C hw hr hlk h (dAt dX6_fault 10 rfl)
def tX6_isDancer : List (Nat × Instr × Nat) := [(0, .iload_n 1, 1), (1, .ifCond .lt 18, 3), (4, .iload_n 1, 1), (5, .aload_n 0, 1), (6, .getfield 28, 3), (9, .getfield 193, 3), (12, .if_icmp .ge 7, 3), (15, .iconst 1, 1), (16, .goto 4, 3), (19, .iconst 0, 1), (20, .ireturn, 1)]
theorem dX6_isDancer : dOk cX6_isDancer tX6_isDancer = true := by decide +kernel
abbrev rX6_isDancer : Room := { frames := 0, cells := 0, slots := 0, locals := 0 }
def wX6_isDancer (x1 : Int32) (σ : Mem) (Q : Int32 → Mem → Prop) : Prop := (((x1 < 0) → (Q (0 : Int32) σ)) ∧ ((¬ x1 < 0) → ((((σ 10 4) ≤ x1) → (Q (0 : Int32) σ)) ∧ ((¬ (σ 10 4) ≤ x1) → (Q (1 : Int32) σ)))))
set_option maxHeartbeats 4000000 in
set_option maxRecDepth 100000 in
theorem kX6_isDancer (l : Launch) (E : wE) (hE : wX E) (x1 : Int32) (σ : Mem) (Q : Int32 → Mem → Prop) (h : wX6_isDancer x1 σ Q) : Met l yX6_isDancer (Cond.code yX6_isDancer cX6_isDancer 2 (some .boolean) :: TB) rX6_isDancer (wPc E σ [.ref (gE E 0), .int x1]) (wQi E Q) 0 0 (wA E) := by
  refine wMet (by decide) hE.2.2 (Nat.le_of_ble_eq_true rfl) ?_
  intro p e s m args below meth c ls C hr hlk hl hw
  have hx := C.1.1
  have hb := C.1.2.1
  replace C : Cx p s m args c cX6_isDancer 2 RX6 E (wA E) := C
  replace hl : lv_has ls 2 [(0, .ref (gE E 0)), (1, .int x1)] := hl
  unfold wX6_isDancer at h
  refine lv_iload_n hx hb (dAt dX6_isDancer 0 rfl) rfl (lv_at hl 1 rfl) ?_
  refine lv_if_lt (tgt := 19) hx hb (dAt dX6_isDancer 1 rfl) (by decide) (fun c1 => ?_) (fun c1 => ?_)
  · replace h := h.1 c1
    refine lv_iconst (v := 0) hx hb (dAt dX6_isDancer 9 rfl) (by decide) ?_
    exact x_zret C hw hr hlk rfl h (dAt dX6_isDancer 10 rfl)
  · replace h := h.2 c1
    refine lv_iload_n hx hb (dAt dX6_isDancer 2 rfl) rfl (lv_at hl 1 rfl) ?_
    refine lv_aload_n hx hb (dAt dX6_isDancer 3 rfl) rfl (lv_at hl 0 rfl) ?_
    refine x_getr C hw fl_X6_28 (hE.1 0) (nX hE (by decide)) rfl (dAt dX6_isDancer 4 rfl) ?_
    refine x_getiN C hw fl_X6_193 (hE.1 10) (nX hE (by decide)) rfl (dAt dX6_isDancer 5 rfl) ?_
    refine lv_icmp_ge (tgt := 19) hx hb (dAt dX6_isDancer 6 rfl) (by decide) (fun c12 => ?_) (fun c12 => ?_)
    · replace h := h.1 c12
      refine lv_iconst (v := 0) hx hb (dAt dX6_isDancer 9 rfl) (by decide) ?_
      exact x_zret C hw hr hlk rfl h (dAt dX6_isDancer 10 rfl)
    · replace h := h.2 c12
      refine lv_iconst (v := 1) hx hb (dAt dX6_isDancer 7 rfl) (by decide) ?_
      refine lv_goto (tgt := 20) hx hb (dAt dX6_isDancer 8 rfl) (by decide) ?_
      exact x_zret C hw hr hlk rfl h (dAt dX6_isDancer 10 rfl)
def tX6_dancer : List (Nat × Instr × Nat) := [(0, .aload_n 0, 1), (1, .iload_n 1, 1), (2, .invokevirtual 89, 3), (5, .ifCond .ne 6, 3), (8, .bipush (-2), 2), (10, .ireturn, 1), (11, .iload_n 2, 1), (12, .tableswitch 58 0 2 #[28, 38, 48], 28), (40, .aload_n 0, 1), (41, .getfield 28, 3), (44, .getfield 92, 3), (47, .iload_n 1, 1), (48, .iaload, 1), (49, .ireturn, 1), (50, .aload_n 0, 1), (51, .getfield 28, 3), (54, .getfield 95, 3), (57, .iload_n 1, 1), (58, .iaload, 1), (59, .ireturn, 1), (60, .aload_n 0, 1), (61, .getfield 28, 3), (64, .getfield 98, 3), (67, .iload_n 1, 1), (68, .iaload, 1), (69, .ireturn, 1), (70, .bipush (-2), 2), (72, .ireturn, 1)]
theorem dX6_dancer : dOk cX6_dancer tX6_dancer = true := by decide +kernel
abbrev rX6_dancer : Room := { frames := 1, cells := 0, slots := 0, locals := 21 }
def wX6_dancer (x1 : Int32) (x2 : Int32) (σ : Mem) (Q : Int32 → Mem → Prop) : Prop := (wX6_isDancer x1 σ (fun r2 σ2 => (((¬ r2 = 0) → ((x2 = (0 : Int32) → (vp_in x1 8 ∧ (Q (σ2 11 (x1).toNatClampNeg) σ2))) ∧ (x2 = (1 : Int32) → (vp_in x1 8 ∧ (Q (σ2 12 (x1).toNatClampNeg) σ2))) ∧ (x2 = (2 : Int32) → (vp_in x1 8 ∧ (Q (σ2 13 (x1).toNatClampNeg) σ2))) ∧ ((x2).toInt < 0 ∨ 2 < (x2).toInt → (Q (-2 : Int32) σ2)))) ∧ ((r2 = 0) → (Q (-2 : Int32) σ2)))))
set_option maxHeartbeats 4000000 in
set_option maxRecDepth 100000 in
theorem kX6_dancer (l : Launch) (E : wE) (hE : wX E) (x1 : Int32) (x2 : Int32) (σ : Mem) (Q : Int32 → Mem → Prop) (h : wX6_dancer x1 x2 σ Q) : Met l yX6_dancer (Cond.code yX6_dancer cX6_dancer 3 (some .int) :: TB) rX6_dancer (wPc E σ [.ref (gE E 0), .int x1, .int x2]) (wQi E Q) 0 0 (wA E) := by
  refine wMet (by decide) hE.2.2 (Nat.le_of_ble_eq_true rfl) ?_
  intro p e s m args below meth c ls C hr hlk hl hw
  have hx := C.1.1
  have hb := C.1.2.1
  replace C : Cx p s m args c cX6_dancer 3 RX6 E (wA E) := C
  replace hl : lv_has ls 3 [(0, .ref (gE E 0)), (1, .int x1), (2, .int x2)] := hl
  unfold wX6_dancer at h
  refine lv_aload_n hx hb (dAt dX6_dancer 0 rfl) rfl (lv_at hl 0 rfl) ?_
  refine lv_iload_n hx hb (dAt dX6_dancer 1 rfl) rfl (lv_at hl 1 rfl) ?_
  refine x_calli C hw (x_runV (As := [.int x1]) (rest := []) C hw (kX6_isDancer l E hE x1 σ _ h) mtX6_isDancer lk_X6_89 (hE.1 0) (nX hE (by decide)) rfl ⟨by decide, by decide⟩ ⟨rfl, rfl⟩ rfl hl.1 rfl (Nat.le_of_ble_eq_true rfl) (dAt dX6_dancer 2 rfl) ⟨Nat.zero_le _, Nat.zero_le _⟩) (fun r2 σ2 H locs h hw => ?_)
  refine lv_if_ne (tgt := 11) hx hb (dAt dX6_dancer 3 rfl) (by decide) (fun c5 => ?_) (fun c5 => ?_)
  · replace h := h.1 c5
    refine lv_iload_n hx hb (dAt dX6_dancer 6 rfl) rfl (lv_at hl 2 rfl) ?_
    rcases swT x2 0 3 (by decide) with ⟨j12, hj12, ej12⟩ | ej12
    · match j12, hj12, ej12 with
      | 0, _, ej12 =>
        have ej12 : x2 = (0 : Int32) := ej12
        replace h := h.1 ej12
        refine lv_tableIn (off := 28) (tgt := 40) hx hb (dAt dX6_dancer 7 rfl) (by rw [ej12]; decide) (by rw [ej12]; decide) (by rw [ej12]; rfl) (by decide) ?_
        refine lv_aload_n hx hb (dAt dX6_dancer 8 rfl) rfl (lv_at hl 0 rfl) ?_
        refine x_getr C hw fl_X6_28 (hE.1 0) (nX hE (by decide)) rfl (dAt dX6_dancer 9 rfl) ?_
        refine x_getrN C hw fl_X6_92 (hE.1 10) (nX hE (by decide)) rfl (dAt dX6_dancer 10 rfl) ?_
        refine lv_iload_n hx hb (dAt dX6_dancer 11 rfl) rfl (lv_at hl 1 rfl) ?_
        obtain ⟨z48, h⟩ := h
        refine x_ild C hw (hE.1 11) (nX hE (by decide)) z48 rfl (dAt dX6_dancer 12 rfl) ?_
        exact x_iret C hw hr hlk h (dAt dX6_dancer 13 rfl)
      | 1, _, ej12 =>
        have ej12 : x2 = (1 : Int32) := ej12
        replace h := h.2.1 ej12
        refine lv_tableIn (off := 38) (tgt := 50) hx hb (dAt dX6_dancer 7 rfl) (by rw [ej12]; decide) (by rw [ej12]; decide) (by rw [ej12]; rfl) (by decide) ?_
        refine lv_aload_n hx hb (dAt dX6_dancer 14 rfl) rfl (lv_at hl 0 rfl) ?_
        refine x_getr C hw fl_X6_28 (hE.1 0) (nX hE (by decide)) rfl (dAt dX6_dancer 15 rfl) ?_
        refine x_getrN C hw fl_X6_95 (hE.1 10) (nX hE (by decide)) rfl (dAt dX6_dancer 16 rfl) ?_
        refine lv_iload_n hx hb (dAt dX6_dancer 17 rfl) rfl (lv_at hl 1 rfl) ?_
        obtain ⟨z58, h⟩ := h
        refine x_ild C hw (hE.1 12) (nX hE (by decide)) z58 rfl (dAt dX6_dancer 18 rfl) ?_
        exact x_iret C hw hr hlk h (dAt dX6_dancer 19 rfl)
      | 2, _, ej12 =>
        have ej12 : x2 = (2 : Int32) := ej12
        replace h := h.2.2.1 ej12
        refine lv_tableIn (off := 48) (tgt := 60) hx hb (dAt dX6_dancer 7 rfl) (by rw [ej12]; decide) (by rw [ej12]; decide) (by rw [ej12]; rfl) (by decide) ?_
        refine lv_aload_n hx hb (dAt dX6_dancer 20 rfl) rfl (lv_at hl 0 rfl) ?_
        refine x_getr C hw fl_X6_28 (hE.1 0) (nX hE (by decide)) rfl (dAt dX6_dancer 21 rfl) ?_
        refine x_getrN C hw fl_X6_98 (hE.1 10) (nX hE (by decide)) rfl (dAt dX6_dancer 22 rfl) ?_
        refine lv_iload_n hx hb (dAt dX6_dancer 23 rfl) rfl (lv_at hl 1 rfl) ?_
        obtain ⟨z68, h⟩ := h
        refine x_ild C hw (hE.1 13) (nX hE (by decide)) z68 rfl (dAt dX6_dancer 24 rfl) ?_
        exact x_iret C hw hr hlk h (dAt dX6_dancer 25 rfl)
      | j + 3, hj, _ => exact absurd hj (by omega)
    · replace h := h.2.2.2 ej12
      refine lv_tableOut (tgt := 70) hx hb (dAt dX6_dancer 7 rfl) ej12 (by decide) ?_
      refine lv_bipush (v := -2) hx hb (dAt dX6_dancer 26 rfl) (by decide) ?_
      exact x_iret C hw hr hlk h (dAt dX6_dancer 27 rfl)
  · replace h := h.2 c5
    refine lv_bipush (v := -2) hx hb (dAt dX6_dancer 4 rfl) (by decide) ?_
    exact x_iret C hw hr hlk h (dAt dX6_dancer 5 rfl)
def tX6_steps : List (Nat × Instr × Nat) := [(0, .iload_n 1, 1), (1, .invokestatic 101, 3), (4, .ifCond .eq 15, 3), (7, .aload_n 0, 1), (8, .getfield 28, 3), (11, .getfield 104, 3), (14, .iload_n 1, 1), (15, .iaload, 1), (16, .goto 5, 3), (19, .bipush (-2), 2), (21, .ireturn, 1)]
theorem dX6_steps : dOk cX6_steps tX6_steps = true := by decide +kernel
abbrev rX6_steps : Room := { frames := 1, cells := 0, slots := 0, locals := 20 }
def wX6_steps (x1 : Int32) (σ : Mem) (Q : Int32 → Mem → Prop) : Prop := (wX6_isBeat x1 σ (fun r1 σ1 => (((r1 = 0) → (Q (-2 : Int32) σ1)) ∧ ((¬ r1 = 0) → (vp_in x1 24 ∧ (Q (σ1 14 (x1).toNatClampNeg) σ1))))))
set_option maxHeartbeats 4000000 in
set_option maxRecDepth 100000 in
theorem kX6_steps (l : Launch) (E : wE) (hE : wX E) (x1 : Int32) (σ : Mem) (Q : Int32 → Mem → Prop) (h : wX6_steps x1 σ Q) : Met l yX6_steps (Cond.code yX6_steps cX6_steps 2 (some .int) :: TB) rX6_steps (wPc E σ [.ref (gE E 0), .int x1]) (wQi E Q) 0 0 (wA E) := by
  refine wMet (by decide) hE.2.2 (Nat.le_of_ble_eq_true rfl) ?_
  intro p e s m args below meth c ls C hr hlk hl hw
  have hx := C.1.1
  have hb := C.1.2.1
  replace C : Cx p s m args c cX6_steps 2 RX6 E (wA E) := C
  replace hl : lv_has ls 2 [(0, .ref (gE E 0)), (1, .int x1)] := hl
  unfold wX6_steps at h
  refine lv_iload_n hx hb (dAt dX6_steps 0 rfl) rfl (lv_at hl 1 rfl) ?_
  refine x_calli C hw (x_runS (As := [.int x1]) (rest := []) C hw (kX6_isBeat l E hE x1 σ _ h) mtX6_isBeat lk_X6_101 ⟨by decide, by decide⟩ ⟨rfl, rfl⟩ rfl hl.1 rfl (Nat.le_of_ble_eq_true rfl) (dAt dX6_steps 1 rfl) ⟨Nat.zero_le _, Nat.zero_le _⟩) (fun r1 σ1 H locs h hw => ?_)
  refine lv_if_eq (tgt := 19) hx hb (dAt dX6_steps 2 rfl) (by decide) (fun c4 => ?_) (fun c4 => ?_)
  · replace h := h.1 c4
    refine lv_bipush (v := -2) hx hb (dAt dX6_steps 9 rfl) (by decide) ?_
    exact x_iret C hw hr hlk h (dAt dX6_steps 10 rfl)
  · replace h := h.2 c4
    refine lv_aload_n hx hb (dAt dX6_steps 3 rfl) rfl (lv_at hl 0 rfl) ?_
    refine x_getr C hw fl_X6_28 (hE.1 0) (nX hE (by decide)) rfl (dAt dX6_steps 4 rfl) ?_
    refine x_getrN C hw fl_X6_104 (hE.1 10) (nX hE (by decide)) rfl (dAt dX6_steps 5 rfl) ?_
    refine lv_iload_n hx hb (dAt dX6_steps 6 rfl) rfl (lv_at hl 1 rfl) ?_
    obtain ⟨z15, h⟩ := h
    refine x_ild C hw (hE.1 14) (nX hE (by decide)) z15 rfl (dAt dX6_steps 7 rfl) ?_
    refine lv_goto (tgt := 21) hx hb (dAt dX6_steps 8 rfl) (by decide) ?_
    exact x_iret C hw hr hlk h (dAt dX6_steps 10 rfl)
def tX6_ribbons : List (Nat × Instr × Nat) := [(0, .iload_n 1, 1), (1, .iconst 2, 1), (2, .if_icmp .lt 9, 3), (5, .iload_n 1, 1), (6, .bipush 30, 2), (8, .if_icmp .le 6, 3), (11, .bipush (-2), 2), (13, .ireturn, 1), (14, .aload_n 0, 1), (15, .getfield 28, 3), (18, .getfield 107, 3), (21, .istore_n 2, 1), (22, .aload_n 0, 1), (23, .getfield 28, 3), (26, .iload_n 1, 1), (27, .putfield 107, 3), (30, .aload_n 0, 1), (31, .invokevirtual 108, 3), (34, .iload_n 2, 1), (35, .ireturn, 1)]
theorem dX6_ribbons : dOk cX6_ribbons tX6_ribbons = true := by decide +kernel
abbrev rX6_ribbons : Room := { frames := 1, cells := 0, slots := 0, locals := 20 }
def wX6_ribbons (x1 : Int32) (σ : Mem) (Q : Int32 → Mem → Prop) : Prop := (((x1 < (2 : Int32)) → (Q (-2 : Int32) σ)) ∧ ((¬ x1 < (2 : Int32)) → (((x1 ≤ (30 : Int32)) → (∀ x2_21 : Int32, x2_21 = (σ 10 5) → (∀ σ27 : Mem, σ27 = um σ 10 5 x1 → (wX6_forgetOutcomes  σ27 (fun σ31 => (Q x2_21 σ31)))))) ∧ ((¬ x1 ≤ (30 : Int32)) → (Q (-2 : Int32) σ)))))
set_option maxHeartbeats 4000000 in
set_option maxRecDepth 100000 in
theorem kX6_ribbons (l : Launch) (E : wE) (hE : wX E) (x1 : Int32) (σ : Mem) (Q : Int32 → Mem → Prop) (h : wX6_ribbons x1 σ Q) : Met l yX6_ribbons (Cond.code yX6_ribbons cX6_ribbons 3 (some .int) :: TB) rX6_ribbons (wPc E σ [.ref (gE E 0), .int x1]) (wQi E Q) 0 0 (wA E) := by
  refine wMet (by decide) hE.2.2 (Nat.le_of_ble_eq_true rfl) ?_
  intro p e s m args below meth c ls C hr hlk hl hw
  have hx := C.1.1
  have hb := C.1.2.1
  replace C : Cx p s m args c cX6_ribbons 3 RX6 E (wA E) := C
  replace hl : lv_has ls 3 [(0, .ref (gE E 0)), (1, .int x1)] := hl
  unfold wX6_ribbons at h
  refine lv_iload_n hx hb (dAt dX6_ribbons 0 rfl) rfl (lv_at hl 1 rfl) ?_
  refine lv_iconst (v := 2) hx hb (dAt dX6_ribbons 1 rfl) (by decide) ?_
  refine lv_icmp_lt (tgt := 11) hx hb (dAt dX6_ribbons 2 rfl) (by decide) (fun c2 => ?_) (fun c2 => ?_)
  · replace h := h.1 c2
    refine lv_bipush (v := -2) hx hb (dAt dX6_ribbons 6 rfl) (by decide) ?_
    exact x_iret C hw hr hlk h (dAt dX6_ribbons 7 rfl)
  · replace h := h.2 c2
    refine lv_iload_n hx hb (dAt dX6_ribbons 3 rfl) rfl (lv_at hl 1 rfl) ?_
    refine lv_bipush (v := 30) hx hb (dAt dX6_ribbons 4 rfl) (by decide) ?_
    refine lv_icmp_le (tgt := 14) hx hb (dAt dX6_ribbons 5 rfl) (by decide) (fun c8 => ?_) (fun c8 => ?_)
    · replace h := h.1 c8
      refine lv_aload_n hx hb (dAt dX6_ribbons 8 rfl) rfl (lv_at hl 0 rfl) ?_
      refine x_getr C hw fl_X6_28 (hE.1 0) (nX hE (by decide)) rfl (dAt dX6_ribbons 9 rfl) ?_
      refine x_getiN C hw fl_X6_107 (hE.1 10) (nX hE (by decide)) rfl (dAt dX6_ribbons 10 rfl) ?_
      refine lv_topi (fun x2_21 ex2_21 => ?_)
      replace h := h x2_21 ex2_21
      refine lv_istore_n (lv' := [(2, .int x2_21), (0, .ref (gE E 0)), (1, .int x1)]) hx hb (dAt dX6_ribbons 11 rfl) rfl hl (by decide) rfl (fun ls hl => ?_)
      refine lv_aload_n hx hb (dAt dX6_ribbons 12 rfl) rfl (lv_at hl 1 rfl) ?_
      refine x_getr C hw fl_X6_28 (hE.1 0) (nX hE (by decide)) rfl (dAt dX6_ribbons 13 rfl) ?_
      refine lv_iload_n hx hb (dAt dX6_ribbons 14 rfl) rfl (lv_at hl 2 rfl) ?_
      refine x_pfN C hw fl_X6_107 (hE.1 10) (nX hE (by decide)) rfl rfl rfl (dAt dX6_ribbons 15 rfl) (fun σ27 H locs eσ27 hw => ?_)
      replace h := h σ27 eσ27
      refine lv_aload_n hx hb (dAt dX6_ribbons 16 rfl) rfl (lv_at hl 1 rfl) ?_
      refine x_callv C hw (x_runV (As := []) (rest := []) C hw (kX6_forgetOutcomes l E hE  σ27 _ h) mtX6_forgetOutcomes lk_X6_108 (hE.1 0) (nX hE (by decide)) rfl ⟨by decide, by decide⟩ ⟨rfl, rfl⟩ rfl hl.1 rfl (Nat.le_of_ble_eq_true rfl) (dAt dX6_ribbons 17 rfl) ⟨Nat.zero_le _, Nat.zero_le _⟩) (fun σ31 H locs h hw => ?_)
      refine lv_iload_n hx hb (dAt dX6_ribbons 18 rfl) rfl (lv_at hl 0 rfl) ?_
      exact x_iret C hw hr hlk h (dAt dX6_ribbons 19 rfl)
    · replace h := h.2 c8
      refine lv_bipush (v := -2) hx hb (dAt dX6_ribbons 6 rfl) (by decide) ?_
      exact x_iret C hw hr hlk h (dAt dX6_ribbons 7 rfl)
def tX6_takeEvents : List (Nat × Instr × Nat) := [(0, .aload_n 0, 1), (1, .getfield 28, 3), (4, .iconst 1, 1), (5, .aload_n 0, 1), (6, .getfield 21, 3), (9, .getfield 115, 3), (12, .ishl, 1), (13, .iconst 1, 1), (14, .isub, 1), (15, .putfield 217, 3), (18, .aload_n 0, 1), (19, .invokevirtual 108, 3), (22, .return_, 1)]
theorem dX6_takeEvents : dOk cX6_takeEvents tX6_takeEvents = true := by decide +kernel
abbrev rX6_takeEvents : Room := { frames := 1, cells := 0, slots := 0, locals := 20 }
def wX6_takeEvents (σ : Mem) (Q : Mem → Prop) : Prop := (∀ σ15 : Mem, σ15 = um σ 10 6 (((1 : Int32) <<< ((σ 6 3) &&& 31)) - (1 : Int32)) → (wX6_forgetOutcomes  σ15 (fun σ19 => (Q σ19))))
set_option maxHeartbeats 4000000 in
set_option maxRecDepth 100000 in
theorem kX6_takeEvents (l : Launch) (E : wE) (hE : wX E) (σ : Mem) (Q : Mem → Prop) (h : wX6_takeEvents  σ Q) : Met l yX6_takeEvents (Cond.code yX6_takeEvents cX6_takeEvents 1 none :: TB) rX6_takeEvents (wPc E σ [.ref (gE E 0)]) (wQv E Q) 0 0 (wA E) := by
  refine wMet (by decide) hE.2.2 (Nat.le_of_ble_eq_true rfl) ?_
  intro p e s m args below meth c ls C hr hlk hl hw
  have hx := C.1.1
  have hb := C.1.2.1
  replace C : Cx p s m args c cX6_takeEvents 1 RX6 E (wA E) := C
  replace hl : lv_has ls 1 [(0, .ref (gE E 0))] := hl
  unfold wX6_takeEvents at h
  refine lv_aload_n hx hb (dAt dX6_takeEvents 0 rfl) rfl (lv_at hl 0 rfl) ?_
  refine x_getr C hw fl_X6_28 (hE.1 0) (nX hE (by decide)) rfl (dAt dX6_takeEvents 1 rfl) ?_
  refine lv_iconst (v := 1) hx hb (dAt dX6_takeEvents 2 rfl) (by decide) ?_
  refine lv_aload_n hx hb (dAt dX6_takeEvents 3 rfl) rfl (lv_at hl 0 rfl) ?_
  refine x_getr C hw fl_X6_21 (hE.1 0) (nX hE (by decide)) rfl (dAt dX6_takeEvents 4 rfl) ?_
  refine x_getiN C hw fl_X6_115 (hE.1 6) (nX hE (by decide)) rfl (dAt dX6_takeEvents 5 rfl) ?_
  refine lv_ishl hx hb (dAt dX6_takeEvents 6 rfl) ?_
  refine lv_iconst (v := 1) hx hb (dAt dX6_takeEvents 7 rfl) (by decide) ?_
  refine lv_isub hx hb (dAt dX6_takeEvents 8 rfl) ?_
  refine x_pfN C hw fl_X6_217 (hE.1 10) (nX hE (by decide)) rfl rfl rfl (dAt dX6_takeEvents 9 rfl) (fun σ15 H locs eσ15 hw => ?_)
  replace h := h σ15 eσ15
  refine lv_aload_n hx hb (dAt dX6_takeEvents 10 rfl) rfl (lv_at hl 0 rfl) ?_
  refine x_callv C hw (x_runV (As := []) (rest := []) C hw (kX6_forgetOutcomes l E hE  σ15 _ h) mtX6_forgetOutcomes lk_X6_108 (hE.1 0) (nX hE (by decide)) rfl ⟨by decide, by decide⟩ ⟨rfl, rfl⟩ rfl hl.1 rfl (Nat.le_of_ble_eq_true rfl) (dAt dX6_takeEvents 11 rfl) ⟨Nat.zero_le _, Nat.zero_le _⟩) (fun σ19 H locs h hw => ?_)
  exact x_vret C hw hr hlk h (dAt dX6_takeEvents 12 rfl)
def tX6_event : List (Nat × Instr × Nat) := [(0, .aload_n 0, 1), (1, .getfield 21, 3), (4, .iload_n 1, 1), (5, .iload_n 2, 1), (6, .iload_n 3, 1), (7, .invokevirtual 111, 3), (10, .ifCond .ne 6, 3), (13, .bipush (-2), 2), (15, .ireturn, 1), (16, .aload_n 0, 1), (17, .getfield 21, 3), (20, .getfield 115, 3), (23, .bipush 8, 2), (25, .if_icmp .lt 6, 3), (28, .bipush (-4), 2), (30, .ireturn, 1), (31, .aload_n 0, 1), (32, .getfield 21, 3), (35, .iload_n 1, 1), (36, .iload_n 2, 1), (37, .iload_n 3, 1), (38, .invokevirtual 118, 3), (41, .aload_n 0, 1), (42, .invokevirtual 122, 3), (45, .aload_n 0, 1), (46, .getfield 21, 3), (49, .getfield 115, 3), (52, .ireturn, 1)]
theorem dX6_event : dOk cX6_event tX6_event = true := by decide +kernel
abbrev rX6_event : Room := { frames := 2, cells := 0, slots := 0, locals := 43 }
def wX6_event (x1 : Int32) (x2 : Int32) (x3 : Int32) (σ : Mem) (Q : Int32 → Mem → Prop) : Prop := (wX1_mayBe x1 x2 x3 σ (fun r7 σ7 => (((¬ r7 = 0) → ((((σ7 6 3) < (8 : Int32)) → (wX1_put x1 x2 x3 σ7 (fun σ38 => (wX6_takeEvents  σ38 (fun σ42 => (Q (σ42 6 3) σ42)))))) ∧ ((¬ (σ7 6 3) < (8 : Int32)) → (Q (-4 : Int32) σ7)))) ∧ ((r7 = 0) → (Q (-2 : Int32) σ7)))))
set_option maxHeartbeats 4000000 in
set_option maxRecDepth 100000 in
theorem kX6_event (l : Launch) (E : wE) (hE : wX E) (x1 : Int32) (x2 : Int32) (x3 : Int32) (σ : Mem) (Q : Int32 → Mem → Prop) (h : wX6_event x1 x2 x3 σ Q) : Met l yX6_event (Cond.code yX6_event cX6_event 4 (some .int) :: TB) rX6_event (wPc E σ [.ref (gE E 0), .int x1, .int x2, .int x3]) (wQi E Q) 0 0 (wA E) := by
  refine wMet (by decide) hE.2.2 (Nat.le_of_ble_eq_true rfl) ?_
  intro p e s m args below meth c ls C hr hlk hl hw
  have hx := C.1.1
  have hb := C.1.2.1
  replace C : Cx p s m args c cX6_event 4 RX6 E (wA E) := C
  replace hl : lv_has ls 4 [(0, .ref (gE E 0)), (1, .int x1), (2, .int x2), (3, .int x3)] := hl
  unfold wX6_event at h
  refine lv_aload_n hx hb (dAt dX6_event 0 rfl) rfl (lv_at hl 0 rfl) ?_
  refine x_getr C hw fl_X6_21 (hE.1 0) (nX hE (by decide)) rfl (dAt dX6_event 1 rfl) ?_
  refine lv_iload_n hx hb (dAt dX6_event 2 rfl) rfl (lv_at hl 1 rfl) ?_
  refine lv_iload_n hx hb (dAt dX6_event 3 rfl) rfl (lv_at hl 2 rfl) ?_
  refine lv_iload_n hx hb (dAt dX6_event 4 rfl) rfl (lv_at hl 3 rfl) ?_
  refine x_calli C hw (x_runVN (As := [.int x1, .int x2, .int x3]) (rest := []) C hw (kX1_mayBe l E hE x1 x2 x3 σ _ h) mtX1_mayBe lk_X6_111 (hE.1 6) (nX hE (by decide)) rfl ⟨by decide, by decide⟩ ⟨rfl, rfl⟩ rfl hl.1 rfl (Nat.le_of_ble_eq_true rfl) (dAt dX6_event 5 rfl) ⟨Nat.zero_le _, Nat.zero_le _⟩) (fun r7 σ7 H locs h hw => ?_)
  refine lv_if_ne (tgt := 16) hx hb (dAt dX6_event 6 rfl) (by decide) (fun c10 => ?_) (fun c10 => ?_)
  · replace h := h.1 c10
    refine lv_aload_n hx hb (dAt dX6_event 9 rfl) rfl (lv_at hl 0 rfl) ?_
    refine x_getr C hw fl_X6_21 (hE.1 0) (nX hE (by decide)) rfl (dAt dX6_event 10 rfl) ?_
    refine x_getiN C hw fl_X6_115 (hE.1 6) (nX hE (by decide)) rfl (dAt dX6_event 11 rfl) ?_
    refine lv_bipush (v := 8) hx hb (dAt dX6_event 12 rfl) (by decide) ?_
    refine lv_icmp_lt (tgt := 31) hx hb (dAt dX6_event 13 rfl) (by decide) (fun c25 => ?_) (fun c25 => ?_)
    · replace h := h.1 c25
      refine lv_aload_n hx hb (dAt dX6_event 16 rfl) rfl (lv_at hl 0 rfl) ?_
      refine x_getr C hw fl_X6_21 (hE.1 0) (nX hE (by decide)) rfl (dAt dX6_event 17 rfl) ?_
      refine lv_iload_n hx hb (dAt dX6_event 18 rfl) rfl (lv_at hl 1 rfl) ?_
      refine lv_iload_n hx hb (dAt dX6_event 19 rfl) rfl (lv_at hl 2 rfl) ?_
      refine lv_iload_n hx hb (dAt dX6_event 20 rfl) rfl (lv_at hl 3 rfl) ?_
      refine x_callv C hw (x_runVN (As := [.int x1, .int x2, .int x3]) (rest := []) C hw (kX1_put l E hE x1 x2 x3 σ7 _ h) mtX1_put lk_X6_118 (hE.1 6) (nX hE (by decide)) rfl ⟨by decide, by decide⟩ ⟨rfl, rfl⟩ rfl hl.1 rfl (Nat.le_of_ble_eq_true rfl) (dAt dX6_event 21 rfl) ⟨Nat.zero_le _, Nat.zero_le _⟩) (fun σ38 H locs h hw => ?_)
      refine lv_aload_n hx hb (dAt dX6_event 22 rfl) rfl (lv_at hl 0 rfl) ?_
      refine x_callv C hw (x_runV (As := []) (rest := []) C hw (kX6_takeEvents l E hE  σ38 _ h) mtX6_takeEvents lk_X6_122 (hE.1 0) (nX hE (by decide)) rfl ⟨by decide, by decide⟩ ⟨rfl, rfl⟩ rfl hl.1 rfl (Nat.le_of_ble_eq_true rfl) (dAt dX6_event 23 rfl) ⟨Nat.zero_le _, Nat.zero_le _⟩) (fun σ42 H locs h hw => ?_)
      refine lv_aload_n hx hb (dAt dX6_event 24 rfl) rfl (lv_at hl 0 rfl) ?_
      refine x_getr C hw fl_X6_21 (hE.1 0) (nX hE (by decide)) rfl (dAt dX6_event 25 rfl) ?_
      refine x_getiN C hw fl_X6_115 (hE.1 6) (nX hE (by decide)) rfl (dAt dX6_event 26 rfl) ?_
      exact x_iret C hw hr hlk h (dAt dX6_event 27 rfl)
    · replace h := h.2 c25
      refine lv_bipush (v := -4) hx hb (dAt dX6_event 14 rfl) (by decide) ?_
      exact x_iret C hw hr hlk h (dAt dX6_event 15 rfl)
  · replace h := h.2 c10
    refine lv_bipush (v := -2) hx hb (dAt dX6_event 7 rfl) (by decide) ?_
    exact x_iret C hw hr hlk h (dAt dX6_event 8 rfl)
def tX6_back : List (Nat × Instr × Nat) := [(0, .aload_n 0, 1), (1, .getfield 21, 3), (4, .getfield 115, 3), (7, .ifCond .ne 6, 3), (10, .bipush (-3), 2), (12, .ireturn, 1), (13, .aload_n 0, 1), (14, .getfield 21, 3), (17, .dup, 1), (18, .getfield 115, 3), (21, .iconst 1, 1), (22, .isub, 1), (23, .putfield 115, 3), (26, .aload_n 0, 1), (27, .invokevirtual 122, 3), (30, .aload_n 0, 1), (31, .getfield 21, 3), (34, .getfield 115, 3), (37, .ireturn, 1)]
theorem dX6_back : dOk cX6_back tX6_back = true := by decide +kernel
abbrev rX6_back : Room := { frames := 2, cells := 0, slots := 0, locals := 40 }
def wX6_back (σ : Mem) (Q : Int32 → Mem → Prop) : Prop := (((¬ (σ 6 3) = 0) → (∀ σ23 : Mem, σ23 = um σ 6 3 ((σ 6 3) - (1 : Int32)) → (wX6_takeEvents  σ23 (fun σ27 => (Q (σ27 6 3) σ27))))) ∧ (((σ 6 3) = 0) → (Q (-3 : Int32) σ)))
set_option maxHeartbeats 4000000 in
set_option maxRecDepth 100000 in
theorem kX6_back (l : Launch) (E : wE) (hE : wX E) (σ : Mem) (Q : Int32 → Mem → Prop) (h : wX6_back  σ Q) : Met l yX6_back (Cond.code yX6_back cX6_back 1 (some .int) :: TB) rX6_back (wPc E σ [.ref (gE E 0)]) (wQi E Q) 0 0 (wA E) := by
  refine wMet (by decide) hE.2.2 (Nat.le_of_ble_eq_true rfl) ?_
  intro p e s m args below meth c ls C hr hlk hl hw
  have hx := C.1.1
  have hb := C.1.2.1
  replace C : Cx p s m args c cX6_back 1 RX6 E (wA E) := C
  replace hl : lv_has ls 1 [(0, .ref (gE E 0))] := hl
  unfold wX6_back at h
  refine lv_aload_n hx hb (dAt dX6_back 0 rfl) rfl (lv_at hl 0 rfl) ?_
  refine x_getr C hw fl_X6_21 (hE.1 0) (nX hE (by decide)) rfl (dAt dX6_back 1 rfl) ?_
  refine x_getiN C hw fl_X6_115 (hE.1 6) (nX hE (by decide)) rfl (dAt dX6_back 2 rfl) ?_
  refine lv_if_ne (tgt := 13) hx hb (dAt dX6_back 3 rfl) (by decide) (fun c7 => ?_) (fun c7 => ?_)
  · replace h := h.1 c7
    refine lv_aload_n hx hb (dAt dX6_back 6 rfl) rfl (lv_at hl 0 rfl) ?_
    refine x_getr C hw fl_X6_21 (hE.1 0) (nX hE (by decide)) rfl (dAt dX6_back 7 rfl) ?_
    refine lv_dup hx hb (dAt dX6_back 8 rfl) rfl ?_
    refine x_getiN C hw fl_X6_115 (hE.1 6) (nX hE (by decide)) rfl (dAt dX6_back 9 rfl) ?_
    refine lv_iconst (v := 1) hx hb (dAt dX6_back 10 rfl) (by decide) ?_
    refine lv_isub hx hb (dAt dX6_back 11 rfl) ?_
    refine x_pfN C hw fl_X6_115 (hE.1 6) (nX hE (by decide)) rfl rfl rfl (dAt dX6_back 12 rfl) (fun σ23 H locs eσ23 hw => ?_)
    replace h := h σ23 eσ23
    refine lv_aload_n hx hb (dAt dX6_back 13 rfl) rfl (lv_at hl 0 rfl) ?_
    refine x_callv C hw (x_runV (As := []) (rest := []) C hw (kX6_takeEvents l E hE  σ23 _ h) mtX6_takeEvents lk_X6_122 (hE.1 0) (nX hE (by decide)) rfl ⟨by decide, by decide⟩ ⟨rfl, rfl⟩ rfl hl.1 rfl (Nat.le_of_ble_eq_true rfl) (dAt dX6_back 14 rfl) ⟨Nat.zero_le _, Nat.zero_le _⟩) (fun σ27 H locs h hw => ?_)
    refine lv_aload_n hx hb (dAt dX6_back 15 rfl) rfl (lv_at hl 0 rfl) ?_
    refine x_getr C hw fl_X6_21 (hE.1 0) (nX hE (by decide)) rfl (dAt dX6_back 16 rfl) ?_
    refine x_getiN C hw fl_X6_115 (hE.1 6) (nX hE (by decide)) rfl (dAt dX6_back 17 rfl) ?_
    exact x_iret C hw hr hlk h (dAt dX6_back 18 rfl)
  · replace h := h.2 c7
    refine lv_bipush (v := -3) hx hb (dAt dX6_back 4 rfl) (by decide) ?_
    exact x_iret C hw hr hlk h (dAt dX6_back 5 rfl)
def tX6_isSheet : List (Nat × Instr × Nat) := [(0, .iload_n 0, 1), (1, .ifCond .lt 12, 3), (4, .iload_n 0, 1), (5, .iconst 4, 1), (6, .if_icmp .ge 7, 3), (9, .iconst 1, 1), (10, .goto 4, 3), (13, .iconst 0, 1), (14, .ireturn, 1)]
theorem dX6_isSheet : dOk cX6_isSheet tX6_isSheet = true := by decide +kernel
abbrev rX6_isSheet : Room := { frames := 0, cells := 0, slots := 0, locals := 0 }
def wX6_isSheet (x0 : Int32) (σ : Mem) (Q : Int32 → Mem → Prop) : Prop := (((x0 < 0) → (Q (0 : Int32) σ)) ∧ ((¬ x0 < 0) → ((((4 : Int32) ≤ x0) → (Q (0 : Int32) σ)) ∧ ((¬ (4 : Int32) ≤ x0) → (Q (1 : Int32) σ)))))
set_option maxHeartbeats 4000000 in
set_option maxRecDepth 100000 in
theorem kX6_isSheet (l : Launch) (E : wE) (hE : wX E) (x0 : Int32) (σ : Mem) (Q : Int32 → Mem → Prop) (h : wX6_isSheet x0 σ Q) : Met l yX6_isSheet (Cond.code yX6_isSheet cX6_isSheet 1 (some .boolean) :: TB) rX6_isSheet (wPc E σ [.int x0]) (wQi E Q) 0 0 (wA E) := by
  refine wMet (by decide) hE.2.2 (Nat.le_of_ble_eq_true rfl) ?_
  intro p e s m args below meth c ls C hr hlk hl hw
  have hx := C.1.1
  have hb := C.1.2.1
  replace C : Cx p s m args c cX6_isSheet 1 RX6 E (wA E) := C
  replace hl : lv_has ls 1 [(0, .int x0)] := hl
  unfold wX6_isSheet at h
  refine lv_iload_n hx hb (dAt dX6_isSheet 0 rfl) rfl (lv_at hl 0 rfl) ?_
  refine lv_if_lt (tgt := 13) hx hb (dAt dX6_isSheet 1 rfl) (by decide) (fun c1 => ?_) (fun c1 => ?_)
  · replace h := h.1 c1
    refine lv_iconst (v := 0) hx hb (dAt dX6_isSheet 7 rfl) (by decide) ?_
    exact x_zret C hw hr hlk rfl h (dAt dX6_isSheet 8 rfl)
  · replace h := h.2 c1
    refine lv_iload_n hx hb (dAt dX6_isSheet 2 rfl) rfl (lv_at hl 0 rfl) ?_
    refine lv_iconst (v := 4) hx hb (dAt dX6_isSheet 3 rfl) (by decide) ?_
    refine lv_icmp_ge (tgt := 13) hx hb (dAt dX6_isSheet 4 rfl) (by decide) (fun c6 => ?_) (fun c6 => ?_)
    · replace h := h.1 c6
      refine lv_iconst (v := 0) hx hb (dAt dX6_isSheet 7 rfl) (by decide) ?_
      exact x_zret C hw hr hlk rfl h (dAt dX6_isSheet 8 rfl)
    · replace h := h.2 c6
      refine lv_iconst (v := 1) hx hb (dAt dX6_isSheet 5 rfl) (by decide) ?_
      refine lv_goto (tgt := 14) hx hb (dAt dX6_isSheet 6 rfl) (by decide) ?_
      exact x_zret C hw hr hlk rfl h (dAt dX6_isSheet 8 rfl)
def tX6_found : List (Nat × Instr × Nat) := [(0, .aload_n 0, 1), (1, .iload_n 1, 1), (2, .putfield 278, 3), (5, .bipush (-10), 2), (7, .iload_n 1, 1), (8, .isub, 1), (9, .ireturn, 1)]
theorem dX6_found : dOk cX6_found tX6_found = true := by decide +kernel
abbrev rX6_found : Room := { frames := 0, cells := 0, slots := 0, locals := 0 }
def wX6_found (x1 : Int32) (σ : Mem) (Q : Int32 → Mem → Prop) : Prop := (∀ σ2 : Mem, σ2 = um σ 0 14 x1 → (Q ((-10 : Int32) - x1) σ2))
set_option maxHeartbeats 4000000 in
set_option maxRecDepth 100000 in
theorem kX6_found (l : Launch) (E : wE) (hE : wX E) (x1 : Int32) (σ : Mem) (Q : Int32 → Mem → Prop) (h : wX6_found x1 σ Q) : Met l yX6_found (Cond.code yX6_found cX6_found 2 (some .int) :: TB) rX6_found (wPc E σ [.ref (gE E 0), .int x1]) (wQi E Q) 0 0 (wA E) := by
  refine wMet (by decide) hE.2.2 (Nat.le_of_ble_eq_true rfl) ?_
  intro p e s m args below meth c ls C hr hlk hl hw
  have hx := C.1.1
  have hb := C.1.2.1
  replace C : Cx p s m args c cX6_found 2 RX6 E (wA E) := C
  replace hl : lv_has ls 2 [(0, .ref (gE E 0)), (1, .int x1)] := hl
  unfold wX6_found at h
  refine lv_aload_n hx hb (dAt dX6_found 0 rfl) rfl (lv_at hl 0 rfl) ?_
  refine lv_iload_n hx hb (dAt dX6_found 1 rfl) rfl (lv_at hl 1 rfl) ?_
  refine x_pf C hw fl_X6_278 (hE.1 0) (nX hE (by decide)) rfl rfl rfl (dAt dX6_found 2 rfl) (fun σ2 H locs eσ2 hw => ?_)
  replace h := h σ2 eσ2
  refine lv_bipush (v := -10) hx hb (dAt dX6_found 3 rfl) (by decide) ?_
  refine lv_iload_n hx hb (dAt dX6_found 4 rfl) rfl (lv_at hl 1 rfl) ?_
  refine lv_isub hx hb (dAt dX6_found 5 rfl) ?_
  exact x_iret C hw hr hlk h (dAt dX6_found 6 rfl)
def tX6_read : List (Nat × Instr × Nat) := [(0, .iload_n 1, 1), (1, .invokestatic 125, 3), (4, .ifCond .ne 6, 3), (7, .bipush (-2), 2), (9, .ireturn, 1), (10, .aload_n 0, 1), (11, .getfield 55, 3), (14, .iload_n 1, 1), (15, .aaload, 1), (16, .astore_n 2, 1), (17, .aload_n 2, 1), (18, .getfield 128, 3), (21, .iconst (-1), 1), (22, .if_icmp .ne 9, 3), (25, .aload_n 0, 1), (26, .iconst 1, 1), (27, .invokevirtual 131, 3), (30, .ireturn, 1), (31, .iconst 0, 1), (32, .istore_n 3, 1), (33, .iconst 0, 1), (34, .istore 4, 2), (36, .iload 4, 2), (38, .iconst 3, 1), (39, .iadd, 1), (40, .aload_n 2, 1), (41, .getfield 135, 3), (44, .if_icmp .gt 47, 3), (47, .aload_n 0, 1), (48, .aload_n 2, 1), (49, .getfield 138, 3), (52, .iload 4, 2), (54, .iaload, 1), (55, .aload_n 2, 1), (56, .getfield 138, 3), (59, .iload 4, 2), (61, .iconst 1, 1), (62, .iadd, 1), (63, .iaload, 1), (64, .aload_n 2, 1), (65, .getfield 138, 3), (68, .iload 4, 2), (70, .iconst 2, 1), (71, .iadd, 1), (72, .iaload, 1), (73, .invokevirtual 141, 3), (76, .ifCond .ge 6, 3), (79, .goto 12, 3), (82, .iinc 3 1, 3), (85, .iinc 4 3, 3), (88, .goto (-52), 3), (91, .iload_n 3, 1), (92, .ireturn, 1)]
theorem dX6_read : dOk cX6_read tX6_read = true := by decide +kernel
abbrev rX6_read : Room := { frames := 3, cells := 0, slots := 0, locals := 66 }
def wX6_read_36 (Q : Int32 → Mem → Prop) : Nat → Nat → Int32 → Int32 → Mem → Prop
  | 0, _, _, _, _ => False
  | n + 1, b2, x3, x4, σ => ((((σ b2 2) < (x4 + (3 : Int32))) → (Q x3 σ)) ∧ ((¬ (σ b2 2) < (x4 + (3 : Int32))) → (vp_in x4 60 ∧ (vp_in (x4 + (1 : Int32)) 60 ∧ (vp_in (x4 + (2 : Int32)) 60 ∧ (wX6_event (σ (b2 + 1) (x4).toNatClampNeg) (σ (b2 + 1) ((x4 + (1 : Int32))).toNatClampNeg) (σ (b2 + 1) ((x4 + (2 : Int32))).toNatClampNeg) σ (fun r73 σ73 => (((0 ≤ r73) → (wX6_read_36 Q n b2 (x3 + (1 : Int32)) (x4 + (3 : Int32)) σ73)) ∧ ((¬ 0 ≤ r73) → (Q x3 σ73))))))))))
def wX6_read (x1 : Int32) (σ : Mem) (Q : Int32 → Mem → Prop) : Prop := (wX6_isSheet x1 σ (fun r1 σ1 => (((¬ r1 = 0) → (vp_in x1 4 ∧ (((¬ (σ1 (54 + 2 * (x1).toNatClampNeg) 1) = (-1 : Int32)) → (∃ N36, wX6_read_36 Q N36 (54 + 2 * (x1).toNatClampNeg) (0 : Int32) (0 : Int32) σ1)) ∧ (((σ1 (54 + 2 * (x1).toNatClampNeg) 1) = (-1 : Int32)) → (wX6_found (1 : Int32) σ1 (fun r27 σ27 => (Q r27 σ27))))))) ∧ ((r1 = 0) → (Q (-2 : Int32) σ1)))))
set_option maxHeartbeats 4000000 in
set_option maxRecDepth 100000 in
theorem kX6_read_36 {p : Program} {l : Launch} {e : Env} {s : State} {m : MethodId} {args : Array Value} {below : List Frame} {meth : Method} {c : Code} {E : wE} (hE : wX E) (C : Cx p s m args c cX6_read 5 RX6 E (wA E)) (hr : meth.sig.returnType = (some .int)) (hlk : meth.locks = false) {Q : Int32 → Mem → Prop} : ∀ (n : Nat) (b2 : Nat) (x3 : Int32) (x4 : Int32) (σ : Mem) (hb2 : isH b2) (H : Heap) (locs : List Loc) (ls : Array Slot), wd E (wA E) s σ H locs → lv_has ls 5 [(0, .ref (gE E 0)), (2, .ref (gE E b2)), (3, .int x3), (4, .int x4)] → wX6_read_36 Q n b2 x3 x4 σ → W p l e rX6_read s m args below meth c H locs 0 0 (MQ below (wQi E Q) args s 0 0 (wA E)) (F0 m 36 ls []) := by
  have hx := C.1.1
  have hb := C.1.2.1
  intro n
  induction n with
  | zero =>
    intro b2 x3 x4 σ hb2 H locs ls hw hl h
    exact h.elim
  | succ n ih =>
    intro b2 x3 x4 σ hb2 H locs ls hw hl h
    rw [wX6_read_36] at h
    refine lv_iload hx hb (dAt dX6_read 22 rfl) (lv_at hl 3 rfl) ?_
    refine lv_iconst (v := 3) hx hb (dAt dX6_read 23 rfl) (by decide) ?_
    refine lv_iadd hx hb (dAt dX6_read 24 rfl) ?_
    refine lv_aload_n hx hb (dAt dX6_read 25 rfl) rfl (lv_at hl 1 rfl) ?_
    refine x_getiN C hw fl_X6_135 (sH hE hb2) (nH hE hb2 (by omega)) rfl (dAt dX6_read 26 rfl) ?_
    refine lv_icmp_gt (tgt := 91) hx hb (dAt dX6_read 27 rfl) (by decide) (fun c44 => ?_) (fun c44 => ?_)
    · replace h := h.1 c44
      refine lv_iload_n hx hb (dAt dX6_read 51 rfl) rfl (lv_at hl 2 rfl) ?_
      exact x_iret C hw hr hlk h (dAt dX6_read 52 rfl)
    · replace h := h.2 c44
      refine lv_aload_n hx hb (dAt dX6_read 28 rfl) rfl (lv_at hl 0 rfl) ?_
      refine lv_aload_n hx hb (dAt dX6_read 29 rfl) rfl (lv_at hl 1 rfl) ?_
      refine x_getrN C hw fl_X6_138 (sH hE hb2) (nH hE hb2 (by omega)) rfl (dAt dX6_read 30 rfl) ?_
      refine lv_iload hx hb (dAt dX6_read 31 rfl) (lv_at hl 3 rfl) ?_
      obtain ⟨z54, h⟩ := h
      refine x_ild C hw (sH_1 hE hb2) (nH hE hb2 (by omega)) z54 rfl (dAt dX6_read 32 rfl) ?_
      refine lv_aload_n hx hb (dAt dX6_read 33 rfl) rfl (lv_at hl 1 rfl) ?_
      refine x_getrN C hw fl_X6_138 (sH hE hb2) (nH hE hb2 (by omega)) rfl (dAt dX6_read 34 rfl) ?_
      refine lv_iload hx hb (dAt dX6_read 35 rfl) (lv_at hl 3 rfl) ?_
      refine lv_iconst (v := 1) hx hb (dAt dX6_read 36 rfl) (by decide) ?_
      refine lv_iadd hx hb (dAt dX6_read 37 rfl) ?_
      obtain ⟨z63, h⟩ := h
      refine x_ild C hw (sH_1 hE hb2) (nH hE hb2 (by omega)) z63 rfl (dAt dX6_read 38 rfl) ?_
      refine lv_aload_n hx hb (dAt dX6_read 39 rfl) rfl (lv_at hl 1 rfl) ?_
      refine x_getrN C hw fl_X6_138 (sH hE hb2) (nH hE hb2 (by omega)) rfl (dAt dX6_read 40 rfl) ?_
      refine lv_iload hx hb (dAt dX6_read 41 rfl) (lv_at hl 3 rfl) ?_
      refine lv_iconst (v := 2) hx hb (dAt dX6_read 42 rfl) (by decide) ?_
      refine lv_iadd hx hb (dAt dX6_read 43 rfl) ?_
      obtain ⟨z72, h⟩ := h
      refine x_ild C hw (sH_1 hE hb2) (nH hE hb2 (by omega)) z72 rfl (dAt dX6_read 44 rfl) ?_
      refine x_calli C hw (x_runV (As := [.int (σ (b2 + 1) (x4).toNatClampNeg), .int (σ (b2 + 1) ((x4 + (1 : Int32))).toNatClampNeg), .int (σ (b2 + 1) ((x4 + (2 : Int32))).toNatClampNeg)]) (rest := []) C hw (kX6_event l E hE (σ (b2 + 1) (x4).toNatClampNeg) (σ (b2 + 1) ((x4 + (1 : Int32))).toNatClampNeg) (σ (b2 + 1) ((x4 + (2 : Int32))).toNatClampNeg) σ _ h) mtX6_event lk_X6_141 (hE.1 0) (nX hE (by decide)) rfl ⟨by decide, by decide⟩ ⟨rfl, rfl⟩ rfl hl.1 rfl (Nat.le_of_ble_eq_true rfl) (dAt dX6_read 45 rfl) ⟨Nat.zero_le _, Nat.zero_le _⟩) (fun r73 σ73 H locs h hw => ?_)
      refine lv_if_ge (tgt := 82) hx hb (dAt dX6_read 46 rfl) (by decide) (fun c76 => ?_) (fun c76 => ?_)
      · replace h := h.1 c76
        refine lv_iinc (v := (x3 + (1 : Int32))) (lv' := [(3, .int (x3 + (1 : Int32))), (0, .ref (gE E 0)), (2, .ref (gE E b2)), (4, .int x4)]) hx hb (dAt dX6_read 48 rfl) hl (k := 2) rfl rfl (by decide) rfl (fun ls hl => ?_)
        refine lv_iinc (v := (x4 + (3 : Int32))) (lv' := [(4, .int (x4 + (3 : Int32))), (3, .int (x3 + (1 : Int32))), (0, .ref (gE E 0)), (2, .ref (gE E b2))]) hx hb (dAt dX6_read 49 rfl) hl (k := 3) rfl rfl (by decide) rfl (fun ls hl => ?_)
        refine lv_goto (tgt := 36) hx hb (dAt dX6_read 50 rfl) (by decide) ?_
        exact ih b2 (x3 + (1 : Int32)) (x4 + (3 : Int32)) σ73 hb2 _ _ _ hw (lv_sub hl [2, 3, 1, 0] rfl) h
      · replace h := h.2 c76
        refine lv_goto (tgt := 91) hx hb (dAt dX6_read 47 rfl) (by decide) ?_
        refine lv_iload_n hx hb (dAt dX6_read 51 rfl) rfl (lv_at hl 2 rfl) ?_
        exact x_iret C hw hr hlk h (dAt dX6_read 52 rfl)
set_option maxHeartbeats 4000000 in
set_option maxRecDepth 100000 in
theorem kX6_read (l : Launch) (E : wE) (hE : wX E) (x1 : Int32) (σ : Mem) (Q : Int32 → Mem → Prop) (h : wX6_read x1 σ Q) : Met l yX6_read (Cond.code yX6_read cX6_read 5 (some .int) :: TB) rX6_read (wPc E σ [.ref (gE E 0), .int x1]) (wQi E Q) 0 0 (wA E) := by
  refine wMet (by decide) hE.2.2 (Nat.le_of_ble_eq_true rfl) ?_
  intro p e s m args below meth c ls C hr hlk hl hw
  have hx := C.1.1
  have hb := C.1.2.1
  replace C : Cx p s m args c cX6_read 5 RX6 E (wA E) := C
  replace hl : lv_has ls 5 [(0, .ref (gE E 0)), (1, .int x1)] := hl
  unfold wX6_read at h
  refine lv_iload_n hx hb (dAt dX6_read 0 rfl) rfl (lv_at hl 1 rfl) ?_
  refine x_calli C hw (x_runS (As := [.int x1]) (rest := []) C hw (kX6_isSheet l E hE x1 σ _ h) mtX6_isSheet lk_X6_125 ⟨by decide, by decide⟩ ⟨rfl, rfl⟩ rfl hl.1 rfl (Nat.le_of_ble_eq_true rfl) (dAt dX6_read 1 rfl) ⟨Nat.zero_le _, Nat.zero_le _⟩) (fun r1 σ1 H locs h hw => ?_)
  refine lv_if_ne (tgt := 10) hx hb (dAt dX6_read 2 rfl) (by decide) (fun c4 => ?_) (fun c4 => ?_)
  · replace h := h.1 c4
    refine lv_aload_n hx hb (dAt dX6_read 5 rfl) rfl (lv_at hl 0 rfl) ?_
    refine x_getr C hw fl_X6_55 (hE.1 0) (nX hE (by decide)) rfl (dAt dX6_read 6 rfl) ?_
    refine lv_iload_n hx hb (dAt dX6_read 7 rfl) rfl (lv_at hl 1 rfl) ?_
    obtain ⟨z15, h⟩ := h
    refine x_aald C hw (hE.1 53) (nX hE (by decide)) z15 (dAt dX6_read 8 rfl) ?_
    refine lv_astore_n (lv' := [(2, .ref (gE E (54 + 2 * (x1).toNatClampNeg))), (0, .ref (gE E 0)), (1, .int x1)]) hx hb (dAt dX6_read 9 rfl) rfl hl (by decide) rfl (fun ls hl => ?_)
    refine lv_aload_n hx hb (dAt dX6_read 10 rfl) rfl (lv_at hl 0 rfl) ?_
    refine x_getiN C hw fl_X6_128 (sH hE (isH_of z15)) (nH hE (isH_of z15) (by omega)) rfl (dAt dX6_read 11 rfl) ?_
    refine lv_iconst (v := -1) hx hb (dAt dX6_read 12 rfl) (by decide) ?_
    refine lv_icmp_ne (tgt := 31) hx hb (dAt dX6_read 13 rfl) (by decide) (fun c22 => ?_) (fun c22 => ?_)
    · replace h := h.1 c22
      refine lv_iconst (v := 0) hx hb (dAt dX6_read 18 rfl) (by decide) ?_
      refine lv_istore_n (lv' := [(3, .int (0 : Int32)), (2, .ref (gE E (54 + 2 * (x1).toNatClampNeg))), (0, .ref (gE E 0)), (1, .int x1)]) hx hb (dAt dX6_read 19 rfl) rfl hl (by decide) rfl (fun ls hl => ?_)
      refine lv_iconst (v := 0) hx hb (dAt dX6_read 20 rfl) (by decide) ?_
      refine lv_istore (lv' := [(4, .int (0 : Int32)), (3, .int (0 : Int32)), (2, .ref (gE E (54 + 2 * (x1).toNatClampNeg))), (0, .ref (gE E 0)), (1, .int x1)]) hx hb (dAt dX6_read 21 rfl) hl (by decide) rfl (fun ls hl => ?_)
      obtain ⟨n36, h⟩ := h
      exact kX6_read_36 hE C hr hlk n36 (54 + 2 * (x1).toNatClampNeg) (0 : Int32) (0 : Int32) σ1 (isH_of z15) _ _ _ hw (lv_sub hl [3, 2, 1, 0] rfl) h
    · replace h := h.2 c22
      refine lv_aload_n hx hb (dAt dX6_read 14 rfl) rfl (lv_at hl 1 rfl) ?_
      refine lv_iconst (v := 1) hx hb (dAt dX6_read 15 rfl) (by decide) ?_
      refine x_calli C hw (x_runV (As := [.int (1 : Int32)]) (rest := []) C hw (kX6_found l E hE (1 : Int32) σ1 _ h) mtX6_found lk_X6_131 (hE.1 0) (nX hE (by decide)) rfl ⟨by decide, by decide⟩ ⟨rfl, rfl⟩ rfl hl.1 rfl (Nat.le_of_ble_eq_true rfl) (dAt dX6_read 16 rfl) ⟨Nat.zero_le _, Nat.zero_le _⟩) (fun r27 σ27 H locs h hw => ?_)
      exact x_iret C hw hr hlk h (dAt dX6_read 17 rfl)
  · replace h := h.2 c4
    refine lv_bipush (v := -2) hx hb (dAt dX6_read 3 rfl) (by decide) ?_
    exact x_iret C hw hr hlk h (dAt dX6_read 4 rfl)
def tX6_danced : List (Nat × Instr × Nat) := [(0, .aload_n 0, 1), (1, .getfield 388, 3), (4, .ifCond .ne 23, 3), (7, .aload_n 0, 1), (8, .getfield 38, 3), (11, .aload_n 0, 1), (12, .getfield 28, 3), (15, .aload_n 0, 1), (16, .getfield 21, 3), (19, .invokevirtual 206, 3), (22, .aload_n 0, 1), (23, .iconst 1, 1), (24, .putfield 388, 3), (27, .aload_n 0, 1), (28, .getfield 38, 3), (31, .areturn, 1)]
theorem dX6_danced : dOk cX6_danced tX6_danced = true := by decide +kernel
abbrev rX6_danced : Room := { frames := 3, cells := 0, slots := 0, locals := 94 }
def wX6_danced (σ : Mem) (Q : Mem → Prop) : Prop := (((¬ (σ 0 11) = 0) → (Q σ)) ∧ (((σ 0 11) = 0) → (wX0_play 20 10 σ (fun σ19 => (∀ σ24 : Mem, σ24 = um σ19 0 11 (1 : Int32) → (Q σ24))))))
set_option maxHeartbeats 4000000 in
set_option maxRecDepth 100000 in
theorem kX6_danced (l : Launch) (E : wE) (hE : wX E) (σ : Mem) (Q : Mem → Prop) (h : wX6_danced  σ Q) : Met l yX6_danced (Cond.code yX6_danced cX6_danced 1 (some (.object "MayPole$Dance")) :: TB) rX6_danced (wPc E σ [.ref (gE E 0)]) (wQr E 20 Q) 0 0 (wA E) := by
  refine wMet (by decide) hE.2.2 (Nat.le_of_ble_eq_true rfl) ?_
  intro p e s m args below meth c ls C hr hlk hl hw
  have hx := C.1.1
  have hb := C.1.2.1
  replace C : Cx p s m args c cX6_danced 1 RX6 E (wA E) := C
  replace hl : lv_has ls 1 [(0, .ref (gE E 0))] := hl
  unfold wX6_danced at h
  refine lv_aload_n hx hb (dAt dX6_danced 0 rfl) rfl (lv_at hl 0 rfl) ?_
  refine x_geti C hw fl_X6_388 (hE.1 0) (nX hE (by decide)) rfl (dAt dX6_danced 1 rfl) ?_
  refine lv_if_ne (tgt := 27) hx hb (dAt dX6_danced 2 rfl) (by decide) (fun c4 => ?_) (fun c4 => ?_)
  · replace h := h.1 c4
    refine lv_aload_n hx hb (dAt dX6_danced 13 rfl) rfl (lv_at hl 0 rfl) ?_
    refine x_getr C hw fl_X6_38 (hE.1 0) (nX hE (by decide)) rfl (dAt dX6_danced 14 rfl) ?_
    exact x_aret C hw hr hlk h (dAt dX6_danced 15 rfl)
  · replace h := h.2 c4
    refine lv_aload_n hx hb (dAt dX6_danced 3 rfl) rfl (lv_at hl 0 rfl) ?_
    refine x_getr C hw fl_X6_38 (hE.1 0) (nX hE (by decide)) rfl (dAt dX6_danced 4 rfl) ?_
    refine lv_aload_n hx hb (dAt dX6_danced 5 rfl) rfl (lv_at hl 0 rfl) ?_
    refine x_getr C hw fl_X6_28 (hE.1 0) (nX hE (by decide)) rfl (dAt dX6_danced 6 rfl) ?_
    refine lv_aload_n hx hb (dAt dX6_danced 7 rfl) rfl (lv_at hl 0 rfl) ?_
    refine x_getr C hw fl_X6_21 (hE.1 0) (nX hE (by decide)) rfl (dAt dX6_danced 8 rfl) ?_
    refine x_callv C hw (x_runVN (As := [.ref (gE E 10), .ref (gE E 6)]) (rest := []) C hw (kX0_play l E hE 20 isD_20 10 isS_10 σ _ h) mtX0_play lk_X6_206 (hE.1 20) (nX hE (by decide)) rfl ⟨by decide, by decide⟩ ⟨rfl, rfl⟩ rfl hl.1 rfl (Nat.le_of_ble_eq_true rfl) (dAt dX6_danced 9 rfl) ⟨Nat.zero_le _, Nat.zero_le _⟩) (fun σ19 H locs h hw => ?_)
    refine lv_aload_n hx hb (dAt dX6_danced 10 rfl) rfl (lv_at hl 0 rfl) ?_
    refine lv_iconst (v := 1) hx hb (dAt dX6_danced 11 rfl) (by decide) ?_
    refine x_pf C hw fl_X6_388 (hE.1 0) (nX hE (by decide)) rfl rfl rfl (dAt dX6_danced 12 rfl) (fun σ24 H locs eσ24 hw => ?_)
    replace h := h σ24 eσ24
    refine lv_aload_n hx hb (dAt dX6_danced 13 rfl) rfl (lv_at hl 0 rfl) ?_
    refine x_getr C hw fl_X6_38 (hE.1 0) (nX hE (by decide)) rfl (dAt dX6_danced 14 rfl) ?_
    exact x_aret C hw hr hlk h (dAt dX6_danced 15 rfl)
def tX6_at : List (Nat × Instr × Nat) := [(0, .iload_n 1, 1), (1, .invokestatic 101, 3), (4, .ifCond .eq 11, 3), (7, .aload_n 0, 1), (8, .iload_n 2, 1), (9, .invokevirtual 89, 3), (12, .ifCond .ne 6, 3), (15, .bipush (-2), 2), (17, .ireturn, 1), (18, .aload_n 0, 1), (19, .invokevirtual 145, 3), (22, .astore 4, 2), (24, .iload_n 1, 1), (25, .bipush 8, 2), (27, .imul, 1), (28, .iload_n 2, 1), (29, .iadd, 1), (30, .istore 5, 2), (32, .iload_n 3, 1), (33, .tableswitch 54 0 2 #[27, 36, 45], 27), (60, .aload 4, 2), (62, .getfield 149, 3), (65, .iload 5, 2), (67, .iaload, 1), (68, .ireturn, 1), (69, .aload 4, 2), (71, .getfield 152, 3), (74, .iload 5, 2), (76, .iaload, 1), (77, .ireturn, 1), (78, .aload 4, 2), (80, .getfield 155, 3), (83, .iload 5, 2), (85, .iaload, 1), (86, .ireturn, 1), (87, .bipush (-2), 2), (89, .ireturn, 1)]
theorem dX6_at : dOk cX6_at tX6_at = true := by decide +kernel
abbrev rX6_at : Room := { frames := 4, cells := 0, slots := 0, locals := 114 }
def wX6_at (x1 : Int32) (x2 : Int32) (x3 : Int32) (σ : Mem) (Q : Int32 → Mem → Prop) : Prop := (wX6_isBeat x1 σ (fun r1 σ1 => (((r1 = 0) → (Q (-2 : Int32) σ1)) ∧ ((¬ r1 = 0) → (wX6_isDancer x2 σ1 (fun r9 σ9 => (((¬ r9 = 0) → (wX6_danced  σ9 (fun σ19 => (∀ x5_30 : Int32, x5_30 = ((x1 * (8 : Int32)) + x2) → ((x3 = (0 : Int32) → (vp_in x5_30 192 ∧ (Q (σ19 26 (x5_30).toNatClampNeg) σ19))) ∧ (x3 = (1 : Int32) → (vp_in x5_30 192 ∧ (Q (σ19 27 (x5_30).toNatClampNeg) σ19))) ∧ (x3 = (2 : Int32) → (vp_in x5_30 192 ∧ (Q (σ19 28 (x5_30).toNatClampNeg) σ19))) ∧ ((x3).toInt < 0 ∨ 2 < (x3).toInt → (Q (-2 : Int32) σ19))))))) ∧ ((r9 = 0) → (Q (-2 : Int32) σ9)))))))))
set_option maxHeartbeats 4000000 in
set_option maxRecDepth 100000 in
theorem kX6_at (l : Launch) (E : wE) (hE : wX E) (x1 : Int32) (x2 : Int32) (x3 : Int32) (σ : Mem) (Q : Int32 → Mem → Prop) (h : wX6_at x1 x2 x3 σ Q) : Met l yX6_at (Cond.code yX6_at cX6_at 6 (some .int) :: TB) rX6_at (wPc E σ [.ref (gE E 0), .int x1, .int x2, .int x3]) (wQi E Q) 0 0 (wA E) := by
  refine wMet (by decide) hE.2.2 (Nat.le_of_ble_eq_true rfl) ?_
  intro p e s m args below meth c ls C hr hlk hl hw
  have hx := C.1.1
  have hb := C.1.2.1
  replace C : Cx p s m args c cX6_at 6 RX6 E (wA E) := C
  replace hl : lv_has ls 6 [(0, .ref (gE E 0)), (1, .int x1), (2, .int x2), (3, .int x3)] := hl
  unfold wX6_at at h
  refine lv_iload_n hx hb (dAt dX6_at 0 rfl) rfl (lv_at hl 1 rfl) ?_
  refine x_calli C hw (x_runS (As := [.int x1]) (rest := []) C hw (kX6_isBeat l E hE x1 σ _ h) mtX6_isBeat lk_X6_101 ⟨by decide, by decide⟩ ⟨rfl, rfl⟩ rfl hl.1 rfl (Nat.le_of_ble_eq_true rfl) (dAt dX6_at 1 rfl) ⟨Nat.zero_le _, Nat.zero_le _⟩) (fun r1 σ1 H locs h hw => ?_)
  refine lv_if_eq (tgt := 15) hx hb (dAt dX6_at 2 rfl) (by decide) (fun c4 => ?_) (fun c4 => ?_)
  · replace h := h.1 c4
    refine lv_bipush (v := -2) hx hb (dAt dX6_at 7 rfl) (by decide) ?_
    exact x_iret C hw hr hlk h (dAt dX6_at 8 rfl)
  · replace h := h.2 c4
    refine lv_aload_n hx hb (dAt dX6_at 3 rfl) rfl (lv_at hl 0 rfl) ?_
    refine lv_iload_n hx hb (dAt dX6_at 4 rfl) rfl (lv_at hl 2 rfl) ?_
    refine x_calli C hw (x_runV (As := [.int x2]) (rest := []) C hw (kX6_isDancer l E hE x2 σ1 _ h) mtX6_isDancer lk_X6_89 (hE.1 0) (nX hE (by decide)) rfl ⟨by decide, by decide⟩ ⟨rfl, rfl⟩ rfl hl.1 rfl (Nat.le_of_ble_eq_true rfl) (dAt dX6_at 5 rfl) ⟨Nat.zero_le _, Nat.zero_le _⟩) (fun r9 σ9 H locs h hw => ?_)
    refine lv_if_ne (tgt := 18) hx hb (dAt dX6_at 6 rfl) (by decide) (fun c12 => ?_) (fun c12 => ?_)
    · replace h := h.1 c12
      refine lv_aload_n hx hb (dAt dX6_at 9 rfl) rfl (lv_at hl 0 rfl) ?_
      refine x_callr C hw (x_runV (As := []) (rest := []) C hw (kX6_danced l E hE  σ9 _ h) mtX6_danced lk_X6_145 (hE.1 0) (nX hE (by decide)) rfl ⟨by decide, by decide⟩ ⟨rfl, rfl⟩ rfl hl.1 rfl (Nat.le_of_ble_eq_true rfl) (dAt dX6_at 10 rfl) ⟨Nat.zero_le _, Nat.zero_le _⟩) (fun σ19 H locs h hw => ?_)
      refine lv_astore (lv' := [(4, .ref (gE E 20)), (0, .ref (gE E 0)), (1, .int x1), (2, .int x2), (3, .int x3)]) hx hb (dAt dX6_at 11 rfl) hl (by decide) rfl (fun ls hl => ?_)
      refine lv_iload_n hx hb (dAt dX6_at 12 rfl) rfl (lv_at hl 2 rfl) ?_
      refine lv_bipush (v := 8) hx hb (dAt dX6_at 13 rfl) (by decide) ?_
      refine lv_imul hx hb (dAt dX6_at 14 rfl) ?_
      refine lv_iload_n hx hb (dAt dX6_at 15 rfl) rfl (lv_at hl 3 rfl) ?_
      refine lv_iadd hx hb (dAt dX6_at 16 rfl) ?_
      refine lv_topi (fun x5_30 ex5_30 => ?_)
      replace h := h x5_30 ex5_30
      refine lv_istore (lv' := [(5, .int x5_30), (4, .ref (gE E 20)), (0, .ref (gE E 0)), (1, .int x1), (2, .int x2), (3, .int x3)]) hx hb (dAt dX6_at 17 rfl) hl (by decide) rfl (fun ls hl => ?_)
      refine lv_iload_n hx hb (dAt dX6_at 18 rfl) rfl (lv_at hl 5 rfl) ?_
      rcases swT x3 0 3 (by decide) with ⟨j33, hj33, ej33⟩ | ej33
      · match j33, hj33, ej33 with
        | 0, _, ej33 =>
          have ej33 : x3 = (0 : Int32) := ej33
          replace h := h.1 ej33
          refine lv_tableIn (off := 27) (tgt := 60) hx hb (dAt dX6_at 19 rfl) (by rw [ej33]; decide) (by rw [ej33]; decide) (by rw [ej33]; rfl) (by decide) ?_
          refine lv_aload hx hb (dAt dX6_at 20 rfl) (lv_at hl 1 rfl) ?_
          refine x_getrN C hw fl_X6_149 (hE.1 20) (nX hE (by decide)) rfl (dAt dX6_at 21 rfl) ?_
          refine lv_iload hx hb (dAt dX6_at 22 rfl) (lv_at hl 0 rfl) ?_
          obtain ⟨z67, h⟩ := h
          refine x_ild C hw (hE.1 26) (nX hE (by decide)) z67 rfl (dAt dX6_at 23 rfl) ?_
          exact x_iret C hw hr hlk h (dAt dX6_at 24 rfl)
        | 1, _, ej33 =>
          have ej33 : x3 = (1 : Int32) := ej33
          replace h := h.2.1 ej33
          refine lv_tableIn (off := 36) (tgt := 69) hx hb (dAt dX6_at 19 rfl) (by rw [ej33]; decide) (by rw [ej33]; decide) (by rw [ej33]; rfl) (by decide) ?_
          refine lv_aload hx hb (dAt dX6_at 25 rfl) (lv_at hl 1 rfl) ?_
          refine x_getrN C hw fl_X6_152 (hE.1 20) (nX hE (by decide)) rfl (dAt dX6_at 26 rfl) ?_
          refine lv_iload hx hb (dAt dX6_at 27 rfl) (lv_at hl 0 rfl) ?_
          obtain ⟨z76, h⟩ := h
          refine x_ild C hw (hE.1 27) (nX hE (by decide)) z76 rfl (dAt dX6_at 28 rfl) ?_
          exact x_iret C hw hr hlk h (dAt dX6_at 29 rfl)
        | 2, _, ej33 =>
          have ej33 : x3 = (2 : Int32) := ej33
          replace h := h.2.2.1 ej33
          refine lv_tableIn (off := 45) (tgt := 78) hx hb (dAt dX6_at 19 rfl) (by rw [ej33]; decide) (by rw [ej33]; decide) (by rw [ej33]; rfl) (by decide) ?_
          refine lv_aload hx hb (dAt dX6_at 30 rfl) (lv_at hl 1 rfl) ?_
          refine x_getrN C hw fl_X6_155 (hE.1 20) (nX hE (by decide)) rfl (dAt dX6_at 31 rfl) ?_
          refine lv_iload hx hb (dAt dX6_at 32 rfl) (lv_at hl 0 rfl) ?_
          obtain ⟨z85, h⟩ := h
          refine x_ild C hw (hE.1 28) (nX hE (by decide)) z85 rfl (dAt dX6_at 33 rfl) ?_
          exact x_iret C hw hr hlk h (dAt dX6_at 34 rfl)
        | j + 3, hj, _ => exact absurd hj (by omega)
      · replace h := h.2.2.2 ej33
        refine lv_tableOut (tgt := 87) hx hb (dAt dX6_at 19 rfl) ej33 (by decide) ?_
        refine lv_bipush (v := -2) hx hb (dAt dX6_at 35 rfl) (by decide) ?_
        exact x_iret C hw hr hlk h (dAt dX6_at 36 rfl)
    · replace h := h.2 c12
      refine lv_bipush (v := -2) hx hb (dAt dX6_at 7 rfl) (by decide) ?_
      exact x_iret C hw hr hlk h (dAt dX6_at 8 rfl)
def tX6_isEither : List (Nat × Instr × Nat) := [(0, .iload_n 0, 1), (1, .ifCond .eq 8, 3), (4, .iload_n 0, 1), (5, .iconst 1, 1), (6, .if_icmp .ne 7, 3), (9, .iconst 1, 1), (10, .goto 4, 3), (13, .iconst 0, 1), (14, .ireturn, 1)]
theorem dX6_isEither : dOk cX6_isEither tX6_isEither = true := by decide +kernel
abbrev rX6_isEither : Room := { frames := 0, cells := 0, slots := 0, locals := 0 }
def wX6_isEither (x0 : Int32) (σ : Mem) (Q : Int32 → Mem → Prop) : Prop := (((x0 = 0) → (Q (1 : Int32) σ)) ∧ ((¬ x0 = 0) → (((¬ x0 = (1 : Int32)) → (Q (0 : Int32) σ)) ∧ ((x0 = (1 : Int32)) → (Q (1 : Int32) σ)))))
set_option maxHeartbeats 4000000 in
set_option maxRecDepth 100000 in
theorem kX6_isEither (l : Launch) (E : wE) (hE : wX E) (x0 : Int32) (σ : Mem) (Q : Int32 → Mem → Prop) (h : wX6_isEither x0 σ Q) : Met l yX6_isEither (Cond.code yX6_isEither cX6_isEither 1 (some .boolean) :: TB) rX6_isEither (wPc E σ [.int x0]) (wQi E Q) 0 0 (wA E) := by
  refine wMet (by decide) hE.2.2 (Nat.le_of_ble_eq_true rfl) ?_
  intro p e s m args below meth c ls C hr hlk hl hw
  have hx := C.1.1
  have hb := C.1.2.1
  replace C : Cx p s m args c cX6_isEither 1 RX6 E (wA E) := C
  replace hl : lv_has ls 1 [(0, .int x0)] := hl
  unfold wX6_isEither at h
  refine lv_iload_n hx hb (dAt dX6_isEither 0 rfl) rfl (lv_at hl 0 rfl) ?_
  refine lv_if_eq (tgt := 9) hx hb (dAt dX6_isEither 1 rfl) (by decide) (fun c1 => ?_) (fun c1 => ?_)
  · replace h := h.1 c1
    refine lv_iconst (v := 1) hx hb (dAt dX6_isEither 5 rfl) (by decide) ?_
    refine lv_goto (tgt := 14) hx hb (dAt dX6_isEither 6 rfl) (by decide) ?_
    exact x_zret C hw hr hlk rfl h (dAt dX6_isEither 8 rfl)
  · replace h := h.2 c1
    refine lv_iload_n hx hb (dAt dX6_isEither 2 rfl) rfl (lv_at hl 0 rfl) ?_
    refine lv_iconst (v := 1) hx hb (dAt dX6_isEither 3 rfl) (by decide) ?_
    refine lv_icmp_ne (tgt := 13) hx hb (dAt dX6_isEither 4 rfl) (by decide) (fun c6 => ?_) (fun c6 => ?_)
    · replace h := h.1 c6
      refine lv_iconst (v := 0) hx hb (dAt dX6_isEither 7 rfl) (by decide) ?_
      exact x_zret C hw hr hlk rfl h (dAt dX6_isEither 8 rfl)
    · replace h := h.2 c6
      refine lv_iconst (v := 1) hx hb (dAt dX6_isEither 5 rfl) (by decide) ?_
      refine lv_goto (tgt := 14) hx hb (dAt dX6_isEither 6 rfl) (by decide) ?_
      exact x_zret C hw hr hlk rfl h (dAt dX6_isEither 8 rfl)
def tX6_high : List (Nat × Instr × Nat) := [(0, .iload_n 1, 1), (1, .invokestatic 101, 3), (4, .ifCond .eq 10, 3), (7, .iload_n 2, 1), (8, .invokestatic 158, 3), (11, .ifCond .ne 6, 3), (14, .bipush (-2), 2), (16, .ireturn, 1), (17, .iload_n 2, 1), (18, .ifCond .ne 15, 3), (21, .aload_n 0, 1), (22, .invokevirtual 145, 3), (25, .getfield 161, 3), (28, .iload_n 1, 1), (29, .iaload, 1), (30, .goto 12, 3), (33, .aload_n 0, 1), (34, .invokevirtual 145, 3), (37, .getfield 164, 3), (40, .iload_n 1, 1), (41, .iaload, 1), (42, .ireturn, 1)]
theorem dX6_high : dOk cX6_high tX6_high = true := by decide +kernel
abbrev rX6_high : Room := { frames := 4, cells := 0, slots := 0, locals := 114 }
def wX6_high (x1 : Int32) (x2 : Int32) (σ : Mem) (Q : Int32 → Mem → Prop) : Prop := (wX6_isBeat x1 σ (fun r1 σ1 => (((r1 = 0) → (Q (-2 : Int32) σ1)) ∧ ((¬ r1 = 0) → (wX6_isEither x2 σ1 (fun r8 σ8 => (((¬ r8 = 0) → (((¬ x2 = 0) → (wX6_danced  σ8 (fun σ34 => (vp_in x1 24 ∧ (Q (σ34 30 (x1).toNatClampNeg) σ34))))) ∧ ((x2 = 0) → (wX6_danced  σ8 (fun σ22 => (vp_in x1 24 ∧ (Q (σ22 29 (x1).toNatClampNeg) σ22))))))) ∧ ((r8 = 0) → (Q (-2 : Int32) σ8)))))))))
set_option maxHeartbeats 4000000 in
set_option maxRecDepth 100000 in
theorem kX6_high (l : Launch) (E : wE) (hE : wX E) (x1 : Int32) (x2 : Int32) (σ : Mem) (Q : Int32 → Mem → Prop) (h : wX6_high x1 x2 σ Q) : Met l yX6_high (Cond.code yX6_high cX6_high 3 (some .int) :: TB) rX6_high (wPc E σ [.ref (gE E 0), .int x1, .int x2]) (wQi E Q) 0 0 (wA E) := by
  refine wMet (by decide) hE.2.2 (Nat.le_of_ble_eq_true rfl) ?_
  intro p e s m args below meth c ls C hr hlk hl hw
  have hx := C.1.1
  have hb := C.1.2.1
  replace C : Cx p s m args c cX6_high 3 RX6 E (wA E) := C
  replace hl : lv_has ls 3 [(0, .ref (gE E 0)), (1, .int x1), (2, .int x2)] := hl
  unfold wX6_high at h
  refine lv_iload_n hx hb (dAt dX6_high 0 rfl) rfl (lv_at hl 1 rfl) ?_
  refine x_calli C hw (x_runS (As := [.int x1]) (rest := []) C hw (kX6_isBeat l E hE x1 σ _ h) mtX6_isBeat lk_X6_101 ⟨by decide, by decide⟩ ⟨rfl, rfl⟩ rfl hl.1 rfl (Nat.le_of_ble_eq_true rfl) (dAt dX6_high 1 rfl) ⟨Nat.zero_le _, Nat.zero_le _⟩) (fun r1 σ1 H locs h hw => ?_)
  refine lv_if_eq (tgt := 14) hx hb (dAt dX6_high 2 rfl) (by decide) (fun c4 => ?_) (fun c4 => ?_)
  · replace h := h.1 c4
    refine lv_bipush (v := -2) hx hb (dAt dX6_high 6 rfl) (by decide) ?_
    exact x_iret C hw hr hlk h (dAt dX6_high 7 rfl)
  · replace h := h.2 c4
    refine lv_iload_n hx hb (dAt dX6_high 3 rfl) rfl (lv_at hl 2 rfl) ?_
    refine x_calli C hw (x_runS (As := [.int x2]) (rest := []) C hw (kX6_isEither l E hE x2 σ1 _ h) mtX6_isEither lk_X6_158 ⟨by decide, by decide⟩ ⟨rfl, rfl⟩ rfl hl.1 rfl (Nat.le_of_ble_eq_true rfl) (dAt dX6_high 4 rfl) ⟨Nat.zero_le _, Nat.zero_le _⟩) (fun r8 σ8 H locs h hw => ?_)
    refine lv_if_ne (tgt := 17) hx hb (dAt dX6_high 5 rfl) (by decide) (fun c11 => ?_) (fun c11 => ?_)
    · replace h := h.1 c11
      refine lv_iload_n hx hb (dAt dX6_high 8 rfl) rfl (lv_at hl 2 rfl) ?_
      refine lv_if_ne (tgt := 33) hx hb (dAt dX6_high 9 rfl) (by decide) (fun c18 => ?_) (fun c18 => ?_)
      · replace h := h.1 c18
        refine lv_aload_n hx hb (dAt dX6_high 16 rfl) rfl (lv_at hl 0 rfl) ?_
        refine x_callr C hw (x_runV (As := []) (rest := []) C hw (kX6_danced l E hE  σ8 _ h) mtX6_danced lk_X6_145 (hE.1 0) (nX hE (by decide)) rfl ⟨by decide, by decide⟩ ⟨rfl, rfl⟩ rfl hl.1 rfl (Nat.le_of_ble_eq_true rfl) (dAt dX6_high 17 rfl) ⟨Nat.zero_le _, Nat.zero_le _⟩) (fun σ34 H locs h hw => ?_)
        refine x_getrN C hw fl_X6_164 (hE.1 20) (nX hE (by decide)) rfl (dAt dX6_high 18 rfl) ?_
        refine lv_iload_n hx hb (dAt dX6_high 19 rfl) rfl (lv_at hl 1 rfl) ?_
        obtain ⟨z41, h⟩ := h
        refine x_ild C hw (hE.1 30) (nX hE (by decide)) z41 rfl (dAt dX6_high 20 rfl) ?_
        exact x_iret C hw hr hlk h (dAt dX6_high 21 rfl)
      · replace h := h.2 c18
        refine lv_aload_n hx hb (dAt dX6_high 10 rfl) rfl (lv_at hl 0 rfl) ?_
        refine x_callr C hw (x_runV (As := []) (rest := []) C hw (kX6_danced l E hE  σ8 _ h) mtX6_danced lk_X6_145 (hE.1 0) (nX hE (by decide)) rfl ⟨by decide, by decide⟩ ⟨rfl, rfl⟩ rfl hl.1 rfl (Nat.le_of_ble_eq_true rfl) (dAt dX6_high 11 rfl) ⟨Nat.zero_le _, Nat.zero_le _⟩) (fun σ22 H locs h hw => ?_)
        refine x_getrN C hw fl_X6_161 (hE.1 20) (nX hE (by decide)) rfl (dAt dX6_high 12 rfl) ?_
        refine lv_iload_n hx hb (dAt dX6_high 13 rfl) rfl (lv_at hl 1 rfl) ?_
        obtain ⟨z29, h⟩ := h
        refine x_ild C hw (hE.1 29) (nX hE (by decide)) z29 rfl (dAt dX6_high 14 rfl) ?_
        refine lv_goto (tgt := 42) hx hb (dAt dX6_high 15 rfl) (by decide) ?_
        exact x_iret C hw hr hlk h (dAt dX6_high 21 rfl)
    · replace h := h.2 c11
      refine lv_bipush (v := -2) hx hb (dAt dX6_high 6 rfl) (by decide) ?_
      exact x_iret C hw hr hlk h (dAt dX6_high 7 rfl)
def tX6_weave : List (Nat × Instr × Nat) := [(0, .iload_n 1, 1), (1, .ifCond .lt 18, 3), (4, .iload_n 1, 1), (5, .bipush 120, 2), (7, .if_icmp .ge 12, 3), (10, .iload_n 2, 1), (11, .ifCond .lt 8, 3), (14, .iload_n 2, 1), (15, .iconst 2, 1), (16, .if_icmp .le 6, 3), (19, .bipush (-2), 2), (21, .ireturn, 1), (22, .aload_n 0, 1), (23, .invokevirtual 145, 3), (26, .astore_n 3, 1), (27, .iload_n 1, 1), (28, .aload_n 3, 1), (29, .getfield 167, 3), (32, .if_icmp .lt 5, 3), (35, .iconst (-1), 1), (36, .ireturn, 1), (37, .iload_n 2, 1), (38, .lookupswitch 40 #[(0, 26), (1, 33)], 26), (64, .aload_n 3, 1), (65, .getfield 170, 3), (68, .iload_n 1, 1), (69, .iaload, 1), (70, .ireturn, 1), (71, .aload_n 3, 1), (72, .getfield 173, 3), (75, .iload_n 1, 1), (76, .iaload, 1), (77, .ireturn, 1), (78, .aload_n 3, 1), (79, .getfield 176, 3), (82, .iload_n 1, 1), (83, .iaload, 1), (84, .ireturn, 1)]
theorem dX6_weave : dOk cX6_weave tX6_weave = true := by decide +kernel
abbrev rX6_weave : Room := { frames := 4, cells := 0, slots := 0, locals := 114 }
def wX6_weave (x1 : Int32) (x2 : Int32) (σ : Mem) (Q : Int32 → Mem → Prop) : Prop := (((x1 < 0) → (Q (-2 : Int32) σ)) ∧ ((¬ x1 < 0) → ((((120 : Int32) ≤ x1) → (Q (-2 : Int32) σ)) ∧ ((¬ (120 : Int32) ≤ x1) → (((x2 < 0) → (Q (-2 : Int32) σ)) ∧ ((¬ x2 < 0) → (((x2 ≤ (2 : Int32)) → (wX6_danced  σ (fun σ23 => (((x1 < (σ23 20 16)) → ((x2 = (0 : Int32) → (vp_in x1 120 ∧ (Q (σ23 31 (x1).toNatClampNeg) σ23))) ∧ (x2 = (1 : Int32) → (vp_in x1 120 ∧ (Q (σ23 32 (x1).toNatClampNeg) σ23))) ∧ (¬ x2 = (0 : Int32) → ¬ x2 = (1 : Int32) → (vp_in x1 120 ∧ (Q (σ23 33 (x1).toNatClampNeg) σ23))))) ∧ ((¬ x1 < (σ23 20 16)) → (Q (-1 : Int32) σ23)))))) ∧ ((¬ x2 ≤ (2 : Int32)) → (Q (-2 : Int32) σ)))))))))
set_option maxHeartbeats 4000000 in
set_option maxRecDepth 100000 in
theorem kX6_weave (l : Launch) (E : wE) (hE : wX E) (x1 : Int32) (x2 : Int32) (σ : Mem) (Q : Int32 → Mem → Prop) (h : wX6_weave x1 x2 σ Q) : Met l yX6_weave (Cond.code yX6_weave cX6_weave 4 (some .int) :: TB) rX6_weave (wPc E σ [.ref (gE E 0), .int x1, .int x2]) (wQi E Q) 0 0 (wA E) := by
  refine wMet (by decide) hE.2.2 (Nat.le_of_ble_eq_true rfl) ?_
  intro p e s m args below meth c ls C hr hlk hl hw
  have hx := C.1.1
  have hb := C.1.2.1
  replace C : Cx p s m args c cX6_weave 4 RX6 E (wA E) := C
  replace hl : lv_has ls 4 [(0, .ref (gE E 0)), (1, .int x1), (2, .int x2)] := hl
  unfold wX6_weave at h
  refine lv_iload_n hx hb (dAt dX6_weave 0 rfl) rfl (lv_at hl 1 rfl) ?_
  refine lv_if_lt (tgt := 19) hx hb (dAt dX6_weave 1 rfl) (by decide) (fun c1 => ?_) (fun c1 => ?_)
  · replace h := h.1 c1
    refine lv_bipush (v := -2) hx hb (dAt dX6_weave 10 rfl) (by decide) ?_
    exact x_iret C hw hr hlk h (dAt dX6_weave 11 rfl)
  · replace h := h.2 c1
    refine lv_iload_n hx hb (dAt dX6_weave 2 rfl) rfl (lv_at hl 1 rfl) ?_
    refine lv_bipush (v := 120) hx hb (dAt dX6_weave 3 rfl) (by decide) ?_
    refine lv_icmp_ge (tgt := 19) hx hb (dAt dX6_weave 4 rfl) (by decide) (fun c7 => ?_) (fun c7 => ?_)
    · replace h := h.1 c7
      refine lv_bipush (v := -2) hx hb (dAt dX6_weave 10 rfl) (by decide) ?_
      exact x_iret C hw hr hlk h (dAt dX6_weave 11 rfl)
    · replace h := h.2 c7
      refine lv_iload_n hx hb (dAt dX6_weave 5 rfl) rfl (lv_at hl 2 rfl) ?_
      refine lv_if_lt (tgt := 19) hx hb (dAt dX6_weave 6 rfl) (by decide) (fun c11 => ?_) (fun c11 => ?_)
      · replace h := h.1 c11
        refine lv_bipush (v := -2) hx hb (dAt dX6_weave 10 rfl) (by decide) ?_
        exact x_iret C hw hr hlk h (dAt dX6_weave 11 rfl)
      · replace h := h.2 c11
        refine lv_iload_n hx hb (dAt dX6_weave 7 rfl) rfl (lv_at hl 2 rfl) ?_
        refine lv_iconst (v := 2) hx hb (dAt dX6_weave 8 rfl) (by decide) ?_
        refine lv_icmp_le (tgt := 22) hx hb (dAt dX6_weave 9 rfl) (by decide) (fun c16 => ?_) (fun c16 => ?_)
        · replace h := h.1 c16
          refine lv_aload_n hx hb (dAt dX6_weave 12 rfl) rfl (lv_at hl 0 rfl) ?_
          refine x_callr C hw (x_runV (As := []) (rest := []) C hw (kX6_danced l E hE  σ _ h) mtX6_danced lk_X6_145 (hE.1 0) (nX hE (by decide)) rfl ⟨by decide, by decide⟩ ⟨rfl, rfl⟩ rfl hl.1 rfl (Nat.le_of_ble_eq_true rfl) (dAt dX6_weave 13 rfl) ⟨Nat.zero_le _, Nat.zero_le _⟩) (fun σ23 H locs h hw => ?_)
          refine lv_astore_n (lv' := [(3, .ref (gE E 20)), (0, .ref (gE E 0)), (1, .int x1), (2, .int x2)]) hx hb (dAt dX6_weave 14 rfl) rfl hl (by decide) rfl (fun ls hl => ?_)
          refine lv_iload_n hx hb (dAt dX6_weave 15 rfl) rfl (lv_at hl 2 rfl) ?_
          refine lv_aload_n hx hb (dAt dX6_weave 16 rfl) rfl (lv_at hl 0 rfl) ?_
          refine x_getiN C hw fl_X6_167 (hE.1 20) (nX hE (by decide)) rfl (dAt dX6_weave 17 rfl) ?_
          refine lv_icmp_lt (tgt := 37) hx hb (dAt dX6_weave 18 rfl) (by decide) (fun c32 => ?_) (fun c32 => ?_)
          · replace h := h.1 c32
            refine lv_iload_n hx hb (dAt dX6_weave 21 rfl) rfl (lv_at hl 3 rfl) ?_
            by_cases u38_0 : x2 = (0 : Int32)
            · replace h := h.1 u38_0
              refine lv_lookup (off := 26) (tgt := 64) hx hb (dAt dX6_weave 22 rfl) (by decide) (by rw [u38_0]; rfl) (by decide) ?_
              refine lv_aload_n hx hb (dAt dX6_weave 23 rfl) rfl (lv_at hl 0 rfl) ?_
              refine x_getrN C hw fl_X6_170 (hE.1 20) (nX hE (by decide)) rfl (dAt dX6_weave 24 rfl) ?_
              refine lv_iload_n hx hb (dAt dX6_weave 25 rfl) rfl (lv_at hl 2 rfl) ?_
              obtain ⟨z69, h⟩ := h
              refine x_ild C hw (hE.1 31) (nX hE (by decide)) z69 rfl (dAt dX6_weave 26 rfl) ?_
              exact x_iret C hw hr hlk h (dAt dX6_weave 27 rfl)
            by_cases u38_1 : x2 = (1 : Int32)
            · replace h := h.2.1 u38_1
              refine lv_lookup (off := 33) (tgt := 71) hx hb (dAt dX6_weave 22 rfl) (by decide) (by rw [u38_1]; rfl) (by decide) ?_
              refine lv_aload_n hx hb (dAt dX6_weave 28 rfl) rfl (lv_at hl 0 rfl) ?_
              refine x_getrN C hw fl_X6_173 (hE.1 20) (nX hE (by decide)) rfl (dAt dX6_weave 29 rfl) ?_
              refine lv_iload_n hx hb (dAt dX6_weave 30 rfl) rfl (lv_at hl 2 rfl) ?_
              obtain ⟨z76, h⟩ := h
              refine x_ild C hw (hE.1 32) (nX hE (by decide)) z76 rfl (dAt dX6_weave 31 rfl) ?_
              exact x_iret C hw hr hlk h (dAt dX6_weave 32 rfl)
            replace h := h.2.2 u38_0 u38_1
            refine lv_lookup (off := 40) (tgt := 78) hx hb (dAt dX6_weave 22 rfl) (by decide) ((lv_osw (a := 0) u38_0 (by decide)).trans ((lv_osw (a := 1) u38_1 (by decide)).trans rfl)) (by decide) ?_
            refine lv_aload_n hx hb (dAt dX6_weave 33 rfl) rfl (lv_at hl 0 rfl) ?_
            refine x_getrN C hw fl_X6_176 (hE.1 20) (nX hE (by decide)) rfl (dAt dX6_weave 34 rfl) ?_
            refine lv_iload_n hx hb (dAt dX6_weave 35 rfl) rfl (lv_at hl 2 rfl) ?_
            obtain ⟨z83, h⟩ := h
            refine x_ild C hw (hE.1 33) (nX hE (by decide)) z83 rfl (dAt dX6_weave 36 rfl) ?_
            exact x_iret C hw hr hlk h (dAt dX6_weave 37 rfl)
          · replace h := h.2 c32
            refine lv_iconst (v := -1) hx hb (dAt dX6_weave 19 rfl) (by decide) ?_
            exact x_iret C hw hr hlk h (dAt dX6_weave 20 rfl)
        · replace h := h.2 c16
          refine lv_bipush (v := -2) hx hb (dAt dX6_weave 10 rfl) (by decide) ?_
          exact x_iret C hw hr hlk h (dAt dX6_weave 11 rfl)
def tX6_shows : List (Nat × Instr × Nat) := [(0, .iload_n 1, 1), (1, .ifCond .lt 9, 3), (4, .iload_n 1, 1), (5, .bipush 10, 2), (7, .if_icmp .lt 6, 3), (10, .bipush (-2), 2), (12, .ireturn, 1), (13, .aload_n 0, 1), (14, .invokevirtual 145, 3), (17, .astore_n 2, 1), (18, .iconst 0, 1), (19, .istore_n 3, 1), (20, .iconst 0, 1), (21, .istore 4, 2), (23, .iload 4, 2), (25, .aload_n 2, 1), (26, .getfield 167, 3), (29, .if_icmp .ge 31, 3), (32, .aload_n 0, 1), (33, .getfield 28, 3), (36, .getfield 98, 3), (39, .aload_n 2, 1), (40, .getfield 170, 3), (43, .iload 4, 2), (45, .iaload, 1), (46, .iaload, 1), (47, .iload_n 1, 1), (48, .if_icmp .ne 6, 3), (51, .iinc 3 1, 3), (54, .iinc 4 1, 3), (57, .goto (-34), 3), (60, .iload_n 3, 1), (61, .ireturn, 1)]
theorem dX6_shows : dOk cX6_shows tX6_shows = true := by decide +kernel
abbrev rX6_shows : Room := { frames := 4, cells := 0, slots := 0, locals := 114 }
def wX6_shows_23 (Q : Int32 → Mem → Prop) : Nat → Int32 → Int32 → Int32 → Mem → Prop
  | 0, _, _, _, _ => False
  | n + 1, x1, x3, x4, σ => ((((σ 20 16) ≤ x4) → (Q x3 σ)) ∧ ((¬ (σ 20 16) ≤ x4) → (vp_in x4 120 ∧ (vp_in (σ 31 (x4).toNatClampNeg) 8 ∧ (((¬ (σ 13 ((σ 31 (x4).toNatClampNeg)).toNatClampNeg) = x1) → (wX6_shows_23 Q n x1 x3 (x4 + (1 : Int32)) σ)) ∧ (((σ 13 ((σ 31 (x4).toNatClampNeg)).toNatClampNeg) = x1) → (wX6_shows_23 Q n x1 (x3 + (1 : Int32)) (x4 + (1 : Int32)) σ)))))))
def wX6_shows (x1 : Int32) (σ : Mem) (Q : Int32 → Mem → Prop) : Prop := (((x1 < 0) → (Q (-2 : Int32) σ)) ∧ ((¬ x1 < 0) → (((x1 < (10 : Int32)) → (wX6_danced  σ (fun σ14 => (∃ N23, wX6_shows_23 Q N23 x1 (0 : Int32) (0 : Int32) σ14)))) ∧ ((¬ x1 < (10 : Int32)) → (Q (-2 : Int32) σ)))))
set_option maxHeartbeats 4000000 in
set_option maxRecDepth 100000 in
theorem kX6_shows_23 {p : Program} {l : Launch} {e : Env} {s : State} {m : MethodId} {args : Array Value} {below : List Frame} {meth : Method} {c : Code} {E : wE} (hE : wX E) (C : Cx p s m args c cX6_shows 5 RX6 E (wA E)) (hr : meth.sig.returnType = (some .int)) (hlk : meth.locks = false) {Q : Int32 → Mem → Prop} : ∀ (n : Nat) (x1 : Int32) (x3 : Int32) (x4 : Int32) (σ : Mem) (H : Heap) (locs : List Loc) (ls : Array Slot), wd E (wA E) s σ H locs → lv_has ls 5 [(0, .ref (gE E 0)), (1, .int x1), (2, .ref (gE E 20)), (3, .int x3), (4, .int x4)] → wX6_shows_23 Q n x1 x3 x4 σ → W p l e rX6_shows s m args below meth c H locs 0 0 (MQ below (wQi E Q) args s 0 0 (wA E)) (F0 m 23 ls []) := by
  have hx := C.1.1
  have hb := C.1.2.1
  intro n
  induction n with
  | zero =>
    intro x1 x3 x4 σ  H locs ls hw hl h
    exact h.elim
  | succ n ih =>
    intro x1 x3 x4 σ  H locs ls hw hl h
    rw [wX6_shows_23] at h
    refine lv_iload hx hb (dAt dX6_shows 14 rfl) (lv_at hl 4 rfl) ?_
    refine lv_aload_n hx hb (dAt dX6_shows 15 rfl) rfl (lv_at hl 2 rfl) ?_
    refine x_getiN C hw fl_X6_167 (hE.1 20) (nX hE (by decide)) rfl (dAt dX6_shows 16 rfl) ?_
    refine lv_icmp_ge (tgt := 60) hx hb (dAt dX6_shows 17 rfl) (by decide) (fun c29 => ?_) (fun c29 => ?_)
    · replace h := h.1 c29
      refine lv_iload_n hx hb (dAt dX6_shows 31 rfl) rfl (lv_at hl 3 rfl) ?_
      exact x_iret C hw hr hlk h (dAt dX6_shows 32 rfl)
    · replace h := h.2 c29
      refine lv_aload_n hx hb (dAt dX6_shows 18 rfl) rfl (lv_at hl 0 rfl) ?_
      refine x_getr C hw fl_X6_28 (hE.1 0) (nX hE (by decide)) rfl (dAt dX6_shows 19 rfl) ?_
      refine x_getrN C hw fl_X6_98 (hE.1 10) (nX hE (by decide)) rfl (dAt dX6_shows 20 rfl) ?_
      refine lv_aload_n hx hb (dAt dX6_shows 21 rfl) rfl (lv_at hl 2 rfl) ?_
      refine x_getrN C hw fl_X6_170 (hE.1 20) (nX hE (by decide)) rfl (dAt dX6_shows 22 rfl) ?_
      refine lv_iload hx hb (dAt dX6_shows 23 rfl) (lv_at hl 4 rfl) ?_
      obtain ⟨z45, h⟩ := h
      refine x_ild C hw (hE.1 31) (nX hE (by decide)) z45 rfl (dAt dX6_shows 24 rfl) ?_
      obtain ⟨z46, h⟩ := h
      refine x_ild C hw (hE.1 13) (nX hE (by decide)) z46 rfl (dAt dX6_shows 25 rfl) ?_
      refine lv_iload_n hx hb (dAt dX6_shows 26 rfl) rfl (lv_at hl 1 rfl) ?_
      refine lv_icmp_ne (tgt := 54) hx hb (dAt dX6_shows 27 rfl) (by decide) (fun c48 => ?_) (fun c48 => ?_)
      · replace h := h.1 c48
        refine lv_iinc (v := (x4 + (1 : Int32))) (lv' := [(4, .int (x4 + (1 : Int32))), (0, .ref (gE E 0)), (1, .int x1), (2, .ref (gE E 20)), (3, .int x3)]) hx hb (dAt dX6_shows 29 rfl) hl (k := 4) rfl rfl (by decide) rfl (fun ls hl => ?_)
        refine lv_goto (tgt := 23) hx hb (dAt dX6_shows 30 rfl) (by decide) ?_
        exact ih x1 x3 (x4 + (1 : Int32)) σ  _ _ _ hw (lv_sub hl [1, 2, 3, 4, 0] rfl) h
      · replace h := h.2 c48
        refine lv_iinc (v := (x3 + (1 : Int32))) (lv' := [(3, .int (x3 + (1 : Int32))), (0, .ref (gE E 0)), (1, .int x1), (2, .ref (gE E 20)), (4, .int x4)]) hx hb (dAt dX6_shows 28 rfl) hl (k := 3) rfl rfl (by decide) rfl (fun ls hl => ?_)
        refine lv_iinc (v := (x4 + (1 : Int32))) (lv' := [(4, .int (x4 + (1 : Int32))), (3, .int (x3 + (1 : Int32))), (0, .ref (gE E 0)), (1, .int x1), (2, .ref (gE E 20))]) hx hb (dAt dX6_shows 29 rfl) hl (k := 4) rfl rfl (by decide) rfl (fun ls hl => ?_)
        refine lv_goto (tgt := 23) hx hb (dAt dX6_shows 30 rfl) (by decide) ?_
        exact ih x1 (x3 + (1 : Int32)) (x4 + (1 : Int32)) σ  _ _ _ hw (lv_sub hl [2, 3, 4, 1, 0] rfl) h
set_option maxHeartbeats 4000000 in
set_option maxRecDepth 100000 in
theorem kX6_shows (l : Launch) (E : wE) (hE : wX E) (x1 : Int32) (σ : Mem) (Q : Int32 → Mem → Prop) (h : wX6_shows x1 σ Q) : Met l yX6_shows (Cond.code yX6_shows cX6_shows 5 (some .int) :: TB) rX6_shows (wPc E σ [.ref (gE E 0), .int x1]) (wQi E Q) 0 0 (wA E) := by
  refine wMet (by decide) hE.2.2 (Nat.le_of_ble_eq_true rfl) ?_
  intro p e s m args below meth c ls C hr hlk hl hw
  have hx := C.1.1
  have hb := C.1.2.1
  replace C : Cx p s m args c cX6_shows 5 RX6 E (wA E) := C
  replace hl : lv_has ls 5 [(0, .ref (gE E 0)), (1, .int x1)] := hl
  unfold wX6_shows at h
  refine lv_iload_n hx hb (dAt dX6_shows 0 rfl) rfl (lv_at hl 1 rfl) ?_
  refine lv_if_lt (tgt := 10) hx hb (dAt dX6_shows 1 rfl) (by decide) (fun c1 => ?_) (fun c1 => ?_)
  · replace h := h.1 c1
    refine lv_bipush (v := -2) hx hb (dAt dX6_shows 5 rfl) (by decide) ?_
    exact x_iret C hw hr hlk h (dAt dX6_shows 6 rfl)
  · replace h := h.2 c1
    refine lv_iload_n hx hb (dAt dX6_shows 2 rfl) rfl (lv_at hl 1 rfl) ?_
    refine lv_bipush (v := 10) hx hb (dAt dX6_shows 3 rfl) (by decide) ?_
    refine lv_icmp_lt (tgt := 13) hx hb (dAt dX6_shows 4 rfl) (by decide) (fun c7 => ?_) (fun c7 => ?_)
    · replace h := h.1 c7
      refine lv_aload_n hx hb (dAt dX6_shows 7 rfl) rfl (lv_at hl 0 rfl) ?_
      refine x_callr C hw (x_runV (As := []) (rest := []) C hw (kX6_danced l E hE  σ _ h) mtX6_danced lk_X6_145 (hE.1 0) (nX hE (by decide)) rfl ⟨by decide, by decide⟩ ⟨rfl, rfl⟩ rfl hl.1 rfl (Nat.le_of_ble_eq_true rfl) (dAt dX6_shows 8 rfl) ⟨Nat.zero_le _, Nat.zero_le _⟩) (fun σ14 H locs h hw => ?_)
      refine lv_astore_n (lv' := [(2, .ref (gE E 20)), (0, .ref (gE E 0)), (1, .int x1)]) hx hb (dAt dX6_shows 9 rfl) rfl hl (by decide) rfl (fun ls hl => ?_)
      refine lv_iconst (v := 0) hx hb (dAt dX6_shows 10 rfl) (by decide) ?_
      refine lv_istore_n (lv' := [(3, .int (0 : Int32)), (2, .ref (gE E 20)), (0, .ref (gE E 0)), (1, .int x1)]) hx hb (dAt dX6_shows 11 rfl) rfl hl (by decide) rfl (fun ls hl => ?_)
      refine lv_iconst (v := 0) hx hb (dAt dX6_shows 12 rfl) (by decide) ?_
      refine lv_istore (lv' := [(4, .int (0 : Int32)), (3, .int (0 : Int32)), (2, .ref (gE E 20)), (0, .ref (gE E 0)), (1, .int x1)]) hx hb (dAt dX6_shows 13 rfl) hl (by decide) rfl (fun ls hl => ?_)
      obtain ⟨n23, h⟩ := h
      exact kX6_shows_23 hE C hr hlk n23 x1 (0 : Int32) (0 : Int32) σ14  _ _ _ hw (lv_sub hl [3, 4, 2, 1, 0] rfl) h
    · replace h := h.2 c7
      refine lv_bipush (v := -2) hx hb (dAt dX6_shows 5 rfl) (by decide) ?_
      exact x_iret C hw hr hlk h (dAt dX6_shows 6 rfl)
def tX6_sum : List (Nat × Instr × Nat) := [(0, .iload_n 1, 1), (1, .tableswitch 51 0 2 #[27, 35, 43], 27), (28, .aload_n 0, 1), (29, .invokevirtual 145, 3), (32, .invokevirtual 179, 3), (35, .ireturn, 1), (36, .aload_n 0, 1), (37, .invokevirtual 145, 3), (40, .getfield 183, 3), (43, .ireturn, 1), (44, .aload_n 0, 1), (45, .invokevirtual 145, 3), (48, .getfield 186, 3), (51, .ireturn, 1), (52, .bipush (-2), 2), (54, .ireturn, 1)]
theorem dX6_sum : dOk cX6_sum tX6_sum = true := by decide +kernel
abbrev rX6_sum : Room := { frames := 4, cells := 0, slots := 0, locals := 114 }
def wX6_sum (x1 : Int32) (σ : Mem) (Q : Int32 → Mem → Prop) : Prop := ((x1 = (0 : Int32) → (wX6_danced  σ (fun σ29 => (wX0_allMet 20 σ29 (fun r32 σ32 => (Q r32 σ32)))))) ∧ (x1 = (1 : Int32) → (wX6_danced  σ (fun σ37 => (Q (σ37 20 17) σ37)))) ∧ (x1 = (2 : Int32) → (wX6_danced  σ (fun σ45 => (Q (σ45 20 18) σ45)))) ∧ ((x1).toInt < 0 ∨ 2 < (x1).toInt → (Q (-2 : Int32) σ)))
set_option maxHeartbeats 4000000 in
set_option maxRecDepth 100000 in
theorem kX6_sum (l : Launch) (E : wE) (hE : wX E) (x1 : Int32) (σ : Mem) (Q : Int32 → Mem → Prop) (h : wX6_sum x1 σ Q) : Met l yX6_sum (Cond.code yX6_sum cX6_sum 2 (some .int) :: TB) rX6_sum (wPc E σ [.ref (gE E 0), .int x1]) (wQi E Q) 0 0 (wA E) := by
  refine wMet (by decide) hE.2.2 (Nat.le_of_ble_eq_true rfl) ?_
  intro p e s m args below meth c ls C hr hlk hl hw
  have hx := C.1.1
  have hb := C.1.2.1
  replace C : Cx p s m args c cX6_sum 2 RX6 E (wA E) := C
  replace hl : lv_has ls 2 [(0, .ref (gE E 0)), (1, .int x1)] := hl
  unfold wX6_sum at h
  refine lv_iload_n hx hb (dAt dX6_sum 0 rfl) rfl (lv_at hl 1 rfl) ?_
  rcases swT x1 0 3 (by decide) with ⟨j1, hj1, ej1⟩ | ej1
  · match j1, hj1, ej1 with
    | 0, _, ej1 =>
      have ej1 : x1 = (0 : Int32) := ej1
      replace h := h.1 ej1
      refine lv_tableIn (off := 27) (tgt := 28) hx hb (dAt dX6_sum 1 rfl) (by rw [ej1]; decide) (by rw [ej1]; decide) (by rw [ej1]; rfl) (by decide) ?_
      refine lv_aload_n hx hb (dAt dX6_sum 2 rfl) rfl (lv_at hl 0 rfl) ?_
      refine x_callr C hw (x_runV (As := []) (rest := []) C hw (kX6_danced l E hE  σ _ h) mtX6_danced lk_X6_145 (hE.1 0) (nX hE (by decide)) rfl ⟨by decide, by decide⟩ ⟨rfl, rfl⟩ rfl hl.1 rfl (Nat.le_of_ble_eq_true rfl) (dAt dX6_sum 3 rfl) ⟨Nat.zero_le _, Nat.zero_le _⟩) (fun σ29 H locs h hw => ?_)
      refine x_calli C hw (x_runVN (As := []) (rest := []) C hw (kX0_allMet l E hE 20 isD_20 σ29 _ h) mtX0_allMet lk_X6_179 (hE.1 20) (nX hE (by decide)) rfl ⟨by decide, by decide⟩ ⟨rfl, rfl⟩ rfl hl.1 rfl (Nat.le_of_ble_eq_true rfl) (dAt dX6_sum 4 rfl) ⟨Nat.zero_le _, Nat.zero_le _⟩) (fun r32 σ32 H locs h hw => ?_)
      exact x_iret C hw hr hlk h (dAt dX6_sum 5 rfl)
    | 1, _, ej1 =>
      have ej1 : x1 = (1 : Int32) := ej1
      replace h := h.2.1 ej1
      refine lv_tableIn (off := 35) (tgt := 36) hx hb (dAt dX6_sum 1 rfl) (by rw [ej1]; decide) (by rw [ej1]; decide) (by rw [ej1]; rfl) (by decide) ?_
      refine lv_aload_n hx hb (dAt dX6_sum 6 rfl) rfl (lv_at hl 0 rfl) ?_
      refine x_callr C hw (x_runV (As := []) (rest := []) C hw (kX6_danced l E hE  σ _ h) mtX6_danced lk_X6_145 (hE.1 0) (nX hE (by decide)) rfl ⟨by decide, by decide⟩ ⟨rfl, rfl⟩ rfl hl.1 rfl (Nat.le_of_ble_eq_true rfl) (dAt dX6_sum 7 rfl) ⟨Nat.zero_le _, Nat.zero_le _⟩) (fun σ37 H locs h hw => ?_)
      refine x_getiN C hw fl_X6_183 (hE.1 20) (nX hE (by decide)) rfl (dAt dX6_sum 8 rfl) ?_
      exact x_iret C hw hr hlk h (dAt dX6_sum 9 rfl)
    | 2, _, ej1 =>
      have ej1 : x1 = (2 : Int32) := ej1
      replace h := h.2.2.1 ej1
      refine lv_tableIn (off := 43) (tgt := 44) hx hb (dAt dX6_sum 1 rfl) (by rw [ej1]; decide) (by rw [ej1]; decide) (by rw [ej1]; rfl) (by decide) ?_
      refine lv_aload_n hx hb (dAt dX6_sum 10 rfl) rfl (lv_at hl 0 rfl) ?_
      refine x_callr C hw (x_runV (As := []) (rest := []) C hw (kX6_danced l E hE  σ _ h) mtX6_danced lk_X6_145 (hE.1 0) (nX hE (by decide)) rfl ⟨by decide, by decide⟩ ⟨rfl, rfl⟩ rfl hl.1 rfl (Nat.le_of_ble_eq_true rfl) (dAt dX6_sum 11 rfl) ⟨Nat.zero_le _, Nat.zero_le _⟩) (fun σ45 H locs h hw => ?_)
      refine x_getiN C hw fl_X6_186 (hE.1 20) (nX hE (by decide)) rfl (dAt dX6_sum 12 rfl) ?_
      exact x_iret C hw hr hlk h (dAt dX6_sum 13 rfl)
    | j + 3, hj, _ => exact absurd hj (by omega)
  · replace h := h.2.2.2 ej1
    refine lv_tableOut (tgt := 52) hx hb (dAt dX6_sum 1 rfl) ej1 (by decide) ?_
    refine lv_bipush (v := -2) hx hb (dAt dX6_sum 14 rfl) (by decide) ?_
    exact x_iret C hw hr hlk h (dAt dX6_sum 15 rfl)
def tX6_run : List (Nat × Instr × Nat) := [(0, .iload_n 1, 1), (1, .invokestatic 158, 3), (4, .ifCond .eq 21, 3), (7, .aload_n 0, 1), (8, .invokevirtual 145, 3), (11, .aload_n 0, 1), (12, .getfield 28, 3), (15, .getfield 98, 3), (18, .iload_n 1, 1), (19, .invokevirtual 189, 3), (22, .goto 5, 3), (25, .bipush (-2), 2), (27, .ireturn, 1)]
theorem dX6_run : dOk cX6_run tX6_run = true := by decide +kernel
abbrev rX6_run : Room := { frames := 4, cells := 0, slots := 0, locals := 114 }
def wX6_run (x1 : Int32) (σ : Mem) (Q : Int32 → Mem → Prop) : Prop := (wX6_isEither x1 σ (fun r1 σ1 => (((r1 = 0) → (Q (-2 : Int32) σ1)) ∧ ((¬ r1 = 0) → (wX6_danced  σ1 (fun σ8 => (wX0_longestRun 20 13 8 x1 σ8 (fun r19 σ19 => (Q r19 σ19)))))))))
set_option maxHeartbeats 4000000 in
set_option maxRecDepth 100000 in
theorem kX6_run (l : Launch) (E : wE) (hE : wX E) (x1 : Int32) (σ : Mem) (Q : Int32 → Mem → Prop) (h : wX6_run x1 σ Q) : Met l yX6_run (Cond.code yX6_run cX6_run 2 (some .int) :: TB) rX6_run (wPc E σ [.ref (gE E 0), .int x1]) (wQi E Q) 0 0 (wA E) := by
  refine wMet (by decide) hE.2.2 (Nat.le_of_ble_eq_true rfl) ?_
  intro p e s m args below meth c ls C hr hlk hl hw
  have hx := C.1.1
  have hb := C.1.2.1
  replace C : Cx p s m args c cX6_run 2 RX6 E (wA E) := C
  replace hl : lv_has ls 2 [(0, .ref (gE E 0)), (1, .int x1)] := hl
  unfold wX6_run at h
  refine lv_iload_n hx hb (dAt dX6_run 0 rfl) rfl (lv_at hl 1 rfl) ?_
  refine x_calli C hw (x_runS (As := [.int x1]) (rest := []) C hw (kX6_isEither l E hE x1 σ _ h) mtX6_isEither lk_X6_158 ⟨by decide, by decide⟩ ⟨rfl, rfl⟩ rfl hl.1 rfl (Nat.le_of_ble_eq_true rfl) (dAt dX6_run 1 rfl) ⟨Nat.zero_le _, Nat.zero_le _⟩) (fun r1 σ1 H locs h hw => ?_)
  refine lv_if_eq (tgt := 25) hx hb (dAt dX6_run 2 rfl) (by decide) (fun c4 => ?_) (fun c4 => ?_)
  · replace h := h.1 c4
    refine lv_bipush (v := -2) hx hb (dAt dX6_run 11 rfl) (by decide) ?_
    exact x_iret C hw hr hlk h (dAt dX6_run 12 rfl)
  · replace h := h.2 c4
    refine lv_aload_n hx hb (dAt dX6_run 3 rfl) rfl (lv_at hl 0 rfl) ?_
    refine x_callr C hw (x_runV (As := []) (rest := []) C hw (kX6_danced l E hE  σ1 _ h) mtX6_danced lk_X6_145 (hE.1 0) (nX hE (by decide)) rfl ⟨by decide, by decide⟩ ⟨rfl, rfl⟩ rfl hl.1 rfl (Nat.le_of_ble_eq_true rfl) (dAt dX6_run 4 rfl) ⟨Nat.zero_le _, Nat.zero_le _⟩) (fun σ8 H locs h hw => ?_)
    refine lv_aload_n hx hb (dAt dX6_run 5 rfl) rfl (lv_at hl 0 rfl) ?_
    refine x_getr C hw fl_X6_28 (hE.1 0) (nX hE (by decide)) rfl (dAt dX6_run 6 rfl) ?_
    refine x_getrN C hw fl_X6_98 (hE.1 10) (nX hE (by decide)) rfl (dAt dX6_run 7 rfl) ?_
    refine lv_iload_n hx hb (dAt dX6_run 8 rfl) rfl (lv_at hl 1 rfl) ?_
    refine x_calli C hw (x_runVN (As := [.ref (gE E 13), .int x1]) (rest := []) C hw (kX0_longestRun l E hE 20 isD_20 13 8 (hE.1 13) (nX hE (by decide)) x1 σ8 _ h) mtX0_longestRun lk_X6_189 (hE.1 20) (nX hE (by decide)) rfl ⟨by decide, by decide⟩ ⟨rfl, rfl⟩ rfl hl.1 rfl (Nat.le_of_ble_eq_true rfl) (dAt dX6_run 9 rfl) ⟨Nat.zero_le _, Nat.zero_le _⟩) (fun r19 σ19 H locs h hw => ?_)
    refine lv_goto (tgt := 27) hx hb (dAt dX6_run 10 rfl) (by decide) ?_
    exact x_iret C hw hr hlk h (dAt dX6_run 12 rfl)
def tX6_bare : List (Nat × Instr × Nat) := [(0, .aload_n 0, 1), (1, .invokevirtual 145, 3), (4, .astore_n 1, 1), (5, .bipush 23, 2), (7, .istore_n 2, 1), (8, .iload_n 2, 1), (9, .ifCond .lt 20, 3), (12, .aload_n 1, 1), (13, .getfield 161, 3), (16, .iload_n 2, 1), (17, .iaload, 1), (18, .ifCond .ne 5, 3), (21, .iload_n 2, 1), (22, .ireturn, 1), (23, .iinc 2 (-1), 3), (26, .goto (-18), 3), (29, .iconst (-1), 1), (30, .ireturn, 1)]
theorem dX6_bare : dOk cX6_bare tX6_bare = true := by decide +kernel
abbrev rX6_bare : Room := { frames := 4, cells := 0, slots := 0, locals := 114 }
def wX6_bare_8 (Q : Int32 → Mem → Prop) : Nat → Int32 → Mem → Prop
  | 0, _, _ => False
  | n + 1, x2, σ => (((x2 < 0) → (Q (-1 : Int32) σ)) ∧ ((¬ x2 < 0) → (vp_in x2 24 ∧ (((¬ (σ 29 (x2).toNatClampNeg) = 0) → (wX6_bare_8 Q n (x2 + (-1 : Int32)) σ)) ∧ (((σ 29 (x2).toNatClampNeg) = 0) → (Q x2 σ))))))
def wX6_bare (σ : Mem) (Q : Int32 → Mem → Prop) : Prop := (wX6_danced  σ (fun σ1 => (∃ N8, wX6_bare_8 Q N8 (23 : Int32) σ1)))
set_option maxHeartbeats 4000000 in
set_option maxRecDepth 100000 in
theorem kX6_bare_8 {p : Program} {l : Launch} {e : Env} {s : State} {m : MethodId} {args : Array Value} {below : List Frame} {meth : Method} {c : Code} {E : wE} (hE : wX E) (C : Cx p s m args c cX6_bare 3 RX6 E (wA E)) (hr : meth.sig.returnType = (some .int)) (hlk : meth.locks = false) {Q : Int32 → Mem → Prop} : ∀ (n : Nat) (x2 : Int32) (σ : Mem) (H : Heap) (locs : List Loc) (ls : Array Slot), wd E (wA E) s σ H locs → lv_has ls 3 [(1, .ref (gE E 20)), (2, .int x2)] → wX6_bare_8 Q n x2 σ → W p l e rX6_bare s m args below meth c H locs 0 0 (MQ below (wQi E Q) args s 0 0 (wA E)) (F0 m 8 ls []) := by
  have hx := C.1.1
  have hb := C.1.2.1
  intro n
  induction n with
  | zero =>
    intro x2 σ  H locs ls hw hl h
    exact h.elim
  | succ n ih =>
    intro x2 σ  H locs ls hw hl h
    rw [wX6_bare_8] at h
    refine lv_iload_n hx hb (dAt dX6_bare 5 rfl) rfl (lv_at hl 1 rfl) ?_
    refine lv_if_lt (tgt := 29) hx hb (dAt dX6_bare 6 rfl) (by decide) (fun c9 => ?_) (fun c9 => ?_)
    · replace h := h.1 c9
      refine lv_iconst (v := -1) hx hb (dAt dX6_bare 16 rfl) (by decide) ?_
      exact x_iret C hw hr hlk h (dAt dX6_bare 17 rfl)
    · replace h := h.2 c9
      refine lv_aload_n hx hb (dAt dX6_bare 7 rfl) rfl (lv_at hl 0 rfl) ?_
      refine x_getrN C hw fl_X6_161 (hE.1 20) (nX hE (by decide)) rfl (dAt dX6_bare 8 rfl) ?_
      refine lv_iload_n hx hb (dAt dX6_bare 9 rfl) rfl (lv_at hl 1 rfl) ?_
      obtain ⟨z17, h⟩ := h
      refine x_ild C hw (hE.1 29) (nX hE (by decide)) z17 rfl (dAt dX6_bare 10 rfl) ?_
      refine lv_if_ne (tgt := 23) hx hb (dAt dX6_bare 11 rfl) (by decide) (fun c18 => ?_) (fun c18 => ?_)
      · replace h := h.1 c18
        refine lv_iinc (v := (x2 + (-1 : Int32))) (lv' := [(2, .int (x2 + (-1 : Int32))), (1, .ref (gE E 20))]) hx hb (dAt dX6_bare 14 rfl) hl (k := 1) rfl rfl (by decide) rfl (fun ls hl => ?_)
        refine lv_goto (tgt := 8) hx hb (dAt dX6_bare 15 rfl) (by decide) ?_
        exact ih (x2 + (-1 : Int32)) σ  _ _ _ hw (lv_sub hl [1, 0] rfl) h
      · replace h := h.2 c18
        refine lv_iload_n hx hb (dAt dX6_bare 12 rfl) rfl (lv_at hl 1 rfl) ?_
        exact x_iret C hw hr hlk h (dAt dX6_bare 13 rfl)
set_option maxHeartbeats 4000000 in
set_option maxRecDepth 100000 in
theorem kX6_bare (l : Launch) (E : wE) (hE : wX E) (σ : Mem) (Q : Int32 → Mem → Prop) (h : wX6_bare  σ Q) : Met l yX6_bare (Cond.code yX6_bare cX6_bare 3 (some .int) :: TB) rX6_bare (wPc E σ [.ref (gE E 0)]) (wQi E Q) 0 0 (wA E) := by
  refine wMet (by decide) hE.2.2 (Nat.le_of_ble_eq_true rfl) ?_
  intro p e s m args below meth c ls C hr hlk hl hw
  have hx := C.1.1
  have hb := C.1.2.1
  replace C : Cx p s m args c cX6_bare 3 RX6 E (wA E) := C
  replace hl : lv_has ls 3 [(0, .ref (gE E 0))] := hl
  unfold wX6_bare at h
  refine lv_aload_n hx hb (dAt dX6_bare 0 rfl) rfl (lv_at hl 0 rfl) ?_
  refine x_callr C hw (x_runV (As := []) (rest := []) C hw (kX6_danced l E hE  σ _ h) mtX6_danced lk_X6_145 (hE.1 0) (nX hE (by decide)) rfl ⟨by decide, by decide⟩ ⟨rfl, rfl⟩ rfl hl.1 rfl (Nat.le_of_ble_eq_true rfl) (dAt dX6_bare 1 rfl) ⟨Nat.zero_le _, Nat.zero_le _⟩) (fun σ1 H locs h hw => ?_)
  refine lv_astore_n (lv' := [(1, .ref (gE E 20)), (0, .ref (gE E 0))]) hx hb (dAt dX6_bare 2 rfl) rfl hl (by decide) rfl (fun ls hl => ?_)
  refine lv_bipush (v := 23) hx hb (dAt dX6_bare 3 rfl) (by decide) ?_
  refine lv_istore_n (lv' := [(2, .int (23 : Int32)), (1, .ref (gE E 20)), (0, .ref (gE E 0))]) hx hb (dAt dX6_bare 4 rfl) rfl hl (by decide) rfl (fun ls hl => ?_)
  obtain ⟨n8, h⟩ := h
  exact kX6_bare_8 hE C hr hlk n8 (23 : Int32) σ1  _ _ _ hw (lv_sub hl [1, 0] rfl) h
def tX6_top : List (Nat × Instr × Nat) := [(0, .aload_n 0, 1), (1, .invokevirtual 145, 3), (4, .astore_n 1, 1), (5, .iconst (-1), 1), (6, .istore_n 2, 1), (7, .iconst 0, 1), (8, .istore_n 3, 1), (9, .iconst 0, 1), (10, .istore 4, 2), (12, .iload 4, 2), (14, .aload_n 0, 1), (15, .getfield 28, 3), (18, .getfield 193, 3), (21, .if_icmp .ge 29, 3), (24, .aload_n 1, 1), (25, .iload 4, 2), (27, .invokevirtual 196, 3), (30, .istore 5, 2), (32, .iload 5, 2), (34, .iload_n 3, 1), (35, .if_icmp .le 9, 3), (38, .iload 5, 2), (40, .istore_n 3, 1), (41, .iload 4, 2), (43, .istore_n 2, 1), (44, .iinc 4 1, 3), (47, .goto (-35), 3), (50, .iload_n 2, 1), (51, .ireturn, 1)]
theorem dX6_top : dOk cX6_top tX6_top = true := by decide +kernel
abbrev rX6_top : Room := { frames := 4, cells := 0, slots := 0, locals := 114 }
def wX6_top_12 (Q : Int32 → Mem → Prop) : Nat → Int32 → Int32 → Int32 → Mem → Prop
  | 0, _, _, _, _ => False
  | n + 1, x2, x3, x4, σ => ((((σ 10 4) ≤ x4) → (Q x2 σ)) ∧ ((¬ (σ 10 4) ≤ x4) → (wX0_timesOver 20 x4 σ (fun r27 σ27 => (((r27 ≤ x3) → (wX6_top_12 Q n x2 x3 (x4 + (1 : Int32)) σ27)) ∧ ((¬ r27 ≤ x3) → (wX6_top_12 Q n x4 r27 (x4 + (1 : Int32)) σ27)))))))
def wX6_top (σ : Mem) (Q : Int32 → Mem → Prop) : Prop := (wX6_danced  σ (fun σ1 => (∃ N12, wX6_top_12 Q N12 (-1 : Int32) (0 : Int32) (0 : Int32) σ1)))
set_option maxHeartbeats 4000000 in
set_option maxRecDepth 100000 in
theorem kX6_top_12 {p : Program} {l : Launch} {e : Env} {s : State} {m : MethodId} {args : Array Value} {below : List Frame} {meth : Method} {c : Code} {E : wE} (hE : wX E) (C : Cx p s m args c cX6_top 6 RX6 E (wA E)) (hr : meth.sig.returnType = (some .int)) (hlk : meth.locks = false) {Q : Int32 → Mem → Prop} : ∀ (n : Nat) (x2 : Int32) (x3 : Int32) (x4 : Int32) (σ : Mem) (H : Heap) (locs : List Loc) (ls : Array Slot), wd E (wA E) s σ H locs → lv_has ls 6 [(0, .ref (gE E 0)), (1, .ref (gE E 20)), (2, .int x2), (3, .int x3), (4, .int x4)] → wX6_top_12 Q n x2 x3 x4 σ → W p l e rX6_top s m args below meth c H locs 0 0 (MQ below (wQi E Q) args s 0 0 (wA E)) (F0 m 12 ls []) := by
  have hx := C.1.1
  have hb := C.1.2.1
  intro n
  induction n with
  | zero =>
    intro x2 x3 x4 σ  H locs ls hw hl h
    exact h.elim
  | succ n ih =>
    intro x2 x3 x4 σ  H locs ls hw hl h
    rw [wX6_top_12] at h
    refine lv_iload hx hb (dAt dX6_top 9 rfl) (lv_at hl 4 rfl) ?_
    refine lv_aload_n hx hb (dAt dX6_top 10 rfl) rfl (lv_at hl 0 rfl) ?_
    refine x_getr C hw fl_X6_28 (hE.1 0) (nX hE (by decide)) rfl (dAt dX6_top 11 rfl) ?_
    refine x_getiN C hw fl_X6_193 (hE.1 10) (nX hE (by decide)) rfl (dAt dX6_top 12 rfl) ?_
    refine lv_icmp_ge (tgt := 50) hx hb (dAt dX6_top 13 rfl) (by decide) (fun c21 => ?_) (fun c21 => ?_)
    · replace h := h.1 c21
      refine lv_iload_n hx hb (dAt dX6_top 27 rfl) rfl (lv_at hl 2 rfl) ?_
      exact x_iret C hw hr hlk h (dAt dX6_top 28 rfl)
    · replace h := h.2 c21
      refine lv_aload_n hx hb (dAt dX6_top 14 rfl) rfl (lv_at hl 1 rfl) ?_
      refine lv_iload hx hb (dAt dX6_top 15 rfl) (lv_at hl 4 rfl) ?_
      refine x_calli C hw (x_runVN (As := [.int x4]) (rest := []) C hw (kX0_timesOver l E hE 20 isD_20 x4 σ _ h) mtX0_timesOver lk_X6_196 (hE.1 20) (nX hE (by decide)) rfl ⟨by decide, by decide⟩ ⟨rfl, rfl⟩ rfl hl.1 rfl (Nat.le_of_ble_eq_true rfl) (dAt dX6_top 16 rfl) ⟨Nat.zero_le _, Nat.zero_le _⟩) (fun r27 σ27 H locs h hw => ?_)
      refine lv_istore (lv' := [(5, .int r27), (0, .ref (gE E 0)), (1, .ref (gE E 20)), (2, .int x2), (3, .int x3), (4, .int x4)]) hx hb (dAt dX6_top 17 rfl) hl (by decide) rfl (fun ls hl => ?_)
      refine lv_iload hx hb (dAt dX6_top 18 rfl) (lv_at hl 0 rfl) ?_
      refine lv_iload_n hx hb (dAt dX6_top 19 rfl) rfl (lv_at hl 4 rfl) ?_
      refine lv_icmp_le (tgt := 44) hx hb (dAt dX6_top 20 rfl) (by decide) (fun c35 => ?_) (fun c35 => ?_)
      · replace h := h.1 c35
        refine lv_iinc (v := (x4 + (1 : Int32))) (lv' := [(4, .int (x4 + (1 : Int32))), (5, .int r27), (0, .ref (gE E 0)), (1, .ref (gE E 20)), (2, .int x2), (3, .int x3)]) hx hb (dAt dX6_top 25 rfl) hl (k := 5) rfl rfl (by decide) rfl (fun ls hl => ?_)
        refine lv_goto (tgt := 12) hx hb (dAt dX6_top 26 rfl) (by decide) ?_
        exact ih x2 x3 (x4 + (1 : Int32)) σ27  _ _ _ hw (lv_sub hl [2, 3, 4, 5, 0] rfl) h
      · replace h := h.2 c35
        refine lv_iload hx hb (dAt dX6_top 21 rfl) (lv_at hl 0 rfl) ?_
        refine lv_istore_n (lv' := [(3, .int r27), (5, .int r27), (0, .ref (gE E 0)), (1, .ref (gE E 20)), (2, .int x2), (4, .int x4)]) hx hb (dAt dX6_top 22 rfl) rfl hl (by decide) rfl (fun ls hl => ?_)
        refine lv_iload hx hb (dAt dX6_top 23 rfl) (lv_at hl 5 rfl) ?_
        refine lv_istore_n (lv' := [(2, .int x4), (3, .int r27), (5, .int r27), (0, .ref (gE E 0)), (1, .ref (gE E 20)), (4, .int x4)]) hx hb (dAt dX6_top 24 rfl) rfl hl (by decide) rfl (fun ls hl => ?_)
        refine lv_iinc (v := (x4 + (1 : Int32))) (lv' := [(4, .int (x4 + (1 : Int32))), (2, .int x4), (3, .int r27), (5, .int r27), (0, .ref (gE E 0)), (1, .ref (gE E 20))]) hx hb (dAt dX6_top 25 rfl) hl (k := 5) rfl rfl (by decide) rfl (fun ls hl => ?_)
        refine lv_goto (tgt := 12) hx hb (dAt dX6_top 26 rfl) (by decide) ?_
        exact ih x4 r27 (x4 + (1 : Int32)) σ27  _ _ _ hw (lv_sub hl [4, 5, 1, 2, 0] rfl) h
set_option maxHeartbeats 4000000 in
set_option maxRecDepth 100000 in
theorem kX6_top (l : Launch) (E : wE) (hE : wX E) (σ : Mem) (Q : Int32 → Mem → Prop) (h : wX6_top  σ Q) : Met l yX6_top (Cond.code yX6_top cX6_top 6 (some .int) :: TB) rX6_top (wPc E σ [.ref (gE E 0)]) (wQi E Q) 0 0 (wA E) := by
  refine wMet (by decide) hE.2.2 (Nat.le_of_ble_eq_true rfl) ?_
  intro p e s m args below meth c ls C hr hlk hl hw
  have hx := C.1.1
  have hb := C.1.2.1
  replace C : Cx p s m args c cX6_top 6 RX6 E (wA E) := C
  replace hl : lv_has ls 6 [(0, .ref (gE E 0))] := hl
  unfold wX6_top at h
  refine lv_aload_n hx hb (dAt dX6_top 0 rfl) rfl (lv_at hl 0 rfl) ?_
  refine x_callr C hw (x_runV (As := []) (rest := []) C hw (kX6_danced l E hE  σ _ h) mtX6_danced lk_X6_145 (hE.1 0) (nX hE (by decide)) rfl ⟨by decide, by decide⟩ ⟨rfl, rfl⟩ rfl hl.1 rfl (Nat.le_of_ble_eq_true rfl) (dAt dX6_top 1 rfl) ⟨Nat.zero_le _, Nat.zero_le _⟩) (fun σ1 H locs h hw => ?_)
  refine lv_astore_n (lv' := [(1, .ref (gE E 20)), (0, .ref (gE E 0))]) hx hb (dAt dX6_top 2 rfl) rfl hl (by decide) rfl (fun ls hl => ?_)
  refine lv_iconst (v := -1) hx hb (dAt dX6_top 3 rfl) (by decide) ?_
  refine lv_istore_n (lv' := [(2, .int (-1 : Int32)), (1, .ref (gE E 20)), (0, .ref (gE E 0))]) hx hb (dAt dX6_top 4 rfl) rfl hl (by decide) rfl (fun ls hl => ?_)
  refine lv_iconst (v := 0) hx hb (dAt dX6_top 5 rfl) (by decide) ?_
  refine lv_istore_n (lv' := [(3, .int (0 : Int32)), (2, .int (-1 : Int32)), (1, .ref (gE E 20)), (0, .ref (gE E 0))]) hx hb (dAt dX6_top 6 rfl) rfl hl (by decide) rfl (fun ls hl => ?_)
  refine lv_iconst (v := 0) hx hb (dAt dX6_top 7 rfl) (by decide) ?_
  refine lv_istore (lv' := [(4, .int (0 : Int32)), (3, .int (0 : Int32)), (2, .int (-1 : Int32)), (1, .ref (gE E 20)), (0, .ref (gE E 0))]) hx hb (dAt dX6_top 8 rfl) hl (by decide) rfl (fun ls hl => ?_)
  obtain ⟨n12, h⟩ := h
  exact kX6_top_12 hE C hr hlk n12 (-1 : Int32) (0 : Int32) (0 : Int32) σ1  _ _ _ hw (lv_sub hl [4, 3, 2, 1, 0] rfl) h
def tX6_lacks : List (Nat × Instr × Nat) := [(0, .aload_n 0, 1), (1, .invokevirtual 145, 3), (4, .astore_n 1, 1), (5, .iconst 0, 1), (6, .istore_n 2, 1), (7, .iconst 0, 1), (8, .istore_n 3, 1), (9, .iload_n 3, 1), (10, .aload_n 0, 1), (11, .getfield 28, 3), (14, .getfield 193, 3), (17, .if_icmp .ge 24, 3), (20, .aload_n 1, 1), (21, .getfield 199, 3), (24, .iload_n 3, 1), (25, .iaload, 1), (26, .ifCond .ne 9, 3), (29, .iload_n 2, 1), (30, .iconst 1, 1), (31, .iload_n 3, 1), (32, .ishl, 1), (33, .ior, 1), (34, .istore_n 2, 1), (35, .iinc 3 1, 3), (38, .goto (-29), 3), (41, .iload_n 2, 1), (42, .ireturn, 1)]
theorem dX6_lacks : dOk cX6_lacks tX6_lacks = true := by decide +kernel
abbrev rX6_lacks : Room := { frames := 4, cells := 0, slots := 0, locals := 114 }
def wX6_lacks_9 (Q : Int32 → Mem → Prop) : Nat → Int32 → Int32 → Mem → Prop
  | 0, _, _, _ => False
  | n + 1, x2, x3, σ => ((((σ 10 4) ≤ x3) → (Q x2 σ)) ∧ ((¬ (σ 10 4) ≤ x3) → (vp_in x3 8 ∧ (((¬ (σ 25 (x3).toNatClampNeg) = 0) → (wX6_lacks_9 Q n x2 (x3 + (1 : Int32)) σ)) ∧ (((σ 25 (x3).toNatClampNeg) = 0) → (∀ x2_34 : Int32, x2_34 = (x2 ||| ((1 : Int32) <<< (x3 &&& 31))) → (wX6_lacks_9 Q n x2_34 (x3 + (1 : Int32)) σ)))))))
def wX6_lacks (σ : Mem) (Q : Int32 → Mem → Prop) : Prop := (wX6_danced  σ (fun σ1 => (∃ N9, wX6_lacks_9 Q N9 (0 : Int32) (0 : Int32) σ1)))
set_option maxHeartbeats 4000000 in
set_option maxRecDepth 100000 in
theorem kX6_lacks_9 {p : Program} {l : Launch} {e : Env} {s : State} {m : MethodId} {args : Array Value} {below : List Frame} {meth : Method} {c : Code} {E : wE} (hE : wX E) (C : Cx p s m args c cX6_lacks 4 RX6 E (wA E)) (hr : meth.sig.returnType = (some .int)) (hlk : meth.locks = false) {Q : Int32 → Mem → Prop} : ∀ (n : Nat) (x2 : Int32) (x3 : Int32) (σ : Mem) (H : Heap) (locs : List Loc) (ls : Array Slot), wd E (wA E) s σ H locs → lv_has ls 4 [(0, .ref (gE E 0)), (1, .ref (gE E 20)), (2, .int x2), (3, .int x3)] → wX6_lacks_9 Q n x2 x3 σ → W p l e rX6_lacks s m args below meth c H locs 0 0 (MQ below (wQi E Q) args s 0 0 (wA E)) (F0 m 9 ls []) := by
  have hx := C.1.1
  have hb := C.1.2.1
  intro n
  induction n with
  | zero =>
    intro x2 x3 σ  H locs ls hw hl h
    exact h.elim
  | succ n ih =>
    intro x2 x3 σ  H locs ls hw hl h
    rw [wX6_lacks_9] at h
    refine lv_iload_n hx hb (dAt dX6_lacks 7 rfl) rfl (lv_at hl 3 rfl) ?_
    refine lv_aload_n hx hb (dAt dX6_lacks 8 rfl) rfl (lv_at hl 0 rfl) ?_
    refine x_getr C hw fl_X6_28 (hE.1 0) (nX hE (by decide)) rfl (dAt dX6_lacks 9 rfl) ?_
    refine x_getiN C hw fl_X6_193 (hE.1 10) (nX hE (by decide)) rfl (dAt dX6_lacks 10 rfl) ?_
    refine lv_icmp_ge (tgt := 41) hx hb (dAt dX6_lacks 11 rfl) (by decide) (fun c17 => ?_) (fun c17 => ?_)
    · replace h := h.1 c17
      refine lv_iload_n hx hb (dAt dX6_lacks 25 rfl) rfl (lv_at hl 2 rfl) ?_
      exact x_iret C hw hr hlk h (dAt dX6_lacks 26 rfl)
    · replace h := h.2 c17
      refine lv_aload_n hx hb (dAt dX6_lacks 12 rfl) rfl (lv_at hl 1 rfl) ?_
      refine x_getrN C hw fl_X6_199 (hE.1 20) (nX hE (by decide)) rfl (dAt dX6_lacks 13 rfl) ?_
      refine lv_iload_n hx hb (dAt dX6_lacks 14 rfl) rfl (lv_at hl 3 rfl) ?_
      obtain ⟨z25, h⟩ := h
      refine x_ild C hw (hE.1 25) (nX hE (by decide)) z25 rfl (dAt dX6_lacks 15 rfl) ?_
      refine lv_if_ne (tgt := 35) hx hb (dAt dX6_lacks 16 rfl) (by decide) (fun c26 => ?_) (fun c26 => ?_)
      · replace h := h.1 c26
        refine lv_iinc (v := (x3 + (1 : Int32))) (lv' := [(3, .int (x3 + (1 : Int32))), (0, .ref (gE E 0)), (1, .ref (gE E 20)), (2, .int x2)]) hx hb (dAt dX6_lacks 23 rfl) hl (k := 3) rfl rfl (by decide) rfl (fun ls hl => ?_)
        refine lv_goto (tgt := 9) hx hb (dAt dX6_lacks 24 rfl) (by decide) ?_
        exact ih x2 (x3 + (1 : Int32)) σ  _ _ _ hw (lv_sub hl [1, 2, 3, 0] rfl) h
      · replace h := h.2 c26
        refine lv_iload_n hx hb (dAt dX6_lacks 17 rfl) rfl (lv_at hl 2 rfl) ?_
        refine lv_iconst (v := 1) hx hb (dAt dX6_lacks 18 rfl) (by decide) ?_
        refine lv_iload_n hx hb (dAt dX6_lacks 19 rfl) rfl (lv_at hl 3 rfl) ?_
        refine lv_ishl hx hb (dAt dX6_lacks 20 rfl) ?_
        refine lv_ior hx hb (dAt dX6_lacks 21 rfl) ?_
        refine lv_topi (fun x2_34 ex2_34 => ?_)
        replace h := h x2_34 ex2_34
        refine lv_istore_n (lv' := [(2, .int x2_34), (0, .ref (gE E 0)), (1, .ref (gE E 20)), (3, .int x3)]) hx hb (dAt dX6_lacks 22 rfl) rfl hl (by decide) rfl (fun ls hl => ?_)
        refine lv_iinc (v := (x3 + (1 : Int32))) (lv' := [(3, .int (x3 + (1 : Int32))), (2, .int x2_34), (0, .ref (gE E 0)), (1, .ref (gE E 20))]) hx hb (dAt dX6_lacks 23 rfl) hl (k := 3) rfl rfl (by decide) rfl (fun ls hl => ?_)
        refine lv_goto (tgt := 9) hx hb (dAt dX6_lacks 24 rfl) (by decide) ?_
        exact ih x2_34 (x3 + (1 : Int32)) σ  _ _ _ hw (lv_sub hl [2, 3, 1, 0] rfl) h
set_option maxHeartbeats 4000000 in
set_option maxRecDepth 100000 in
theorem kX6_lacks (l : Launch) (E : wE) (hE : wX E) (σ : Mem) (Q : Int32 → Mem → Prop) (h : wX6_lacks  σ Q) : Met l yX6_lacks (Cond.code yX6_lacks cX6_lacks 4 (some .int) :: TB) rX6_lacks (wPc E σ [.ref (gE E 0)]) (wQi E Q) 0 0 (wA E) := by
  refine wMet (by decide) hE.2.2 (Nat.le_of_ble_eq_true rfl) ?_
  intro p e s m args below meth c ls C hr hlk hl hw
  have hx := C.1.1
  have hb := C.1.2.1
  replace C : Cx p s m args c cX6_lacks 4 RX6 E (wA E) := C
  replace hl : lv_has ls 4 [(0, .ref (gE E 0))] := hl
  unfold wX6_lacks at h
  refine lv_aload_n hx hb (dAt dX6_lacks 0 rfl) rfl (lv_at hl 0 rfl) ?_
  refine x_callr C hw (x_runV (As := []) (rest := []) C hw (kX6_danced l E hE  σ _ h) mtX6_danced lk_X6_145 (hE.1 0) (nX hE (by decide)) rfl ⟨by decide, by decide⟩ ⟨rfl, rfl⟩ rfl hl.1 rfl (Nat.le_of_ble_eq_true rfl) (dAt dX6_lacks 1 rfl) ⟨Nat.zero_le _, Nat.zero_le _⟩) (fun σ1 H locs h hw => ?_)
  refine lv_astore_n (lv' := [(1, .ref (gE E 20)), (0, .ref (gE E 0))]) hx hb (dAt dX6_lacks 2 rfl) rfl hl (by decide) rfl (fun ls hl => ?_)
  refine lv_iconst (v := 0) hx hb (dAt dX6_lacks 3 rfl) (by decide) ?_
  refine lv_istore_n (lv' := [(2, .int (0 : Int32)), (1, .ref (gE E 20)), (0, .ref (gE E 0))]) hx hb (dAt dX6_lacks 4 rfl) rfl hl (by decide) rfl (fun ls hl => ?_)
  refine lv_iconst (v := 0) hx hb (dAt dX6_lacks 5 rfl) (by decide) ?_
  refine lv_istore_n (lv' := [(3, .int (0 : Int32)), (2, .int (0 : Int32)), (1, .ref (gE E 20)), (0, .ref (gE E 0))]) hx hb (dAt dX6_lacks 6 rfl) rfl hl (by decide) rfl (fun ls hl => ?_)
  obtain ⟨n9, h⟩ := h
  exact kX6_lacks_9 hE C hr hlk n9 (0 : Int32) (0 : Int32) σ1  _ _ _ hw (lv_sub hl [3, 2, 1, 0] rfl) h
def tX6_step : List (Nat × Instr × Nat) := [(0, .iload_n 1, 1), (1, .invokestatic 101, 3), (4, .ifCond .eq 10, 3), (7, .iload_n 2, 1), (8, .invokestatic 158, 3), (11, .ifCond .ne 6, 3), (14, .bipush (-2), 2), (16, .ireturn, 1), (17, .aload_n 0, 1), (18, .getfield 32, 3), (21, .aload_n 0, 1), (22, .getfield 28, 3), (25, .invokevirtual 202, 3), (28, .iconst (-1), 1), (29, .istore_n 3, 1), (30, .iconst (-1), 1), (31, .istore 4, 2), (33, .iconst 0, 1), (34, .istore 5, 2), (36, .iload 5, 2), (38, .iconst 3, 1), (39, .if_icmp .gt 59, 3), (42, .aload_n 0, 1), (43, .getfield 32, 3), (46, .getfield 104, 3), (49, .iload_n 1, 1), (50, .iload 5, 2), (52, .iastore, 1), (53, .aload_n 0, 1), (54, .getfield 42, 3), (57, .aload_n 0, 1), (58, .getfield 32, 3), (61, .aload_n 0, 1), (62, .getfield 21, 3), (65, .invokevirtual 206, 3), (68, .aload_n 0, 1), (69, .getfield 42, 3), (72, .getfield 167, 3), (75, .iload 4, 2), (77, .if_icmp .le 15, 3), (80, .aload_n 0, 1), (81, .getfield 42, 3), (84, .getfield 167, 3), (87, .istore 4, 2), (89, .iload 5, 2), (91, .istore_n 3, 1), (92, .iinc 5 1, 3), (95, .goto (-59), 3), (98, .iload_n 2, 1), (99, .ifCond .ne 7, 3), (102, .iload_n 3, 1), (103, .goto 5, 3), (106, .iload 4, 2), (108, .ireturn, 1)]
theorem dX6_step : dOk cX6_step tX6_step = true := by decide +kernel
abbrev rX6_step : Room := { frames := 3, cells := 0, slots := 0, locals := 94 }
def wX6_step_98 (Q : Int32 → Mem → Prop) (x2 : Int32) (x3 : Int32) (x4 : Int32) (σ : Mem) : Prop := (Q (if x2 = 0 then x3 else x4) σ)
def wX6_step_36 (Q : Int32 → Mem → Prop) : Nat → Int32 → Int32 → Int32 → Int32 → Int32 → Mem → Prop
  | 0, _, _, _, _, _, _ => False
  | n + 1, x1, x2, x3, x4, x5, σ => ((((3 : Int32) < x5) → (wX6_step_98 Q x2 x3 x4 σ)) ∧ ((¬ (3 : Int32) < x5) → (vp_in x1 24 ∧ (∀ σ52 : Mem, σ52 = um σ 19 (x1).toNatClampNeg x5 → (wX0_play 35 15 σ52 (fun σ65 => ((((σ65 35 16) ≤ x4) → (wX6_step_36 Q n x1 x2 x3 x4 (x5 + (1 : Int32)) σ65)) ∧ ((¬ (σ65 35 16) ≤ x4) → (∀ x4_87 : Int32, x4_87 = (σ65 35 16) → (wX6_step_36 Q n x1 x2 x5 x4_87 (x5 + (1 : Int32)) σ65))))))))))
def wX6_step (x1 : Int32) (x2 : Int32) (σ : Mem) (Q : Int32 → Mem → Prop) : Prop := (wX6_isBeat x1 σ (fun r1 σ1 => (((r1 = 0) → (Q (-2 : Int32) σ1)) ∧ ((¬ r1 = 0) → (wX6_isEither x2 σ1 (fun r8 σ8 => (((¬ r8 = 0) → (wX3_become 15 10 σ8 (fun σ25 => (∃ N36, wX6_step_36 Q N36 x1 x2 (-1 : Int32) (-1 : Int32) (0 : Int32) σ25)))) ∧ ((r8 = 0) → (Q (-2 : Int32) σ8)))))))))
set_option maxHeartbeats 4000000 in
set_option maxRecDepth 100000 in
theorem kX6_step_98 {p : Program} {l : Launch} {e : Env} {s : State} {m : MethodId} {args : Array Value} {below : List Frame} {meth : Method} {c : Code} {E : wE} (hE : wX E) (C : Cx p s m args c cX6_step 6 RX6 E (wA E)) (hr : meth.sig.returnType = (some .int)) (hlk : meth.locks = false) {Q : Int32 → Mem → Prop} : ∀ (x2 : Int32) (x3 : Int32) (x4 : Int32) (σ : Mem) (H : Heap) (locs : List Loc) (ls : Array Slot), wd E (wA E) s σ H locs → lv_has ls 6 [(2, .int x2), (3, .int x3), (4, .int x4)] → wX6_step_98 Q x2 x3 x4 σ → W p l e rX6_step s m args below meth c H locs 0 0 (MQ below (wQi E Q) args s 0 0 (wA E)) (F0 m 98 ls []) := by
  have hx := C.1.1
  have hb := C.1.2.1
  intro x2 x3 x4 σ  H locs ls hw hl h
  unfold wX6_step_98 at h
  refine lv_iload_n hx hb (dAt dX6_step 48 rfl) rfl (lv_at hl 0 rfl) ?_
  refine x_dia (ls := ls) (pcJ := 108) (cnd := x2 = 0) (a := x3) (b := x4) ([]) ?_ (fun ht99 hf99 => ?_)
  · exact x_iret C hw hr hlk h (dAt dX6_step 53 rfl)
  · refine lv_if_ne (tgt := 106) hx hb (dAt dX6_step 49 rfl) (by decide) (fun c99 => ?_) (fun c99 => ?_)
    · refine lv_iload hx hb (dAt dX6_step 52 rfl) (lv_at hl 2 rfl) ?_
      exact hf99 c99
    · refine lv_iload_n hx hb (dAt dX6_step 50 rfl) rfl (lv_at hl 1 rfl) ?_
      refine lv_goto (tgt := 108) hx hb (dAt dX6_step 51 rfl) (by decide) ?_
      exact ht99 c99
set_option maxHeartbeats 4000000 in
set_option maxRecDepth 100000 in
theorem kX6_step_36 {p : Program} {l : Launch} {e : Env} {s : State} {m : MethodId} {args : Array Value} {below : List Frame} {meth : Method} {c : Code} {E : wE} (hE : wX E) (C : Cx p s m args c cX6_step 6 RX6 E (wA E)) (hr : meth.sig.returnType = (some .int)) (hlk : meth.locks = false) {Q : Int32 → Mem → Prop} : ∀ (n : Nat) (x1 : Int32) (x2 : Int32) (x3 : Int32) (x4 : Int32) (x5 : Int32) (σ : Mem) (H : Heap) (locs : List Loc) (ls : Array Slot), wd E (wA E) s σ H locs → lv_has ls 6 [(0, .ref (gE E 0)), (1, .int x1), (2, .int x2), (3, .int x3), (4, .int x4), (5, .int x5)] → wX6_step_36 Q n x1 x2 x3 x4 x5 σ → W p l e rX6_step s m args below meth c H locs 0 0 (MQ below (wQi E Q) args s 0 0 (wA E)) (F0 m 36 ls []) := by
  have hx := C.1.1
  have hb := C.1.2.1
  intro n
  induction n with
  | zero =>
    intro x1 x2 x3 x4 x5 σ  H locs ls hw hl h
    exact h.elim
  | succ n ih =>
    intro x1 x2 x3 x4 x5 σ  H locs ls hw hl h
    rw [wX6_step_36] at h
    refine lv_iload hx hb (dAt dX6_step 19 rfl) (lv_at hl 5 rfl) ?_
    refine lv_iconst (v := 3) hx hb (dAt dX6_step 20 rfl) (by decide) ?_
    refine lv_icmp_gt (tgt := 98) hx hb (dAt dX6_step 21 rfl) (by decide) (fun c39 => ?_) (fun c39 => ?_)
    · replace h := h.1 c39
      exact kX6_step_98 hE C hr hlk x2 x3 x4 σ  _ _ _ hw (lv_sub hl [2, 3, 4] rfl) h
    · replace h := h.2 c39
      refine lv_aload_n hx hb (dAt dX6_step 22 rfl) rfl (lv_at hl 0 rfl) ?_
      refine x_getr C hw fl_X6_32 (hE.1 0) (nX hE (by decide)) rfl (dAt dX6_step 23 rfl) ?_
      refine x_getrN C hw fl_X6_104 (hE.1 15) (nX hE (by decide)) rfl (dAt dX6_step 24 rfl) ?_
      refine lv_iload_n hx hb (dAt dX6_step 25 rfl) rfl (lv_at hl 1 rfl) ?_
      refine lv_iload hx hb (dAt dX6_step 26 rfl) (lv_at hl 5 rfl) ?_
      obtain ⟨z52, h⟩ := h
      refine x_ist C hw (hE.1 19) (nX hE (by decide)) z52 rfl (dAt dX6_step 27 rfl) (fun σ52 H locs eσ52 hw => ?_)
      replace h := h σ52 eσ52
      refine lv_aload_n hx hb (dAt dX6_step 28 rfl) rfl (lv_at hl 0 rfl) ?_
      refine x_getr C hw fl_X6_42 (hE.1 0) (nX hE (by decide)) rfl (dAt dX6_step 29 rfl) ?_
      refine lv_aload_n hx hb (dAt dX6_step 30 rfl) rfl (lv_at hl 0 rfl) ?_
      refine x_getr C hw fl_X6_32 (hE.1 0) (nX hE (by decide)) rfl (dAt dX6_step 31 rfl) ?_
      refine lv_aload_n hx hb (dAt dX6_step 32 rfl) rfl (lv_at hl 0 rfl) ?_
      refine x_getr C hw fl_X6_21 (hE.1 0) (nX hE (by decide)) rfl (dAt dX6_step 33 rfl) ?_
      refine x_callv C hw (x_runVN (As := [.ref (gE E 15), .ref (gE E 6)]) (rest := []) C hw (kX0_play l E hE 35 isD_35 15 isS_15 σ52 _ h) mtX0_play lk_X6_206 (hE.1 35) (nX hE (by decide)) rfl ⟨by decide, by decide⟩ ⟨rfl, rfl⟩ rfl hl.1 rfl (Nat.le_of_ble_eq_true rfl) (dAt dX6_step 34 rfl) ⟨Nat.zero_le _, Nat.zero_le _⟩) (fun σ65 H locs h hw => ?_)
      refine lv_aload_n hx hb (dAt dX6_step 35 rfl) rfl (lv_at hl 0 rfl) ?_
      refine x_getr C hw fl_X6_42 (hE.1 0) (nX hE (by decide)) rfl (dAt dX6_step 36 rfl) ?_
      refine x_getiN C hw fl_X6_167 (hE.1 35) (nX hE (by decide)) rfl (dAt dX6_step 37 rfl) ?_
      refine lv_iload hx hb (dAt dX6_step 38 rfl) (lv_at hl 4 rfl) ?_
      refine lv_icmp_le (tgt := 92) hx hb (dAt dX6_step 39 rfl) (by decide) (fun c77 => ?_) (fun c77 => ?_)
      · replace h := h.1 c77
        refine lv_iinc (v := (x5 + (1 : Int32))) (lv' := [(5, .int (x5 + (1 : Int32))), (0, .ref (gE E 0)), (1, .int x1), (2, .int x2), (3, .int x3), (4, .int x4)]) hx hb (dAt dX6_step 46 rfl) hl (k := 5) rfl rfl (by decide) rfl (fun ls hl => ?_)
        refine lv_goto (tgt := 36) hx hb (dAt dX6_step 47 rfl) (by decide) ?_
        exact ih x1 x2 x3 x4 (x5 + (1 : Int32)) σ65  _ _ _ hw (lv_sub hl [1, 2, 3, 4, 5, 0] rfl) h
      · replace h := h.2 c77
        refine lv_aload_n hx hb (dAt dX6_step 40 rfl) rfl (lv_at hl 0 rfl) ?_
        refine x_getr C hw fl_X6_42 (hE.1 0) (nX hE (by decide)) rfl (dAt dX6_step 41 rfl) ?_
        refine x_getiN C hw fl_X6_167 (hE.1 35) (nX hE (by decide)) rfl (dAt dX6_step 42 rfl) ?_
        refine lv_topi (fun x4_87 ex4_87 => ?_)
        replace h := h x4_87 ex4_87
        refine lv_istore (lv' := [(4, .int x4_87), (0, .ref (gE E 0)), (1, .int x1), (2, .int x2), (3, .int x3), (5, .int x5)]) hx hb (dAt dX6_step 43 rfl) hl (by decide) rfl (fun ls hl => ?_)
        refine lv_iload hx hb (dAt dX6_step 44 rfl) (lv_at hl 5 rfl) ?_
        refine lv_istore_n (lv' := [(3, .int x5), (4, .int x4_87), (0, .ref (gE E 0)), (1, .int x1), (2, .int x2), (5, .int x5)]) hx hb (dAt dX6_step 45 rfl) rfl hl (by decide) rfl (fun ls hl => ?_)
        refine lv_iinc (v := (x5 + (1 : Int32))) (lv' := [(5, .int (x5 + (1 : Int32))), (3, .int x5), (4, .int x4_87), (0, .ref (gE E 0)), (1, .int x1), (2, .int x2)]) hx hb (dAt dX6_step 46 rfl) hl (k := 5) rfl rfl (by decide) rfl (fun ls hl => ?_)
        refine lv_goto (tgt := 36) hx hb (dAt dX6_step 47 rfl) (by decide) ?_
        exact ih x1 x2 x5 x4_87 (x5 + (1 : Int32)) σ65  _ _ _ hw (lv_sub hl [3, 4, 5, 1, 2, 0] rfl) h
set_option maxHeartbeats 4000000 in
set_option maxRecDepth 100000 in
theorem kX6_step (l : Launch) (E : wE) (hE : wX E) (x1 : Int32) (x2 : Int32) (σ : Mem) (Q : Int32 → Mem → Prop) (h : wX6_step x1 x2 σ Q) : Met l yX6_step (Cond.code yX6_step cX6_step 6 (some .int) :: TB) rX6_step (wPc E σ [.ref (gE E 0), .int x1, .int x2]) (wQi E Q) 0 0 (wA E) := by
  refine wMet (by decide) hE.2.2 (Nat.le_of_ble_eq_true rfl) ?_
  intro p e s m args below meth c ls C hr hlk hl hw
  have hx := C.1.1
  have hb := C.1.2.1
  replace C : Cx p s m args c cX6_step 6 RX6 E (wA E) := C
  replace hl : lv_has ls 6 [(0, .ref (gE E 0)), (1, .int x1), (2, .int x2)] := hl
  unfold wX6_step at h
  refine lv_iload_n hx hb (dAt dX6_step 0 rfl) rfl (lv_at hl 1 rfl) ?_
  refine x_calli C hw (x_runS (As := [.int x1]) (rest := []) C hw (kX6_isBeat l E hE x1 σ _ h) mtX6_isBeat lk_X6_101 ⟨by decide, by decide⟩ ⟨rfl, rfl⟩ rfl hl.1 rfl (Nat.le_of_ble_eq_true rfl) (dAt dX6_step 1 rfl) ⟨Nat.zero_le _, Nat.zero_le _⟩) (fun r1 σ1 H locs h hw => ?_)
  refine lv_if_eq (tgt := 14) hx hb (dAt dX6_step 2 rfl) (by decide) (fun c4 => ?_) (fun c4 => ?_)
  · replace h := h.1 c4
    refine lv_bipush (v := -2) hx hb (dAt dX6_step 6 rfl) (by decide) ?_
    exact x_iret C hw hr hlk h (dAt dX6_step 7 rfl)
  · replace h := h.2 c4
    refine lv_iload_n hx hb (dAt dX6_step 3 rfl) rfl (lv_at hl 2 rfl) ?_
    refine x_calli C hw (x_runS (As := [.int x2]) (rest := []) C hw (kX6_isEither l E hE x2 σ1 _ h) mtX6_isEither lk_X6_158 ⟨by decide, by decide⟩ ⟨rfl, rfl⟩ rfl hl.1 rfl (Nat.le_of_ble_eq_true rfl) (dAt dX6_step 4 rfl) ⟨Nat.zero_le _, Nat.zero_le _⟩) (fun r8 σ8 H locs h hw => ?_)
    refine lv_if_ne (tgt := 17) hx hb (dAt dX6_step 5 rfl) (by decide) (fun c11 => ?_) (fun c11 => ?_)
    · replace h := h.1 c11
      refine lv_aload_n hx hb (dAt dX6_step 8 rfl) rfl (lv_at hl 0 rfl) ?_
      refine x_getr C hw fl_X6_32 (hE.1 0) (nX hE (by decide)) rfl (dAt dX6_step 9 rfl) ?_
      refine lv_aload_n hx hb (dAt dX6_step 10 rfl) rfl (lv_at hl 0 rfl) ?_
      refine x_getr C hw fl_X6_28 (hE.1 0) (nX hE (by decide)) rfl (dAt dX6_step 11 rfl) ?_
      refine x_callv C hw (x_runVN (As := [.ref (gE E 10)]) (rest := []) C hw (kX3_become l E hE 15 isS_15 10 isS_10 σ8 _ h) mtX3_become lk_X6_202 (hE.1 15) (nX hE (by decide)) rfl ⟨by decide, by decide⟩ ⟨rfl, rfl⟩ rfl hl.1 rfl (Nat.le_of_ble_eq_true rfl) (dAt dX6_step 12 rfl) ⟨Nat.zero_le _, Nat.zero_le _⟩) (fun σ25 H locs h hw => ?_)
      refine lv_iconst (v := -1) hx hb (dAt dX6_step 13 rfl) (by decide) ?_
      refine lv_istore_n (lv' := [(3, .int (-1 : Int32)), (0, .ref (gE E 0)), (1, .int x1), (2, .int x2)]) hx hb (dAt dX6_step 14 rfl) rfl hl (by decide) rfl (fun ls hl => ?_)
      refine lv_iconst (v := -1) hx hb (dAt dX6_step 15 rfl) (by decide) ?_
      refine lv_istore (lv' := [(4, .int (-1 : Int32)), (3, .int (-1 : Int32)), (0, .ref (gE E 0)), (1, .int x1), (2, .int x2)]) hx hb (dAt dX6_step 16 rfl) hl (by decide) rfl (fun ls hl => ?_)
      refine lv_iconst (v := 0) hx hb (dAt dX6_step 17 rfl) (by decide) ?_
      refine lv_istore (lv' := [(5, .int (0 : Int32)), (4, .int (-1 : Int32)), (3, .int (-1 : Int32)), (0, .ref (gE E 0)), (1, .int x1), (2, .int x2)]) hx hb (dAt dX6_step 18 rfl) hl (by decide) rfl (fun ls hl => ?_)
      obtain ⟨n36, h⟩ := h
      exact kX6_step_36 hE C hr hlk n36 x1 x2 (-1 : Int32) (-1 : Int32) (0 : Int32) σ25  _ _ _ hw (lv_sub hl [3, 4, 5, 2, 1, 0] rfl) h
    · replace h := h.2 c11
      refine lv_bipush (v := -2) hx hb (dAt dX6_step 6 rfl) (by decide) ?_
      exact x_iret C hw hr hlk h (dAt dX6_step 7 rfl)
def tX6_begin : List (Nat × Instr × Nat) := [(0, .aload_n 0, 1), (1, .iload_n 1, 1), (2, .invokevirtual 89, 3), (5, .ifCond .eq 10, 3), (8, .iload_n 2, 1), (9, .invokestatic 158, 3), (12, .ifCond .ne 6, 3), (15, .bipush (-2), 2), (17, .ireturn, 1), (18, .aload_n 0, 1), (19, .getfield 28, 3), (22, .iload_n 1, 1), (23, .invokevirtual 210, 3), (26, .istore_n 3, 1), (27, .aload_n 0, 1), (28, .getfield 32, 3), (31, .aload_n 0, 1), (32, .getfield 28, 3), (35, .invokevirtual 202, 3), (38, .iconst (-1), 1), (39, .istore 4, 2), (41, .iconst (-1), 1), (42, .istore 5, 2), (44, .iconst 0, 1), (45, .istore 6, 2), (47, .iload 6, 2), (49, .bipush 12, 2), (51, .if_icmp .ge 72, 3), (54, .iload_n 3, 1), (55, .iload 6, 2), (57, .invokestatic 213, 3), (60, .ifCond .eq 6, 3), (63, .goto 54, 3), (66, .aload_n 0, 1), (67, .getfield 32, 3), (70, .getfield 92, 3), (73, .iload_n 1, 1), (74, .iload 6, 2), (76, .iastore, 1), (77, .aload_n 0, 1), (78, .getfield 42, 3), (81, .aload_n 0, 1), (82, .getfield 32, 3), (85, .aload_n 0, 1), (86, .getfield 21, 3), (89, .invokevirtual 206, 3), (92, .aload_n 0, 1), (93, .getfield 42, 3), (96, .getfield 167, 3), (99, .iload 5, 2), (101, .if_icmp .le 16, 3), (104, .aload_n 0, 1), (105, .getfield 42, 3), (108, .getfield 167, 3), (111, .istore 5, 2), (113, .iload 6, 2), (115, .istore 4, 2), (117, .iinc 6 1, 3), (120, .goto (-73), 3), (123, .iload_n 2, 1), (124, .ifCond .ne 8, 3), (127, .iload 4, 2), (129, .goto 5, 3), (132, .iload 5, 2), (134, .ireturn, 1)]
theorem dX6_begin : dOk cX6_begin tX6_begin = true := by decide +kernel
abbrev rX6_begin : Room := { frames := 3, cells := 0, slots := 0, locals := 94 }
def wX6_begin_123 (Q : Int32 → Mem → Prop) (x2 : Int32) (x4 : Int32) (x5 : Int32) (σ : Mem) : Prop := (Q (if x2 = 0 then x4 else x5) σ)
def wX6_begin_47 (Q : Int32 → Mem → Prop) : Nat → Int32 → Int32 → Int32 → Int32 → Int32 → Int32 → Mem → Prop
  | 0, _, _, _, _, _, _, _ => False
  | n + 1, x1, x2, x3, x4, x5, x6, σ => ((((12 : Int32) ≤ x6) → (wX6_begin_123 Q x2 x4 x5 σ)) ∧ ((¬ (12 : Int32) ≤ x6) → (wX6_has x3 x6 σ (fun r57 σ57 => (((r57 = 0) → (vp_in x1 8 ∧ (∀ σ76 : Mem, σ76 = um σ57 16 (x1).toNatClampNeg x6 → (wX0_play 35 15 σ76 (fun σ89 => ((((σ89 35 16) ≤ x5) → (wX6_begin_47 Q n x1 x2 x3 x4 x5 (x6 + (1 : Int32)) σ89)) ∧ ((¬ (σ89 35 16) ≤ x5) → (∀ x5_111 : Int32, x5_111 = (σ89 35 16) → (wX6_begin_47 Q n x1 x2 x3 x6 x5_111 (x6 + (1 : Int32)) σ89))))))))) ∧ ((¬ r57 = 0) → (wX6_begin_47 Q n x1 x2 x3 x4 x5 (x6 + (1 : Int32)) σ57)))))))
def wX6_begin (x1 : Int32) (x2 : Int32) (σ : Mem) (Q : Int32 → Mem → Prop) : Prop := (wX6_isDancer x1 σ (fun r2 σ2 => (((r2 = 0) → (Q (-2 : Int32) σ2)) ∧ ((¬ r2 = 0) → (wX6_isEither x2 σ2 (fun r9 σ9 => (((¬ r9 = 0) → (wX3_placesBeside 10 x1 σ9 (fun r23 σ23 => (wX3_become 15 10 σ23 (fun σ35 => (∃ N47, wX6_begin_47 Q N47 x1 x2 r23 (-1 : Int32) (-1 : Int32) (0 : Int32) σ35)))))) ∧ ((r9 = 0) → (Q (-2 : Int32) σ9)))))))))
set_option maxHeartbeats 4000000 in
set_option maxRecDepth 100000 in
theorem kX6_begin_123 {p : Program} {l : Launch} {e : Env} {s : State} {m : MethodId} {args : Array Value} {below : List Frame} {meth : Method} {c : Code} {E : wE} (hE : wX E) (C : Cx p s m args c cX6_begin 7 RX6 E (wA E)) (hr : meth.sig.returnType = (some .int)) (hlk : meth.locks = false) {Q : Int32 → Mem → Prop} : ∀ (x2 : Int32) (x4 : Int32) (x5 : Int32) (σ : Mem) (H : Heap) (locs : List Loc) (ls : Array Slot), wd E (wA E) s σ H locs → lv_has ls 7 [(2, .int x2), (4, .int x4), (5, .int x5)] → wX6_begin_123 Q x2 x4 x5 σ → W p l e rX6_begin s m args below meth c H locs 0 0 (MQ below (wQi E Q) args s 0 0 (wA E)) (F0 m 123 ls []) := by
  have hx := C.1.1
  have hb := C.1.2.1
  intro x2 x4 x5 σ  H locs ls hw hl h
  unfold wX6_begin_123 at h
  refine lv_iload_n hx hb (dAt dX6_begin 59 rfl) rfl (lv_at hl 0 rfl) ?_
  refine x_dia (ls := ls) (pcJ := 134) (cnd := x2 = 0) (a := x4) (b := x5) ([]) ?_ (fun ht124 hf124 => ?_)
  · exact x_iret C hw hr hlk h (dAt dX6_begin 64 rfl)
  · refine lv_if_ne (tgt := 132) hx hb (dAt dX6_begin 60 rfl) (by decide) (fun c124 => ?_) (fun c124 => ?_)
    · refine lv_iload hx hb (dAt dX6_begin 63 rfl) (lv_at hl 2 rfl) ?_
      exact hf124 c124
    · refine lv_iload hx hb (dAt dX6_begin 61 rfl) (lv_at hl 1 rfl) ?_
      refine lv_goto (tgt := 134) hx hb (dAt dX6_begin 62 rfl) (by decide) ?_
      exact ht124 c124
set_option maxHeartbeats 4000000 in
set_option maxRecDepth 100000 in
theorem kX6_begin_47 {p : Program} {l : Launch} {e : Env} {s : State} {m : MethodId} {args : Array Value} {below : List Frame} {meth : Method} {c : Code} {E : wE} (hE : wX E) (C : Cx p s m args c cX6_begin 7 RX6 E (wA E)) (hr : meth.sig.returnType = (some .int)) (hlk : meth.locks = false) {Q : Int32 → Mem → Prop} : ∀ (n : Nat) (x1 : Int32) (x2 : Int32) (x3 : Int32) (x4 : Int32) (x5 : Int32) (x6 : Int32) (σ : Mem) (H : Heap) (locs : List Loc) (ls : Array Slot), wd E (wA E) s σ H locs → lv_has ls 7 [(0, .ref (gE E 0)), (1, .int x1), (2, .int x2), (3, .int x3), (4, .int x4), (5, .int x5), (6, .int x6)] → wX6_begin_47 Q n x1 x2 x3 x4 x5 x6 σ → W p l e rX6_begin s m args below meth c H locs 0 0 (MQ below (wQi E Q) args s 0 0 (wA E)) (F0 m 47 ls []) := by
  have hx := C.1.1
  have hb := C.1.2.1
  intro n
  induction n with
  | zero =>
    intro x1 x2 x3 x4 x5 x6 σ  H locs ls hw hl h
    exact h.elim
  | succ n ih =>
    intro x1 x2 x3 x4 x5 x6 σ  H locs ls hw hl h
    rw [wX6_begin_47] at h
    refine lv_iload hx hb (dAt dX6_begin 25 rfl) (lv_at hl 6 rfl) ?_
    refine lv_bipush (v := 12) hx hb (dAt dX6_begin 26 rfl) (by decide) ?_
    refine lv_icmp_ge (tgt := 123) hx hb (dAt dX6_begin 27 rfl) (by decide) (fun c51 => ?_) (fun c51 => ?_)
    · replace h := h.1 c51
      exact kX6_begin_123 hE C hr hlk x2 x4 x5 σ  _ _ _ hw (lv_sub hl [2, 4, 5] rfl) h
    · replace h := h.2 c51
      refine lv_iload_n hx hb (dAt dX6_begin 28 rfl) rfl (lv_at hl 3 rfl) ?_
      refine lv_iload hx hb (dAt dX6_begin 29 rfl) (lv_at hl 6 rfl) ?_
      refine x_calli C hw (x_runS (As := [.int x3, .int x6]) (rest := []) C hw (kX6_has l E hE x3 x6 σ _ h) mtX6_has lk_X6_213 ⟨by decide, by decide⟩ ⟨rfl, rfl⟩ rfl hl.1 rfl (Nat.le_of_ble_eq_true rfl) (dAt dX6_begin 30 rfl) ⟨Nat.zero_le _, Nat.zero_le _⟩) (fun r57 σ57 H locs h hw => ?_)
      refine lv_if_eq (tgt := 66) hx hb (dAt dX6_begin 31 rfl) (by decide) (fun c60 => ?_) (fun c60 => ?_)
      · replace h := h.1 c60
        refine lv_aload_n hx hb (dAt dX6_begin 33 rfl) rfl (lv_at hl 0 rfl) ?_
        refine x_getr C hw fl_X6_32 (hE.1 0) (nX hE (by decide)) rfl (dAt dX6_begin 34 rfl) ?_
        refine x_getrN C hw fl_X6_92 (hE.1 15) (nX hE (by decide)) rfl (dAt dX6_begin 35 rfl) ?_
        refine lv_iload_n hx hb (dAt dX6_begin 36 rfl) rfl (lv_at hl 1 rfl) ?_
        refine lv_iload hx hb (dAt dX6_begin 37 rfl) (lv_at hl 6 rfl) ?_
        obtain ⟨z76, h⟩ := h
        refine x_ist C hw (hE.1 16) (nX hE (by decide)) z76 rfl (dAt dX6_begin 38 rfl) (fun σ76 H locs eσ76 hw => ?_)
        replace h := h σ76 eσ76
        refine lv_aload_n hx hb (dAt dX6_begin 39 rfl) rfl (lv_at hl 0 rfl) ?_
        refine x_getr C hw fl_X6_42 (hE.1 0) (nX hE (by decide)) rfl (dAt dX6_begin 40 rfl) ?_
        refine lv_aload_n hx hb (dAt dX6_begin 41 rfl) rfl (lv_at hl 0 rfl) ?_
        refine x_getr C hw fl_X6_32 (hE.1 0) (nX hE (by decide)) rfl (dAt dX6_begin 42 rfl) ?_
        refine lv_aload_n hx hb (dAt dX6_begin 43 rfl) rfl (lv_at hl 0 rfl) ?_
        refine x_getr C hw fl_X6_21 (hE.1 0) (nX hE (by decide)) rfl (dAt dX6_begin 44 rfl) ?_
        refine x_callv C hw (x_runVN (As := [.ref (gE E 15), .ref (gE E 6)]) (rest := []) C hw (kX0_play l E hE 35 isD_35 15 isS_15 σ76 _ h) mtX0_play lk_X6_206 (hE.1 35) (nX hE (by decide)) rfl ⟨by decide, by decide⟩ ⟨rfl, rfl⟩ rfl hl.1 rfl (Nat.le_of_ble_eq_true rfl) (dAt dX6_begin 45 rfl) ⟨Nat.zero_le _, Nat.zero_le _⟩) (fun σ89 H locs h hw => ?_)
        refine lv_aload_n hx hb (dAt dX6_begin 46 rfl) rfl (lv_at hl 0 rfl) ?_
        refine x_getr C hw fl_X6_42 (hE.1 0) (nX hE (by decide)) rfl (dAt dX6_begin 47 rfl) ?_
        refine x_getiN C hw fl_X6_167 (hE.1 35) (nX hE (by decide)) rfl (dAt dX6_begin 48 rfl) ?_
        refine lv_iload hx hb (dAt dX6_begin 49 rfl) (lv_at hl 5 rfl) ?_
        refine lv_icmp_le (tgt := 117) hx hb (dAt dX6_begin 50 rfl) (by decide) (fun c101 => ?_) (fun c101 => ?_)
        · replace h := h.1 c101
          refine lv_iinc (v := (x6 + (1 : Int32))) (lv' := [(6, .int (x6 + (1 : Int32))), (0, .ref (gE E 0)), (1, .int x1), (2, .int x2), (3, .int x3), (4, .int x4), (5, .int x5)]) hx hb (dAt dX6_begin 57 rfl) hl (k := 6) rfl rfl (by decide) rfl (fun ls hl => ?_)
          refine lv_goto (tgt := 47) hx hb (dAt dX6_begin 58 rfl) (by decide) ?_
          exact ih x1 x2 x3 x4 x5 (x6 + (1 : Int32)) σ89  _ _ _ hw (lv_sub hl [1, 2, 3, 4, 5, 6, 0] rfl) h
        · replace h := h.2 c101
          refine lv_aload_n hx hb (dAt dX6_begin 51 rfl) rfl (lv_at hl 0 rfl) ?_
          refine x_getr C hw fl_X6_42 (hE.1 0) (nX hE (by decide)) rfl (dAt dX6_begin 52 rfl) ?_
          refine x_getiN C hw fl_X6_167 (hE.1 35) (nX hE (by decide)) rfl (dAt dX6_begin 53 rfl) ?_
          refine lv_topi (fun x5_111 ex5_111 => ?_)
          replace h := h x5_111 ex5_111
          refine lv_istore (lv' := [(5, .int x5_111), (0, .ref (gE E 0)), (1, .int x1), (2, .int x2), (3, .int x3), (4, .int x4), (6, .int x6)]) hx hb (dAt dX6_begin 54 rfl) hl (by decide) rfl (fun ls hl => ?_)
          refine lv_iload hx hb (dAt dX6_begin 55 rfl) (lv_at hl 6 rfl) ?_
          refine lv_istore (lv' := [(4, .int x6), (5, .int x5_111), (0, .ref (gE E 0)), (1, .int x1), (2, .int x2), (3, .int x3), (6, .int x6)]) hx hb (dAt dX6_begin 56 rfl) hl (by decide) rfl (fun ls hl => ?_)
          refine lv_iinc (v := (x6 + (1 : Int32))) (lv' := [(6, .int (x6 + (1 : Int32))), (4, .int x6), (5, .int x5_111), (0, .ref (gE E 0)), (1, .int x1), (2, .int x2), (3, .int x3)]) hx hb (dAt dX6_begin 57 rfl) hl (k := 6) rfl rfl (by decide) rfl (fun ls hl => ?_)
          refine lv_goto (tgt := 47) hx hb (dAt dX6_begin 58 rfl) (by decide) ?_
          exact ih x1 x2 x3 x6 x5_111 (x6 + (1 : Int32)) σ89  _ _ _ hw (lv_sub hl [3, 4, 5, 6, 1, 2, 0] rfl) h
      · replace h := h.2 c60
        refine lv_goto (tgt := 117) hx hb (dAt dX6_begin 32 rfl) (by decide) ?_
        refine lv_iinc (v := (x6 + (1 : Int32))) (lv' := [(6, .int (x6 + (1 : Int32))), (0, .ref (gE E 0)), (1, .int x1), (2, .int x2), (3, .int x3), (4, .int x4), (5, .int x5)]) hx hb (dAt dX6_begin 57 rfl) hl (k := 6) rfl rfl (by decide) rfl (fun ls hl => ?_)
        refine lv_goto (tgt := 47) hx hb (dAt dX6_begin 58 rfl) (by decide) ?_
        exact ih x1 x2 x3 x4 x5 (x6 + (1 : Int32)) σ57  _ _ _ hw (lv_sub hl [1, 2, 3, 4, 5, 6, 0] rfl) h
set_option maxHeartbeats 4000000 in
set_option maxRecDepth 100000 in
theorem kX6_begin (l : Launch) (E : wE) (hE : wX E) (x1 : Int32) (x2 : Int32) (σ : Mem) (Q : Int32 → Mem → Prop) (h : wX6_begin x1 x2 σ Q) : Met l yX6_begin (Cond.code yX6_begin cX6_begin 7 (some .int) :: TB) rX6_begin (wPc E σ [.ref (gE E 0), .int x1, .int x2]) (wQi E Q) 0 0 (wA E) := by
  refine wMet (by decide) hE.2.2 (Nat.le_of_ble_eq_true rfl) ?_
  intro p e s m args below meth c ls C hr hlk hl hw
  have hx := C.1.1
  have hb := C.1.2.1
  replace C : Cx p s m args c cX6_begin 7 RX6 E (wA E) := C
  replace hl : lv_has ls 7 [(0, .ref (gE E 0)), (1, .int x1), (2, .int x2)] := hl
  unfold wX6_begin at h
  refine lv_aload_n hx hb (dAt dX6_begin 0 rfl) rfl (lv_at hl 0 rfl) ?_
  refine lv_iload_n hx hb (dAt dX6_begin 1 rfl) rfl (lv_at hl 1 rfl) ?_
  refine x_calli C hw (x_runV (As := [.int x1]) (rest := []) C hw (kX6_isDancer l E hE x1 σ _ h) mtX6_isDancer lk_X6_89 (hE.1 0) (nX hE (by decide)) rfl ⟨by decide, by decide⟩ ⟨rfl, rfl⟩ rfl hl.1 rfl (Nat.le_of_ble_eq_true rfl) (dAt dX6_begin 2 rfl) ⟨Nat.zero_le _, Nat.zero_le _⟩) (fun r2 σ2 H locs h hw => ?_)
  refine lv_if_eq (tgt := 15) hx hb (dAt dX6_begin 3 rfl) (by decide) (fun c5 => ?_) (fun c5 => ?_)
  · replace h := h.1 c5
    refine lv_bipush (v := -2) hx hb (dAt dX6_begin 7 rfl) (by decide) ?_
    exact x_iret C hw hr hlk h (dAt dX6_begin 8 rfl)
  · replace h := h.2 c5
    refine lv_iload_n hx hb (dAt dX6_begin 4 rfl) rfl (lv_at hl 2 rfl) ?_
    refine x_calli C hw (x_runS (As := [.int x2]) (rest := []) C hw (kX6_isEither l E hE x2 σ2 _ h) mtX6_isEither lk_X6_158 ⟨by decide, by decide⟩ ⟨rfl, rfl⟩ rfl hl.1 rfl (Nat.le_of_ble_eq_true rfl) (dAt dX6_begin 5 rfl) ⟨Nat.zero_le _, Nat.zero_le _⟩) (fun r9 σ9 H locs h hw => ?_)
    refine lv_if_ne (tgt := 18) hx hb (dAt dX6_begin 6 rfl) (by decide) (fun c12 => ?_) (fun c12 => ?_)
    · replace h := h.1 c12
      refine lv_aload_n hx hb (dAt dX6_begin 9 rfl) rfl (lv_at hl 0 rfl) ?_
      refine x_getr C hw fl_X6_28 (hE.1 0) (nX hE (by decide)) rfl (dAt dX6_begin 10 rfl) ?_
      refine lv_iload_n hx hb (dAt dX6_begin 11 rfl) rfl (lv_at hl 1 rfl) ?_
      refine x_calli C hw (x_runVN (As := [.int x1]) (rest := []) C hw (kX3_placesBeside l E hE 10 isS_10 x1 σ9 _ h) mtX3_placesBeside lk_X6_210 (hE.1 10) (nX hE (by decide)) rfl ⟨by decide, by decide⟩ ⟨rfl, rfl⟩ rfl hl.1 rfl (Nat.le_of_ble_eq_true rfl) (dAt dX6_begin 12 rfl) ⟨Nat.zero_le _, Nat.zero_le _⟩) (fun r23 σ23 H locs h hw => ?_)
      refine lv_istore_n (lv' := [(3, .int r23), (0, .ref (gE E 0)), (1, .int x1), (2, .int x2)]) hx hb (dAt dX6_begin 13 rfl) rfl hl (by decide) rfl (fun ls hl => ?_)
      refine lv_aload_n hx hb (dAt dX6_begin 14 rfl) rfl (lv_at hl 1 rfl) ?_
      refine x_getr C hw fl_X6_32 (hE.1 0) (nX hE (by decide)) rfl (dAt dX6_begin 15 rfl) ?_
      refine lv_aload_n hx hb (dAt dX6_begin 16 rfl) rfl (lv_at hl 1 rfl) ?_
      refine x_getr C hw fl_X6_28 (hE.1 0) (nX hE (by decide)) rfl (dAt dX6_begin 17 rfl) ?_
      refine x_callv C hw (x_runVN (As := [.ref (gE E 10)]) (rest := []) C hw (kX3_become l E hE 15 isS_15 10 isS_10 σ23 _ h) mtX3_become lk_X6_202 (hE.1 15) (nX hE (by decide)) rfl ⟨by decide, by decide⟩ ⟨rfl, rfl⟩ rfl hl.1 rfl (Nat.le_of_ble_eq_true rfl) (dAt dX6_begin 18 rfl) ⟨Nat.zero_le _, Nat.zero_le _⟩) (fun σ35 H locs h hw => ?_)
      refine lv_iconst (v := -1) hx hb (dAt dX6_begin 19 rfl) (by decide) ?_
      refine lv_istore (lv' := [(4, .int (-1 : Int32)), (3, .int r23), (0, .ref (gE E 0)), (1, .int x1), (2, .int x2)]) hx hb (dAt dX6_begin 20 rfl) hl (by decide) rfl (fun ls hl => ?_)
      refine lv_iconst (v := -1) hx hb (dAt dX6_begin 21 rfl) (by decide) ?_
      refine lv_istore (lv' := [(5, .int (-1 : Int32)), (4, .int (-1 : Int32)), (3, .int r23), (0, .ref (gE E 0)), (1, .int x1), (2, .int x2)]) hx hb (dAt dX6_begin 22 rfl) hl (by decide) rfl (fun ls hl => ?_)
      refine lv_iconst (v := 0) hx hb (dAt dX6_begin 23 rfl) (by decide) ?_
      refine lv_istore (lv' := [(6, .int (0 : Int32)), (5, .int (-1 : Int32)), (4, .int (-1 : Int32)), (3, .int r23), (0, .ref (gE E 0)), (1, .int x1), (2, .int x2)]) hx hb (dAt dX6_begin 24 rfl) hl (by decide) rfl (fun ls hl => ?_)
      obtain ⟨n47, h⟩ := h
      exact kX6_begin_47 hE C hr hlk n47 x1 x2 r23 (-1 : Int32) (-1 : Int32) (0 : Int32) σ35  _ _ _ hw (lv_sub hl [4, 5, 6, 3, 2, 1, 0] rfl) h
    · replace h := h.2 c12
      refine lv_bipush (v := -2) hx hb (dAt dX6_begin 7 rfl) (by decide) ?_
      exact x_iret C hw hr hlk h (dAt dX6_begin 8 rfl)
def tX6_dress : List (Nat × Instr × Nat) := [(0, .aload_n 0, 1), (1, .iload_n 1, 1), (2, .invokevirtual 89, 3), (5, .ifCond .eq 10, 3), (8, .iload_n 2, 1), (9, .invokestatic 158, 3), (12, .ifCond .ne 6, 3), (15, .bipush (-2), 2), (17, .ireturn, 1), (18, .aload_n 0, 1), (19, .invokevirtual 145, 3), (22, .astore_n 3, 1), (23, .aload_n 0, 1), (24, .getfield 32, 3), (27, .aload_n 0, 1), (28, .getfield 28, 3), (31, .invokevirtual 202, 3), (34, .iconst (-1), 1), (35, .istore 4, 2), (37, .bipush 121, 2), (39, .istore 5, 2), (41, .iconst 0, 1), (42, .istore 6, 2), (44, .iload 6, 2), (46, .bipush 10, 2), (48, .if_icmp .ge 49, 3), (51, .aload_n 0, 1), (52, .getfield 32, 3), (55, .getfield 98, 3), (58, .iload_n 1, 1), (59, .iload 6, 2), (61, .iastore, 1), (62, .aload_n 3, 1), (63, .aload_n 0, 1), (64, .getfield 32, 3), (67, .getfield 98, 3), (70, .iconst 0, 1), (71, .invokevirtual 189, 3), (74, .istore 7, 2), (76, .iload 7, 2), (78, .iload 5, 2), (80, .if_icmp .ge 11, 3), (83, .iload 7, 2), (85, .istore 5, 2), (87, .iload 6, 2), (89, .istore 4, 2), (91, .iinc 6 1, 3), (94, .goto (-50), 3), (97, .iload_n 2, 1), (98, .ifCond .ne 8, 3), (101, .iload 4, 2), (103, .goto 5, 3), (106, .iload 5, 2), (108, .ireturn, 1)]
theorem dX6_dress : dOk cX6_dress tX6_dress = true := by decide +kernel
abbrev rX6_dress : Room := { frames := 4, cells := 0, slots := 0, locals := 114 }
def wX6_dress_97 (Q : Int32 → Mem → Prop) (x2 : Int32) (x4 : Int32) (x5 : Int32) (σ : Mem) : Prop := (Q (if x2 = 0 then x4 else x5) σ)
def wX6_dress_44 (Q : Int32 → Mem → Prop) : Nat → Int32 → Int32 → Int32 → Int32 → Int32 → Mem → Prop
  | 0, _, _, _, _, _, _ => False
  | n + 1, x1, x2, x4, x5, x6, σ => ((((10 : Int32) ≤ x6) → (wX6_dress_97 Q x2 x4 x5 σ)) ∧ ((¬ (10 : Int32) ≤ x6) → (vp_in x1 8 ∧ (∀ σ61 : Mem, σ61 = um σ 18 (x1).toNatClampNeg x6 → (wX0_longestRun 20 18 8 (0 : Int32) σ61 (fun r71 σ71 => (((x5 ≤ r71) → (wX6_dress_44 Q n x1 x2 x4 x5 (x6 + (1 : Int32)) σ71)) ∧ ((¬ x5 ≤ r71) → (wX6_dress_44 Q n x1 x2 x6 r71 (x6 + (1 : Int32)) σ71)))))))))
def wX6_dress (x1 : Int32) (x2 : Int32) (σ : Mem) (Q : Int32 → Mem → Prop) : Prop := (wX6_isDancer x1 σ (fun r2 σ2 => (((r2 = 0) → (Q (-2 : Int32) σ2)) ∧ ((¬ r2 = 0) → (wX6_isEither x2 σ2 (fun r9 σ9 => (((¬ r9 = 0) → (wX6_danced  σ9 (fun σ19 => (wX3_become 15 10 σ19 (fun σ31 => (∃ N44, wX6_dress_44 Q N44 x1 x2 (-1 : Int32) (121 : Int32) (0 : Int32) σ31)))))) ∧ ((r9 = 0) → (Q (-2 : Int32) σ9)))))))))
set_option maxHeartbeats 4000000 in
set_option maxRecDepth 100000 in
theorem kX6_dress_97 {p : Program} {l : Launch} {e : Env} {s : State} {m : MethodId} {args : Array Value} {below : List Frame} {meth : Method} {c : Code} {E : wE} (hE : wX E) (C : Cx p s m args c cX6_dress 8 RX6 E (wA E)) (hr : meth.sig.returnType = (some .int)) (hlk : meth.locks = false) {Q : Int32 → Mem → Prop} : ∀ (x2 : Int32) (x4 : Int32) (x5 : Int32) (σ : Mem) (H : Heap) (locs : List Loc) (ls : Array Slot), wd E (wA E) s σ H locs → lv_has ls 8 [(2, .int x2), (4, .int x4), (5, .int x5)] → wX6_dress_97 Q x2 x4 x5 σ → W p l e rX6_dress s m args below meth c H locs 0 0 (MQ below (wQi E Q) args s 0 0 (wA E)) (F0 m 97 ls []) := by
  have hx := C.1.1
  have hb := C.1.2.1
  intro x2 x4 x5 σ  H locs ls hw hl h
  unfold wX6_dress_97 at h
  refine lv_iload_n hx hb (dAt dX6_dress 48 rfl) rfl (lv_at hl 0 rfl) ?_
  refine x_dia (ls := ls) (pcJ := 108) (cnd := x2 = 0) (a := x4) (b := x5) ([]) ?_ (fun ht98 hf98 => ?_)
  · exact x_iret C hw hr hlk h (dAt dX6_dress 53 rfl)
  · refine lv_if_ne (tgt := 106) hx hb (dAt dX6_dress 49 rfl) (by decide) (fun c98 => ?_) (fun c98 => ?_)
    · refine lv_iload hx hb (dAt dX6_dress 52 rfl) (lv_at hl 2 rfl) ?_
      exact hf98 c98
    · refine lv_iload hx hb (dAt dX6_dress 50 rfl) (lv_at hl 1 rfl) ?_
      refine lv_goto (tgt := 108) hx hb (dAt dX6_dress 51 rfl) (by decide) ?_
      exact ht98 c98
set_option maxHeartbeats 4000000 in
set_option maxRecDepth 100000 in
theorem kX6_dress_44 {p : Program} {l : Launch} {e : Env} {s : State} {m : MethodId} {args : Array Value} {below : List Frame} {meth : Method} {c : Code} {E : wE} (hE : wX E) (C : Cx p s m args c cX6_dress 8 RX6 E (wA E)) (hr : meth.sig.returnType = (some .int)) (hlk : meth.locks = false) {Q : Int32 → Mem → Prop} : ∀ (n : Nat) (x1 : Int32) (x2 : Int32) (x4 : Int32) (x5 : Int32) (x6 : Int32) (σ : Mem) (H : Heap) (locs : List Loc) (ls : Array Slot), wd E (wA E) s σ H locs → lv_has ls 8 [(0, .ref (gE E 0)), (1, .int x1), (2, .int x2), (3, .ref (gE E 20)), (4, .int x4), (5, .int x5), (6, .int x6)] → wX6_dress_44 Q n x1 x2 x4 x5 x6 σ → W p l e rX6_dress s m args below meth c H locs 0 0 (MQ below (wQi E Q) args s 0 0 (wA E)) (F0 m 44 ls []) := by
  have hx := C.1.1
  have hb := C.1.2.1
  intro n
  induction n with
  | zero =>
    intro x1 x2 x4 x5 x6 σ  H locs ls hw hl h
    exact h.elim
  | succ n ih =>
    intro x1 x2 x4 x5 x6 σ  H locs ls hw hl h
    rw [wX6_dress_44] at h
    refine lv_iload hx hb (dAt dX6_dress 23 rfl) (lv_at hl 6 rfl) ?_
    refine lv_bipush (v := 10) hx hb (dAt dX6_dress 24 rfl) (by decide) ?_
    refine lv_icmp_ge (tgt := 97) hx hb (dAt dX6_dress 25 rfl) (by decide) (fun c48 => ?_) (fun c48 => ?_)
    · replace h := h.1 c48
      exact kX6_dress_97 hE C hr hlk x2 x4 x5 σ  _ _ _ hw (lv_sub hl [2, 4, 5] rfl) h
    · replace h := h.2 c48
      refine lv_aload_n hx hb (dAt dX6_dress 26 rfl) rfl (lv_at hl 0 rfl) ?_
      refine x_getr C hw fl_X6_32 (hE.1 0) (nX hE (by decide)) rfl (dAt dX6_dress 27 rfl) ?_
      refine x_getrN C hw fl_X6_98 (hE.1 15) (nX hE (by decide)) rfl (dAt dX6_dress 28 rfl) ?_
      refine lv_iload_n hx hb (dAt dX6_dress 29 rfl) rfl (lv_at hl 1 rfl) ?_
      refine lv_iload hx hb (dAt dX6_dress 30 rfl) (lv_at hl 6 rfl) ?_
      obtain ⟨z61, h⟩ := h
      refine x_ist C hw (hE.1 18) (nX hE (by decide)) z61 rfl (dAt dX6_dress 31 rfl) (fun σ61 H locs eσ61 hw => ?_)
      replace h := h σ61 eσ61
      refine lv_aload_n hx hb (dAt dX6_dress 32 rfl) rfl (lv_at hl 3 rfl) ?_
      refine lv_aload_n hx hb (dAt dX6_dress 33 rfl) rfl (lv_at hl 0 rfl) ?_
      refine x_getr C hw fl_X6_32 (hE.1 0) (nX hE (by decide)) rfl (dAt dX6_dress 34 rfl) ?_
      refine x_getrN C hw fl_X6_98 (hE.1 15) (nX hE (by decide)) rfl (dAt dX6_dress 35 rfl) ?_
      refine lv_iconst (v := 0) hx hb (dAt dX6_dress 36 rfl) (by decide) ?_
      refine x_calli C hw (x_runVN (As := [.ref (gE E 18), .int (0 : Int32)]) (rest := []) C hw (kX0_longestRun l E hE 20 isD_20 18 8 (hE.1 18) (nX hE (by decide)) (0 : Int32) σ61 _ h) mtX0_longestRun lk_X6_189 (hE.1 20) (nX hE (by decide)) rfl ⟨by decide, by decide⟩ ⟨rfl, rfl⟩ rfl hl.1 rfl (Nat.le_of_ble_eq_true rfl) (dAt dX6_dress 37 rfl) ⟨Nat.zero_le _, Nat.zero_le _⟩) (fun r71 σ71 H locs h hw => ?_)
      refine lv_istore (lv' := [(7, .int r71), (0, .ref (gE E 0)), (1, .int x1), (2, .int x2), (3, .ref (gE E 20)), (4, .int x4), (5, .int x5), (6, .int x6)]) hx hb (dAt dX6_dress 38 rfl) hl (by decide) rfl (fun ls hl => ?_)
      refine lv_iload hx hb (dAt dX6_dress 39 rfl) (lv_at hl 0 rfl) ?_
      refine lv_iload hx hb (dAt dX6_dress 40 rfl) (lv_at hl 6 rfl) ?_
      refine lv_icmp_ge (tgt := 91) hx hb (dAt dX6_dress 41 rfl) (by decide) (fun c80 => ?_) (fun c80 => ?_)
      · replace h := h.1 c80
        refine lv_iinc (v := (x6 + (1 : Int32))) (lv' := [(6, .int (x6 + (1 : Int32))), (7, .int r71), (0, .ref (gE E 0)), (1, .int x1), (2, .int x2), (3, .ref (gE E 20)), (4, .int x4), (5, .int x5)]) hx hb (dAt dX6_dress 46 rfl) hl (k := 7) rfl rfl (by decide) rfl (fun ls hl => ?_)
        refine lv_goto (tgt := 44) hx hb (dAt dX6_dress 47 rfl) (by decide) ?_
        exact ih x1 x2 x4 x5 (x6 + (1 : Int32)) σ71  _ _ _ hw (lv_sub hl [2, 3, 4, 5, 6, 7, 0] rfl) h
      · replace h := h.2 c80
        refine lv_iload hx hb (dAt dX6_dress 42 rfl) (lv_at hl 0 rfl) ?_
        refine lv_istore (lv' := [(5, .int r71), (7, .int r71), (0, .ref (gE E 0)), (1, .int x1), (2, .int x2), (3, .ref (gE E 20)), (4, .int x4), (6, .int x6)]) hx hb (dAt dX6_dress 43 rfl) hl (by decide) rfl (fun ls hl => ?_)
        refine lv_iload hx hb (dAt dX6_dress 44 rfl) (lv_at hl 7 rfl) ?_
        refine lv_istore (lv' := [(4, .int x6), (5, .int r71), (7, .int r71), (0, .ref (gE E 0)), (1, .int x1), (2, .int x2), (3, .ref (gE E 20)), (6, .int x6)]) hx hb (dAt dX6_dress 45 rfl) hl (by decide) rfl (fun ls hl => ?_)
        refine lv_iinc (v := (x6 + (1 : Int32))) (lv' := [(6, .int (x6 + (1 : Int32))), (4, .int x6), (5, .int r71), (7, .int r71), (0, .ref (gE E 0)), (1, .int x1), (2, .int x2), (3, .ref (gE E 20))]) hx hb (dAt dX6_dress 46 rfl) hl (k := 7) rfl rfl (by decide) rfl (fun ls hl => ?_)
        refine lv_goto (tgt := 44) hx hb (dAt dX6_dress 47 rfl) (by decide) ?_
        exact ih x1 x2 x6 r71 (x6 + (1 : Int32)) σ71  _ _ _ hw (lv_sub hl [4, 5, 6, 7, 1, 2, 0] rfl) h
set_option maxHeartbeats 4000000 in
set_option maxRecDepth 100000 in
theorem kX6_dress (l : Launch) (E : wE) (hE : wX E) (x1 : Int32) (x2 : Int32) (σ : Mem) (Q : Int32 → Mem → Prop) (h : wX6_dress x1 x2 σ Q) : Met l yX6_dress (Cond.code yX6_dress cX6_dress 8 (some .int) :: TB) rX6_dress (wPc E σ [.ref (gE E 0), .int x1, .int x2]) (wQi E Q) 0 0 (wA E) := by
  refine wMet (by decide) hE.2.2 (Nat.le_of_ble_eq_true rfl) ?_
  intro p e s m args below meth c ls C hr hlk hl hw
  have hx := C.1.1
  have hb := C.1.2.1
  replace C : Cx p s m args c cX6_dress 8 RX6 E (wA E) := C
  replace hl : lv_has ls 8 [(0, .ref (gE E 0)), (1, .int x1), (2, .int x2)] := hl
  unfold wX6_dress at h
  refine lv_aload_n hx hb (dAt dX6_dress 0 rfl) rfl (lv_at hl 0 rfl) ?_
  refine lv_iload_n hx hb (dAt dX6_dress 1 rfl) rfl (lv_at hl 1 rfl) ?_
  refine x_calli C hw (x_runV (As := [.int x1]) (rest := []) C hw (kX6_isDancer l E hE x1 σ _ h) mtX6_isDancer lk_X6_89 (hE.1 0) (nX hE (by decide)) rfl ⟨by decide, by decide⟩ ⟨rfl, rfl⟩ rfl hl.1 rfl (Nat.le_of_ble_eq_true rfl) (dAt dX6_dress 2 rfl) ⟨Nat.zero_le _, Nat.zero_le _⟩) (fun r2 σ2 H locs h hw => ?_)
  refine lv_if_eq (tgt := 15) hx hb (dAt dX6_dress 3 rfl) (by decide) (fun c5 => ?_) (fun c5 => ?_)
  · replace h := h.1 c5
    refine lv_bipush (v := -2) hx hb (dAt dX6_dress 7 rfl) (by decide) ?_
    exact x_iret C hw hr hlk h (dAt dX6_dress 8 rfl)
  · replace h := h.2 c5
    refine lv_iload_n hx hb (dAt dX6_dress 4 rfl) rfl (lv_at hl 2 rfl) ?_
    refine x_calli C hw (x_runS (As := [.int x2]) (rest := []) C hw (kX6_isEither l E hE x2 σ2 _ h) mtX6_isEither lk_X6_158 ⟨by decide, by decide⟩ ⟨rfl, rfl⟩ rfl hl.1 rfl (Nat.le_of_ble_eq_true rfl) (dAt dX6_dress 5 rfl) ⟨Nat.zero_le _, Nat.zero_le _⟩) (fun r9 σ9 H locs h hw => ?_)
    refine lv_if_ne (tgt := 18) hx hb (dAt dX6_dress 6 rfl) (by decide) (fun c12 => ?_) (fun c12 => ?_)
    · replace h := h.1 c12
      refine lv_aload_n hx hb (dAt dX6_dress 9 rfl) rfl (lv_at hl 0 rfl) ?_
      refine x_callr C hw (x_runV (As := []) (rest := []) C hw (kX6_danced l E hE  σ9 _ h) mtX6_danced lk_X6_145 (hE.1 0) (nX hE (by decide)) rfl ⟨by decide, by decide⟩ ⟨rfl, rfl⟩ rfl hl.1 rfl (Nat.le_of_ble_eq_true rfl) (dAt dX6_dress 10 rfl) ⟨Nat.zero_le _, Nat.zero_le _⟩) (fun σ19 H locs h hw => ?_)
      refine lv_astore_n (lv' := [(3, .ref (gE E 20)), (0, .ref (gE E 0)), (1, .int x1), (2, .int x2)]) hx hb (dAt dX6_dress 11 rfl) rfl hl (by decide) rfl (fun ls hl => ?_)
      refine lv_aload_n hx hb (dAt dX6_dress 12 rfl) rfl (lv_at hl 1 rfl) ?_
      refine x_getr C hw fl_X6_32 (hE.1 0) (nX hE (by decide)) rfl (dAt dX6_dress 13 rfl) ?_
      refine lv_aload_n hx hb (dAt dX6_dress 14 rfl) rfl (lv_at hl 1 rfl) ?_
      refine x_getr C hw fl_X6_28 (hE.1 0) (nX hE (by decide)) rfl (dAt dX6_dress 15 rfl) ?_
      refine x_callv C hw (x_runVN (As := [.ref (gE E 10)]) (rest := []) C hw (kX3_become l E hE 15 isS_15 10 isS_10 σ19 _ h) mtX3_become lk_X6_202 (hE.1 15) (nX hE (by decide)) rfl ⟨by decide, by decide⟩ ⟨rfl, rfl⟩ rfl hl.1 rfl (Nat.le_of_ble_eq_true rfl) (dAt dX6_dress 16 rfl) ⟨Nat.zero_le _, Nat.zero_le _⟩) (fun σ31 H locs h hw => ?_)
      refine lv_iconst (v := -1) hx hb (dAt dX6_dress 17 rfl) (by decide) ?_
      refine lv_istore (lv' := [(4, .int (-1 : Int32)), (3, .ref (gE E 20)), (0, .ref (gE E 0)), (1, .int x1), (2, .int x2)]) hx hb (dAt dX6_dress 18 rfl) hl (by decide) rfl (fun ls hl => ?_)
      refine lv_bipush (v := 121) hx hb (dAt dX6_dress 19 rfl) (by decide) ?_
      refine lv_istore (lv' := [(5, .int (121 : Int32)), (4, .int (-1 : Int32)), (3, .ref (gE E 20)), (0, .ref (gE E 0)), (1, .int x1), (2, .int x2)]) hx hb (dAt dX6_dress 20 rfl) hl (by decide) rfl (fun ls hl => ?_)
      refine lv_iconst (v := 0) hx hb (dAt dX6_dress 21 rfl) (by decide) ?_
      refine lv_istore (lv' := [(6, .int (0 : Int32)), (5, .int (121 : Int32)), (4, .int (-1 : Int32)), (3, .ref (gE E 20)), (0, .ref (gE E 0)), (1, .int x1), (2, .int x2)]) hx hb (dAt dX6_dress 22 rfl) hl (by decide) rfl (fun ls hl => ?_)
      obtain ⟨n44, h⟩ := h
      exact kX6_dress_44 hE C hr hlk n44 x1 x2 (-1 : Int32) (121 : Int32) (0 : Int32) σ31  _ _ _ hw (lv_sub hl [4, 5, 6, 3, 2, 1, 0] rfl) h
    · replace h := h.2 c12
      refine lv_bipush (v := -2) hx hb (dAt dX6_dress 7 rfl) (by decide) ?_
      exact x_iret C hw hr hlk h (dAt dX6_dress 8 rfl)
def tX6_bareBeatsWith : List (Nat × Instr × Nat) := [(0, .iload_n 1, 1), (1, .ifCond .lt 10, 3), (4, .iload_n 1, 1), (5, .sipush 256, 3), (8, .if_icmp .lt 5, 3), (11, .iconst 0, 1), (12, .ireturn, 1), (13, .aload_n 0, 1), (14, .getfield 391, 3), (17, .ifCond .ne 16, 3), (20, .aload_n 0, 1), (21, .getfield 59, 3), (24, .iconst (-1), 1), (25, .invokestatic 267, 3), (28, .aload_n 0, 1), (29, .iconst 1, 1), (30, .putfield 391, 3), (33, .aload_n 0, 1), (34, .getfield 59, 3), (37, .iload_n 1, 1), (38, .iaload, 1), (39, .iconst (-1), 1), (40, .if_icmp .ne 50, 3), (43, .aload_n 0, 1), (44, .getfield 32, 3), (47, .aload_n 0, 1), (48, .getfield 28, 3), (51, .invokevirtual 202, 3), (54, .aload_n 0, 1), (55, .getfield 32, 3), (58, .iload_n 1, 1), (59, .putfield 217, 3), (62, .aload_n 0, 1), (63, .getfield 42, 3), (66, .aload_n 0, 1), (67, .getfield 32, 3), (70, .aload_n 0, 1), (71, .getfield 21, 3), (74, .invokevirtual 206, 3), (77, .aload_n 0, 1), (78, .getfield 59, 3), (81, .iload_n 1, 1), (82, .aload_n 0, 1), (83, .getfield 42, 3), (86, .invokevirtual 394, 3), (89, .iastore, 1), (90, .aload_n 0, 1), (91, .getfield 59, 3), (94, .iload_n 1, 1), (95, .iaload, 1), (96, .ireturn, 1)]
theorem dX6_bareBeatsWith : dOk cX6_bareBeatsWith tX6_bareBeatsWith = true := by decide +kernel
abbrev rX6_bareBeatsWith : Room := { frames := 3, cells := 0, slots := 0, locals := 94 }
def wX6_bareBeatsWith_90 (Q : Int32 → Mem → Prop) (x1 : Int32) (σ : Mem) : Prop := (vp_in x1 256 ∧ (Q (σ 62 (x1).toNatClampNeg) σ))
def wX6_bareBeatsWith_33 (Q : Int32 → Mem → Prop) (x1 : Int32) (σ : Mem) : Prop := (vp_in x1 256 ∧ (((¬ (σ 62 (x1).toNatClampNeg) = (-1 : Int32)) → (wX6_bareBeatsWith_90 Q x1 σ)) ∧ (((σ 62 (x1).toNatClampNeg) = (-1 : Int32)) → (wX3_become 15 10 σ (fun σ51 => (∀ σ59 : Mem, σ59 = um σ51 15 6 x1 → (wX0_play 35 15 σ59 (fun σ74 => (wX0_bareBeats 35 σ74 (fun r86 σ86 => (vp_in x1 256 ∧ (∀ σ89 : Mem, σ89 = um σ86 62 (x1).toNatClampNeg r86 → (wX6_bareBeatsWith_90 Q x1 σ89)))))))))))))
def wX6_bareBeatsWith (x1 : Int32) (σ : Mem) (Q : Int32 → Mem → Prop) : Prop := (((x1 < 0) → (Q (0 : Int32) σ)) ∧ ((¬ x1 < 0) → (((x1 < (256 : Int32)) → (((¬ (σ 0 13) = 0) → (wX6_bareBeatsWith_33 Q x1 σ)) ∧ (((σ 0 13) = 0) → (wJ7_fill_53178 62 256 (-1 : Int32) σ (fun σ25 => (∀ σ30 : Mem, σ30 = um σ25 0 13 (1 : Int32) → (wX6_bareBeatsWith_33 Q x1 σ30))))))) ∧ ((¬ x1 < (256 : Int32)) → (Q (0 : Int32) σ)))))
set_option maxHeartbeats 4000000 in
set_option maxRecDepth 100000 in
theorem kX6_bareBeatsWith_90 {p : Program} {l : Launch} {e : Env} {s : State} {m : MethodId} {args : Array Value} {below : List Frame} {meth : Method} {c : Code} {E : wE} (hE : wX E) (C : Cx p s m args c cX6_bareBeatsWith 2 RX6 E (wA E)) (hr : meth.sig.returnType = (some .int)) (hlk : meth.locks = false) {Q : Int32 → Mem → Prop} : ∀ (x1 : Int32) (σ : Mem) (H : Heap) (locs : List Loc) (ls : Array Slot), wd E (wA E) s σ H locs → lv_has ls 2 [(0, .ref (gE E 0)), (1, .int x1)] → wX6_bareBeatsWith_90 Q x1 σ → W p l e rX6_bareBeatsWith s m args below meth c H locs 0 0 (MQ below (wQi E Q) args s 0 0 (wA E)) (F0 m 90 ls []) := by
  have hx := C.1.1
  have hb := C.1.2.1
  intro x1 σ  H locs ls hw hl h
  unfold wX6_bareBeatsWith_90 at h
  refine lv_aload_n hx hb (dAt dX6_bareBeatsWith 46 rfl) rfl (lv_at hl 0 rfl) ?_
  refine x_getr C hw fl_X6_59 (hE.1 0) (nX hE (by decide)) rfl (dAt dX6_bareBeatsWith 47 rfl) ?_
  refine lv_iload_n hx hb (dAt dX6_bareBeatsWith 48 rfl) rfl (lv_at hl 1 rfl) ?_
  obtain ⟨z95, h⟩ := h
  refine x_ild C hw (hE.1 62) (nX hE (by decide)) z95 rfl (dAt dX6_bareBeatsWith 49 rfl) ?_
  exact x_iret C hw hr hlk h (dAt dX6_bareBeatsWith 50 rfl)
set_option maxHeartbeats 4000000 in
set_option maxRecDepth 100000 in
theorem kX6_bareBeatsWith_33 {p : Program} {l : Launch} {e : Env} {s : State} {m : MethodId} {args : Array Value} {below : List Frame} {meth : Method} {c : Code} {E : wE} (hE : wX E) (C : Cx p s m args c cX6_bareBeatsWith 2 RX6 E (wA E)) (hr : meth.sig.returnType = (some .int)) (hlk : meth.locks = false) {Q : Int32 → Mem → Prop} : ∀ (x1 : Int32) (σ : Mem) (H : Heap) (locs : List Loc) (ls : Array Slot), wd E (wA E) s σ H locs → lv_has ls 2 [(0, .ref (gE E 0)), (1, .int x1)] → wX6_bareBeatsWith_33 Q x1 σ → W p l e rX6_bareBeatsWith s m args below meth c H locs 0 0 (MQ below (wQi E Q) args s 0 0 (wA E)) (F0 m 33 ls []) := by
  have hx := C.1.1
  have hb := C.1.2.1
  intro x1 σ  H locs ls hw hl h
  unfold wX6_bareBeatsWith_33 at h
  refine lv_aload_n hx hb (dAt dX6_bareBeatsWith 17 rfl) rfl (lv_at hl 0 rfl) ?_
  refine x_getr C hw fl_X6_59 (hE.1 0) (nX hE (by decide)) rfl (dAt dX6_bareBeatsWith 18 rfl) ?_
  refine lv_iload_n hx hb (dAt dX6_bareBeatsWith 19 rfl) rfl (lv_at hl 1 rfl) ?_
  obtain ⟨z38, h⟩ := h
  refine x_ild C hw (hE.1 62) (nX hE (by decide)) z38 rfl (dAt dX6_bareBeatsWith 20 rfl) ?_
  refine lv_iconst (v := -1) hx hb (dAt dX6_bareBeatsWith 21 rfl) (by decide) ?_
  refine lv_icmp_ne (tgt := 90) hx hb (dAt dX6_bareBeatsWith 22 rfl) (by decide) (fun c40 => ?_) (fun c40 => ?_)
  · replace h := h.1 c40
    exact kX6_bareBeatsWith_90 hE C hr hlk x1 σ  _ _ _ hw (lv_sub hl [0, 1] rfl) h
  · replace h := h.2 c40
    refine lv_aload_n hx hb (dAt dX6_bareBeatsWith 23 rfl) rfl (lv_at hl 0 rfl) ?_
    refine x_getr C hw fl_X6_32 (hE.1 0) (nX hE (by decide)) rfl (dAt dX6_bareBeatsWith 24 rfl) ?_
    refine lv_aload_n hx hb (dAt dX6_bareBeatsWith 25 rfl) rfl (lv_at hl 0 rfl) ?_
    refine x_getr C hw fl_X6_28 (hE.1 0) (nX hE (by decide)) rfl (dAt dX6_bareBeatsWith 26 rfl) ?_
    refine x_callv C hw (x_runVN (As := [.ref (gE E 10)]) (rest := []) C hw (kX3_become l E hE 15 isS_15 10 isS_10 σ _ h) mtX3_become lk_X6_202 (hE.1 15) (nX hE (by decide)) rfl ⟨by decide, by decide⟩ ⟨rfl, rfl⟩ rfl hl.1 rfl (Nat.le_of_ble_eq_true rfl) (dAt dX6_bareBeatsWith 27 rfl) ⟨Nat.zero_le _, Nat.zero_le _⟩) (fun σ51 H locs h hw => ?_)
    refine lv_aload_n hx hb (dAt dX6_bareBeatsWith 28 rfl) rfl (lv_at hl 0 rfl) ?_
    refine x_getr C hw fl_X6_32 (hE.1 0) (nX hE (by decide)) rfl (dAt dX6_bareBeatsWith 29 rfl) ?_
    refine lv_iload_n hx hb (dAt dX6_bareBeatsWith 30 rfl) rfl (lv_at hl 1 rfl) ?_
    refine x_pfN C hw fl_X6_217 (hE.1 15) (nX hE (by decide)) rfl rfl rfl (dAt dX6_bareBeatsWith 31 rfl) (fun σ59 H locs eσ59 hw => ?_)
    replace h := h σ59 eσ59
    refine lv_aload_n hx hb (dAt dX6_bareBeatsWith 32 rfl) rfl (lv_at hl 0 rfl) ?_
    refine x_getr C hw fl_X6_42 (hE.1 0) (nX hE (by decide)) rfl (dAt dX6_bareBeatsWith 33 rfl) ?_
    refine lv_aload_n hx hb (dAt dX6_bareBeatsWith 34 rfl) rfl (lv_at hl 0 rfl) ?_
    refine x_getr C hw fl_X6_32 (hE.1 0) (nX hE (by decide)) rfl (dAt dX6_bareBeatsWith 35 rfl) ?_
    refine lv_aload_n hx hb (dAt dX6_bareBeatsWith 36 rfl) rfl (lv_at hl 0 rfl) ?_
    refine x_getr C hw fl_X6_21 (hE.1 0) (nX hE (by decide)) rfl (dAt dX6_bareBeatsWith 37 rfl) ?_
    refine x_callv C hw (x_runVN (As := [.ref (gE E 15), .ref (gE E 6)]) (rest := []) C hw (kX0_play l E hE 35 isD_35 15 isS_15 σ59 _ h) mtX0_play lk_X6_206 (hE.1 35) (nX hE (by decide)) rfl ⟨by decide, by decide⟩ ⟨rfl, rfl⟩ rfl hl.1 rfl (Nat.le_of_ble_eq_true rfl) (dAt dX6_bareBeatsWith 38 rfl) ⟨Nat.zero_le _, Nat.zero_le _⟩) (fun σ74 H locs h hw => ?_)
    refine lv_aload_n hx hb (dAt dX6_bareBeatsWith 39 rfl) rfl (lv_at hl 0 rfl) ?_
    refine x_getr C hw fl_X6_59 (hE.1 0) (nX hE (by decide)) rfl (dAt dX6_bareBeatsWith 40 rfl) ?_
    refine lv_iload_n hx hb (dAt dX6_bareBeatsWith 41 rfl) rfl (lv_at hl 1 rfl) ?_
    refine lv_aload_n hx hb (dAt dX6_bareBeatsWith 42 rfl) rfl (lv_at hl 0 rfl) ?_
    refine x_getr C hw fl_X6_42 (hE.1 0) (nX hE (by decide)) rfl (dAt dX6_bareBeatsWith 43 rfl) ?_
    refine x_calli C hw (x_runVN (As := []) (rest := [.int x1, .ref (gE E 62)]) C hw (kX0_bareBeats l E hE 35 isD_35 σ74 _ h) mtX0_bareBeats lk_X6_394 (hE.1 35) (nX hE (by decide)) rfl ⟨by decide, by decide⟩ ⟨rfl, rfl⟩ rfl hl.1 rfl (Nat.le_of_ble_eq_true rfl) (dAt dX6_bareBeatsWith 44 rfl) ⟨Nat.zero_le _, Nat.zero_le _⟩) (fun r86 σ86 H locs h hw => ?_)
    obtain ⟨z89, h⟩ := h
    refine x_ist C hw (hE.1 62) (nX hE (by decide)) z89 rfl (dAt dX6_bareBeatsWith 45 rfl) (fun σ89 H locs eσ89 hw => ?_)
    replace h := h σ89 eσ89
    exact kX6_bareBeatsWith_90 hE C hr hlk x1 σ89  _ _ _ hw (lv_sub hl [0, 1] rfl) h
set_option maxHeartbeats 4000000 in
set_option maxRecDepth 100000 in
theorem kX6_bareBeatsWith (l : Launch) (E : wE) (hE : wX E) (x1 : Int32) (σ : Mem) (Q : Int32 → Mem → Prop) (h : wX6_bareBeatsWith x1 σ Q) : Met l yX6_bareBeatsWith (Cond.code yX6_bareBeatsWith cX6_bareBeatsWith 2 (some .int) :: TB) rX6_bareBeatsWith (wPc E σ [.ref (gE E 0), .int x1]) (wQi E Q) 0 0 (wA E) := by
  refine wMet (by decide) hE.2.2 (Nat.le_of_ble_eq_true rfl) ?_
  intro p e s m args below meth c ls C hr hlk hl hw
  have hx := C.1.1
  have hb := C.1.2.1
  replace C : Cx p s m args c cX6_bareBeatsWith 2 RX6 E (wA E) := C
  replace hl : lv_has ls 2 [(0, .ref (gE E 0)), (1, .int x1)] := hl
  unfold wX6_bareBeatsWith at h
  refine lv_iload_n hx hb (dAt dX6_bareBeatsWith 0 rfl) rfl (lv_at hl 1 rfl) ?_
  refine lv_if_lt (tgt := 11) hx hb (dAt dX6_bareBeatsWith 1 rfl) (by decide) (fun c1 => ?_) (fun c1 => ?_)
  · replace h := h.1 c1
    refine lv_iconst (v := 0) hx hb (dAt dX6_bareBeatsWith 5 rfl) (by decide) ?_
    exact x_iret C hw hr hlk h (dAt dX6_bareBeatsWith 6 rfl)
  · replace h := h.2 c1
    refine lv_iload_n hx hb (dAt dX6_bareBeatsWith 2 rfl) rfl (lv_at hl 1 rfl) ?_
    refine lv_sipush (v := 256) hx hb (dAt dX6_bareBeatsWith 3 rfl) (by decide) ?_
    refine lv_icmp_lt (tgt := 13) hx hb (dAt dX6_bareBeatsWith 4 rfl) (by decide) (fun c8 => ?_) (fun c8 => ?_)
    · replace h := h.1 c8
      refine lv_aload_n hx hb (dAt dX6_bareBeatsWith 7 rfl) rfl (lv_at hl 0 rfl) ?_
      refine x_geti C hw fl_X6_391 (hE.1 0) (nX hE (by decide)) rfl (dAt dX6_bareBeatsWith 8 rfl) ?_
      refine lv_if_ne (tgt := 33) hx hb (dAt dX6_bareBeatsWith 9 rfl) (by decide) (fun c17 => ?_) (fun c17 => ?_)
      · replace h := h.1 c17
        exact kX6_bareBeatsWith_33 hE C hr hlk x1 σ  _ _ _ hw (lv_sub hl [0, 1] rfl) h
      · replace h := h.2 c17
        refine lv_aload_n hx hb (dAt dX6_bareBeatsWith 10 rfl) rfl (lv_at hl 0 rfl) ?_
        refine x_getr C hw fl_X6_59 (hE.1 0) (nX hE (by decide)) rfl (dAt dX6_bareBeatsWith 11 rfl) ?_
        refine lv_iconst (v := -1) hx hb (dAt dX6_bareBeatsWith 12 rfl) (by decide) ?_
        refine x_callv C hw (x_runS (As := [.ref (gE E 62), .int (-1 : Int32)]) (rest := []) C hw (kJ7_fill_53178 l E hE.2.2 62 256 (hE.1 62) (nX hE (by decide)) (-1 : Int32) σ _ h) mtJ7_fill_53178 lk_X6_267 ⟨by decide, by decide⟩ ⟨rfl, rfl⟩ rfl hl.1 rfl (Nat.le_of_ble_eq_true rfl) (dAt dX6_bareBeatsWith 13 rfl) ⟨Nat.zero_le _, Nat.zero_le _⟩) (fun σ25 H locs h hw => ?_)
        refine lv_aload_n hx hb (dAt dX6_bareBeatsWith 14 rfl) rfl (lv_at hl 0 rfl) ?_
        refine lv_iconst (v := 1) hx hb (dAt dX6_bareBeatsWith 15 rfl) (by decide) ?_
        refine x_pf C hw fl_X6_391 (hE.1 0) (nX hE (by decide)) rfl rfl rfl (dAt dX6_bareBeatsWith 16 rfl) (fun σ30 H locs eσ30 hw => ?_)
        replace h := h σ30 eσ30
        exact kX6_bareBeatsWith_33 hE C hr hlk x1 σ30  _ _ _ hw (lv_sub hl [0, 1] rfl) h
    · replace h := h.2 c8
      refine lv_iconst (v := 0) hx hb (dAt dX6_bareBeatsWith 5 rfl) (by decide) ?_
      exact x_iret C hw hr hlk h (dAt dX6_bareBeatsWith 6 rfl)
