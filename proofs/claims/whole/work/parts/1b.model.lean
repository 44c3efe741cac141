def tX7_toldIn : List (Nat × Instr × Nat) := [(0, .iconst 0, 1), (1, .istore_n 3, 1), (2, .iconst 0, 1), (3, .istore 4, 2), (5, .iload 4, 2), (7, .aload_n 0, 1), (8, .getfield 167, 3), (11, .if_icmp .ge 69, 3), (14, .iload_n 3, 1), (15, .aload_n 0, 1), (16, .getfield 34, 3), (19, .iconst 3, 1), (20, .iload 4, 2), (22, .imul, 1), (23, .iaload, 1), (24, .iload_n 1, 1), (25, .if_icmp .ne 46, 3), (28, .aload_n 0, 1), (29, .getfield 34, 3), (32, .iconst 3, 1), (33, .iload 4, 2), (35, .imul, 1), (36, .iconst 1, 1), (37, .iadd, 1), (38, .iaload, 1), (39, .iload_n 2, 1), (40, .if_icmp .ne 31, 3), (43, .aload_n 0, 1), (44, .getfield 172, 3), (47, .iload 4, 2), (49, .invokestatic 175, 3), (52, .ifCond .ne 19, 3), (55, .iconst 1, 1), (56, .aload_n 0, 1), (57, .getfield 34, 3), (60, .iconst 3, 1), (61, .iload 4, 2), (63, .imul, 1), (64, .iconst 2, 1), (65, .iadd, 1), (66, .iaload, 1), (67, .ishl, 1), (68, .goto 4, 3), (71, .iconst 0, 1), (72, .ior, 1), (73, .istore_n 3, 1), (74, .iinc 4 1, 3), (77, .goto (-72), 3), (80, .iload_n 3, 1), (81, .ireturn, 1)]
theorem dX7_toldIn : dOk cX7_toldIn tX7_toldIn = true := by decide +kernel
abbrev rX7_toldIn : Room := { frames := 1, cells := 0, slots := 0, locals := 21 }
def wX7_toldIn_5 (Q : Int32 → Mem → Prop) : Nat → Int32 → Int32 → Int32 → Int32 → Mem → Prop
  | 0, _, _, _, _, _ => False
  | n + 1, x1, x2, x3, x4, σ => ((((σ 0 12) ≤ x4) → (Q x3 σ)) ∧ ((¬ (σ 0 12) ≤ x4) → (vp_in ((3 : Int32) * x4) 24 ∧ (((¬ (σ 9 (((3 : Int32) * x4)).toNatClampNeg) = x1) → (∀ x3_73 : Int32, x3_73 = (x3 ||| (0 : Int32)) → (wX7_toldIn_5 Q n x1 x2 x3_73 (x4 + (1 : Int32)) σ))) ∧ (((σ 9 (((3 : Int32) * x4)).toNatClampNeg) = x1) → (vp_in (((3 : Int32) * x4) + (1 : Int32)) 24 ∧ (((¬ (σ 9 ((((3 : Int32) * x4) + (1 : Int32))).toNatClampNeg) = x2) → (∀ x3_73 : Int32, x3_73 = (x3 ||| (0 : Int32)) → (wX7_toldIn_5 Q n x1 x2 x3_73 (x4 + (1 : Int32)) σ))) ∧ (((σ 9 ((((3 : Int32) * x4) + (1 : Int32))).toNatClampNeg) = x2) → (wX7_isIn (σ 0 14) x4 σ (fun r49 σ49 => (((¬ r49 = 0) → (∀ x3_73 : Int32, x3_73 = (x3 ||| (0 : Int32)) → (wX7_toldIn_5 Q n x1 x2 x3_73 (x4 + (1 : Int32)) σ49))) ∧ ((r49 = 0) → (vp_in (((3 : Int32) * x4) + (2 : Int32)) 24 ∧ (∀ x3_73 : Int32, x3_73 = (x3 ||| ((1 : Int32) <<< ((σ49 9 ((((3 : Int32) * x4) + (2 : Int32))).toNatClampNeg) &&& 31))) → (wX7_toldIn_5 Q n x1 x2 x3_73 (x4 + (1 : Int32)) σ49)))))))))))))))
def wX7_toldIn (x1 : Int32) (x2 : Int32) (σ : Mem) (Q : Int32 → Mem → Prop) : Prop := (∃ N5, wX7_toldIn_5 Q N5 x1 x2 (0 : Int32) (0 : Int32) σ)
set_option maxHeartbeats 4000000 in
set_option maxRecDepth 100000 in
theorem kX7_toldIn_5 {p : Program} {l : Launch} {e : Env} {s : State} {m : MethodId} {args : Array Value} {below : List Frame} {meth : Method} {c : Code} {E : wE} (hE : wM E) (C : Cx p s m args c cX7_toldIn 5 RX7 E (wA E)) (hr : meth.sig.returnType = (some .int)) (hlk : meth.locks = false) {Q : Int32 → Mem → Prop} : ∀ (n : Nat) (x1 : Int32) (x2 : Int32) (x3 : Int32) (x4 : Int32) (σ : Mem) (H : Heap) (locs : List Loc) (ls : Array Slot), wd E (wA E) s σ H locs → lv_has ls 5 [(0, .ref (gE E 0)), (1, .int x1), (2, .int x2), (3, .int x3), (4, .int x4)] → wX7_toldIn_5 Q n x1 x2 x3 x4 σ → W p l e rX7_toldIn s m args below meth c H locs 0 0 (MQ below (wQi E Q) args s 0 0 (wA E)) (F0 m 5 ls []) := by
  have hx := C.1.1
  have hb := C.1.2.1
  intro n
  induction n with
  | zero =>
    intro x1 x2 x3 x4 σ  H locs ls hw hl h
    exact h.elim
  | succ n ih =>
    intro x1 x2 x3 x4 σ  H locs ls hw hl h
    rw [wX7_toldIn_5] at h
    refine lv_iload hx hb (dAt dX7_toldIn 4 rfl) (lv_at hl 4 rfl) ?_
    refine lv_aload_n hx hb (dAt dX7_toldIn 5 rfl) rfl (lv_at hl 0 rfl) ?_
    refine x_geti C hw fl_X7_167 (hE.1 0) (nM hE (by decide)) rfl (dAt dX7_toldIn 6 rfl) ?_
    refine lv_icmp_ge (tgt := 80) hx hb (dAt dX7_toldIn 7 rfl) (by decide) (fun c11 => ?_) (fun c11 => ?_)
    · replace h := h.1 c11
      refine lv_iload_n hx hb (dAt dX7_toldIn 48 rfl) rfl (lv_at hl 3 rfl) ?_
      exact x_iret C hw hr hlk h (dAt dX7_toldIn 49 rfl)
    · replace h := h.2 c11
      refine lv_iload_n hx hb (dAt dX7_toldIn 8 rfl) rfl (lv_at hl 3 rfl) ?_
      refine lv_aload_n hx hb (dAt dX7_toldIn 9 rfl) rfl (lv_at hl 0 rfl) ?_
      refine x_getr C hw fl_X7_34 (hE.1 0) (nM hE (by decide)) rfl (dAt dX7_toldIn 10 rfl) ?_
      refine lv_iconst (v := 3) hx hb (dAt dX7_toldIn 11 rfl) (by decide) ?_
      refine lv_iload hx hb (dAt dX7_toldIn 12 rfl) (lv_at hl 4 rfl) ?_
      refine lv_imul hx hb (dAt dX7_toldIn 13 rfl) ?_
      obtain ⟨z23, h⟩ := h
      refine x_ild C hw (hE.1 9) (nM hE (by decide)) z23 rfl (dAt dX7_toldIn 14 rfl) ?_
      refine lv_iload_n hx hb (dAt dX7_toldIn 15 rfl) rfl (lv_at hl 1 rfl) ?_
      refine lv_icmp_ne (tgt := 71) hx hb (dAt dX7_toldIn 16 rfl) (by decide) (fun c25 => ?_) (fun c25 => ?_)
      · replace h := h.1 c25
        refine lv_iconst (v := 0) hx hb (dAt dX7_toldIn 43 rfl) (by decide) ?_
        refine lv_ior hx hb (dAt dX7_toldIn 44 rfl) ?_
        refine lv_topi (fun x3_73 ex3_73 => ?_)
        replace h := h x3_73 ex3_73
        refine lv_istore_n (lv' := [(3, .int x3_73), (0, .ref (gE E 0)), (1, .int x1), (2, .int x2), (4, .int x4)]) hx hb (dAt dX7_toldIn 45 rfl) rfl hl (by decide) rfl (fun ls hl => ?_)
        refine lv_iinc (v := (x4 + (1 : Int32))) (lv' := [(4, .int (x4 + (1 : Int32))), (3, .int x3_73), (0, .ref (gE E 0)), (1, .int x1), (2, .int x2)]) hx hb (dAt dX7_toldIn 46 rfl) hl (k := 4) rfl rfl (by decide) rfl (fun ls hl => ?_)
        refine lv_goto (tgt := 5) hx hb (dAt dX7_toldIn 47 rfl) (by decide) ?_
        exact ih x1 x2 x3_73 (x4 + (1 : Int32)) σ  _ _ _ hw (lv_sub hl [2, 3, 4, 1, 0] rfl) h
      · replace h := h.2 c25
        refine lv_aload_n hx hb (dAt dX7_toldIn 17 rfl) rfl (lv_at hl 0 rfl) ?_
        refine x_getr C hw fl_X7_34 (hE.1 0) (nM hE (by decide)) rfl (dAt dX7_toldIn 18 rfl) ?_
        refine lv_iconst (v := 3) hx hb (dAt dX7_toldIn 19 rfl) (by decide) ?_
        refine lv_iload hx hb (dAt dX7_toldIn 20 rfl) (lv_at hl 4 rfl) ?_
        refine lv_imul hx hb (dAt dX7_toldIn 21 rfl) ?_
        refine lv_iconst (v := 1) hx hb (dAt dX7_toldIn 22 rfl) (by decide) ?_
        refine lv_iadd hx hb (dAt dX7_toldIn 23 rfl) ?_
        obtain ⟨z38, h⟩ := h
        refine x_ild C hw (hE.1 9) (nM hE (by decide)) z38 rfl (dAt dX7_toldIn 24 rfl) ?_
        refine lv_iload_n hx hb (dAt dX7_toldIn 25 rfl) rfl (lv_at hl 2 rfl) ?_
        refine lv_icmp_ne (tgt := 71) hx hb (dAt dX7_toldIn 26 rfl) (by decide) (fun c40 => ?_) (fun c40 => ?_)
        · replace h := h.1 c40
          refine lv_iconst (v := 0) hx hb (dAt dX7_toldIn 43 rfl) (by decide) ?_
          refine lv_ior hx hb (dAt dX7_toldIn 44 rfl) ?_
          refine lv_topi (fun x3_73 ex3_73 => ?_)
          replace h := h x3_73 ex3_73
          refine lv_istore_n (lv' := [(3, .int x3_73), (0, .ref (gE E 0)), (1, .int x1), (2, .int x2), (4, .int x4)]) hx hb (dAt dX7_toldIn 45 rfl) rfl hl (by decide) rfl (fun ls hl => ?_)
          refine lv_iinc (v := (x4 + (1 : Int32))) (lv' := [(4, .int (x4 + (1 : Int32))), (3, .int x3_73), (0, .ref (gE E 0)), (1, .int x1), (2, .int x2)]) hx hb (dAt dX7_toldIn 46 rfl) hl (k := 4) rfl rfl (by decide) rfl (fun ls hl => ?_)
          refine lv_goto (tgt := 5) hx hb (dAt dX7_toldIn 47 rfl) (by decide) ?_
          exact ih x1 x2 x3_73 (x4 + (1 : Int32)) σ  _ _ _ hw (lv_sub hl [2, 3, 4, 1, 0] rfl) h
        · replace h := h.2 c40
          refine lv_aload_n hx hb (dAt dX7_toldIn 27 rfl) rfl (lv_at hl 0 rfl) ?_
          refine x_geti C hw fl_X7_172 (hE.1 0) (nM hE (by decide)) rfl (dAt dX7_toldIn 28 rfl) ?_
          refine lv_iload hx hb (dAt dX7_toldIn 29 rfl) (lv_at hl 4 rfl) ?_
          refine x_calli C hw (x_runS (As := [.int (σ 0 14), .int x4]) (rest := [.int x3]) C hw (kX7_isIn l E hE (σ 0 14) x4 σ _ h) mtX7_isIn lk_X7_175 ⟨by decide, by decide⟩ ⟨rfl, rfl⟩ rfl hl.1 rfl (Nat.le_of_ble_eq_true rfl) (dAt dX7_toldIn 30 rfl) ⟨Nat.zero_le _, Nat.zero_le _⟩) (fun r49 σ49 H locs h hw => ?_)
          refine lv_if_ne (tgt := 71) hx hb (dAt dX7_toldIn 31 rfl) (by decide) (fun c52 => ?_) (fun c52 => ?_)
          · replace h := h.1 c52
            refine lv_iconst (v := 0) hx hb (dAt dX7_toldIn 43 rfl) (by decide) ?_
            refine lv_ior hx hb (dAt dX7_toldIn 44 rfl) ?_
            refine lv_topi (fun x3_73 ex3_73 => ?_)
            replace h := h x3_73 ex3_73
            refine lv_istore_n (lv' := [(3, .int x3_73), (0, .ref (gE E 0)), (1, .int x1), (2, .int x2), (4, .int x4)]) hx hb (dAt dX7_toldIn 45 rfl) rfl hl (by decide) rfl (fun ls hl => ?_)
            refine lv_iinc (v := (x4 + (1 : Int32))) (lv' := [(4, .int (x4 + (1 : Int32))), (3, .int x3_73), (0, .ref (gE E 0)), (1, .int x1), (2, .int x2)]) hx hb (dAt dX7_toldIn 46 rfl) hl (k := 4) rfl rfl (by decide) rfl (fun ls hl => ?_)
            refine lv_goto (tgt := 5) hx hb (dAt dX7_toldIn 47 rfl) (by decide) ?_
            exact ih x1 x2 x3_73 (x4 + (1 : Int32)) σ49  _ _ _ hw (lv_sub hl [2, 3, 4, 1, 0] rfl) h
          · replace h := h.2 c52
            refine lv_iconst (v := 1) hx hb (dAt dX7_toldIn 32 rfl) (by decide) ?_
            refine lv_aload_n hx hb (dAt dX7_toldIn 33 rfl) rfl (lv_at hl 0 rfl) ?_
            refine x_getr C hw fl_X7_34 (hE.1 0) (nM hE (by decide)) rfl (dAt dX7_toldIn 34 rfl) ?_
            refine lv_iconst (v := 3) hx hb (dAt dX7_toldIn 35 rfl) (by decide) ?_
            refine lv_iload hx hb (dAt dX7_toldIn 36 rfl) (lv_at hl 4 rfl) ?_
            refine lv_imul hx hb (dAt dX7_toldIn 37 rfl) ?_
            refine lv_iconst (v := 2) hx hb (dAt dX7_toldIn 38 rfl) (by decide) ?_
            refine lv_iadd hx hb (dAt dX7_toldIn 39 rfl) ?_
            obtain ⟨z66, h⟩ := h
            refine x_ild C hw (hE.1 9) (nM hE (by decide)) z66 rfl (dAt dX7_toldIn 40 rfl) ?_
            refine lv_ishl hx hb (dAt dX7_toldIn 41 rfl) ?_
            refine lv_goto (tgt := 72) hx hb (dAt dX7_toldIn 42 rfl) (by decide) ?_
            refine lv_ior hx hb (dAt dX7_toldIn 44 rfl) ?_
            refine lv_topi (fun x3_73 ex3_73 => ?_)
            replace h := h x3_73 ex3_73
            refine lv_istore_n (lv' := [(3, .int x3_73), (0, .ref (gE E 0)), (1, .int x1), (2, .int x2), (4, .int x4)]) hx hb (dAt dX7_toldIn 45 rfl) rfl hl (by decide) rfl (fun ls hl => ?_)
            refine lv_iinc (v := (x4 + (1 : Int32))) (lv' := [(4, .int (x4 + (1 : Int32))), (3, .int x3_73), (0, .ref (gE E 0)), (1, .int x1), (2, .int x2)]) hx hb (dAt dX7_toldIn 46 rfl) hl (k := 4) rfl rfl (by decide) rfl (fun ls hl => ?_)
            refine lv_goto (tgt := 5) hx hb (dAt dX7_toldIn 47 rfl) (by decide) ?_
            exact ih x1 x2 x3_73 (x4 + (1 : Int32)) σ49  _ _ _ hw (lv_sub hl [2, 3, 4, 1, 0] rfl) h
set_option maxHeartbeats 4000000 in
set_option maxRecDepth 100000 in
theorem kX7_toldIn (l : Launch) (E : wE) (hE : wM E) (x1 : Int32) (x2 : Int32) (σ : Mem) (Q : Int32 → Mem → Prop) (h : wX7_toldIn x1 x2 σ Q) : Met l yX7_toldIn (Cond.code yX7_toldIn cX7_toldIn 5 (some .int) :: TB) rX7_toldIn (wPc E σ [.ref (gE E 0), .int x1, .int x2]) (wQi E Q) 0 0 (wA E) := by
  refine wMet (by decide) hE.2.2 (Nat.le_of_ble_eq_true rfl) ?_
  intro p e s m args below meth c ls C hr hlk hl hw
  have hx := C.1.1
  have hb := C.1.2.1
  replace C : Cx p s m args c cX7_toldIn 5 RX7 E (wA E) := C
  replace hl : lv_has ls 5 [(0, .ref (gE E 0)), (1, .int x1), (2, .int x2)] := hl
  unfold wX7_toldIn at h
  refine lv_iconst (v := 0) hx hb (dAt dX7_toldIn 0 rfl) (by decide) ?_
  refine lv_istore_n (lv' := [(3, .int (0 : Int32)), (0, .ref (gE E 0)), (1, .int x1), (2, .int x2)]) hx hb (dAt dX7_toldIn 1 rfl) rfl hl (by decide) rfl (fun ls hl => ?_)
  refine lv_iconst (v := 0) hx hb (dAt dX7_toldIn 2 rfl) (by decide) ?_
  refine lv_istore (lv' := [(4, .int (0 : Int32)), (3, .int (0 : Int32)), (0, .ref (gE E 0)), (1, .int x1), (2, .int x2)]) hx hb (dAt dX7_toldIn 3 rfl) hl (by decide) rfl (fun ls hl => ?_)
  obtain ⟨n5, h⟩ := h
  exact kX7_toldIn_5 hE C hr hlk n5 x1 x2 (0 : Int32) (0 : Int32) σ  _ _ _ hw (lv_sub hl [2, 3, 4, 1, 0] rfl) h
def tX7_meets : List (Nat × Instr × Nat) := [(0, .aload_n 0, 1), (1, .getfield 37, 3), (4, .iload_n 1, 1), (5, .iaload, 1), (6, .aload_n 0, 1), (7, .getfield 40, 3), (10, .iload_n 2, 1), (11, .iaload, 1), (12, .if_icmp .ne 22, 3), (15, .aload_n 0, 1), (16, .getfield 37, 3), (19, .iload_n 2, 1), (20, .iaload, 1), (21, .aload_n 0, 1), (22, .getfield 40, 3), (25, .iload_n 1, 1), (26, .iaload, 1), (27, .if_icmp .ne 7, 3), (30, .iconst 1, 1), (31, .goto 4, 3), (34, .iconst 0, 1), (35, .istore_n 3, 1), (36, .aload_n 0, 1), (37, .getfield 43, 3), (40, .iload_n 1, 1), (41, .iaload, 1), (42, .aload_n 0, 1), (43, .getfield 43, 3), (46, .iload_n 2, 1), (47, .iaload, 1), (48, .if_icmp .eq 41, 3), (51, .aload_n 0, 1), (52, .getfield 40, 3), (55, .iload_n 1, 1), (56, .iaload, 1), (57, .aload_n 0, 1), (58, .getfield 40, 3), (61, .iload_n 2, 1), (62, .iaload, 1), (63, .if_icmp .eq 26, 3), (66, .iload_n 3, 1), (67, .ifCond .ne 18, 3), (70, .aload_n 0, 1), (71, .getfield 37, 3), (74, .iload_n 1, 1), (75, .iaload, 1), (76, .aload_n 0, 1), (77, .getfield 37, 3), (80, .iload_n 2, 1), (81, .iaload, 1), (82, .if_icmp .ne 7, 3), (85, .iconst 1, 1), (86, .goto 4, 3), (89, .iconst 0, 1), (90, .ireturn, 1)]
theorem dX7_meets : dOk cX7_meets tX7_meets = true := by decide +kernel
abbrev rX7_meets : Room := { frames := 0, cells := 0, slots := 0, locals := 0 }
def wX7_meets_35 (Q : Int32 → Mem → Prop) (x1 : Int32) (x2 : Int32) (y0 : Int32) (σ : Mem) : Prop := (vp_in x1 8 ∧ (vp_in x2 8 ∧ ((((σ 12 (x1).toNatClampNeg) = (σ 12 (x2).toNatClampNeg)) → (Q (0 : Int32) σ)) ∧ ((¬ (σ 12 (x1).toNatClampNeg) = (σ 12 (x2).toNatClampNeg)) → (vp_in x1 8 ∧ (vp_in x2 8 ∧ ((((σ 11 (x1).toNatClampNeg) = (σ 11 (x2).toNatClampNeg)) → (Q (0 : Int32) σ)) ∧ ((¬ (σ 11 (x1).toNatClampNeg) = (σ 11 (x2).toNatClampNeg)) → (((¬ y0 = 0) → (Q (1 : Int32) σ)) ∧ ((y0 = 0) → (vp_in x1 8 ∧ (vp_in x2 8 ∧ (((¬ (σ 10 (x1).toNatClampNeg) = (σ 10 (x2).toNatClampNeg)) → (Q (0 : Int32) σ)) ∧ (((σ 10 (x1).toNatClampNeg) = (σ 10 (x2).toNatClampNeg)) → (Q (1 : Int32) σ)))))))))))))))
def wX7_meets (x1 : Int32) (x2 : Int32) (σ : Mem) (Q : Int32 → Mem → Prop) : Prop := (vp_in x1 8 ∧ (vp_in x2 8 ∧ (((¬ (σ 10 (x1).toNatClampNeg) = (σ 11 (x2).toNatClampNeg)) → (wX7_meets_35 Q x1 x2 (0 : Int32) σ)) ∧ (((σ 10 (x1).toNatClampNeg) = (σ 11 (x2).toNatClampNeg)) → (vp_in x2 8 ∧ (vp_in x1 8 ∧ (((¬ (σ 10 (x2).toNatClampNeg) = (σ 11 (x1).toNatClampNeg)) → (wX7_meets_35 Q x1 x2 (0 : Int32) σ)) ∧ (((σ 10 (x2).toNatClampNeg) = (σ 11 (x1).toNatClampNeg)) → (wX7_meets_35 Q x1 x2 (1 : Int32) σ)))))))))
set_option maxHeartbeats 4000000 in
set_option maxRecDepth 100000 in
theorem kX7_meets_35 {p : Program} {l : Launch} {e : Env} {s : State} {m : MethodId} {args : Array Value} {below : List Frame} {meth : Method} {c : Code} {E : wE} (hE : wM E) (C : Cx p s m args c cX7_meets 4 RX7 E (wA E)) (hr : meth.sig.returnType = (some .boolean)) (hlk : meth.locks = false) {Q : Int32 → Mem → Prop} : ∀ (x1 : Int32) (x2 : Int32) (y0 : Int32) (σ : Mem) (H : Heap) (locs : List Loc) (ls : Array Slot), wd E (wA E) s σ H locs → lv_has ls 4 [(0, .ref (gE E 0)), (1, .int x1), (2, .int x2)] → wX7_meets_35 Q x1 x2 y0 σ → W p l e rX7_meets s m args below meth c H locs 0 0 (MQ below (wQi E Q) args s 0 0 (wA E)) (F0 m 35 ls [.int y0]) := by
  have hx := C.1.1
  have hb := C.1.2.1
  intro x1 x2 y0 σ  H locs ls hw hl h
  unfold wX7_meets_35 at h
  refine lv_istore_n (lv' := [(3, .int y0), (0, .ref (gE E 0)), (1, .int x1), (2, .int x2)]) hx hb (dAt dX7_meets 21 rfl) rfl hl (by decide) rfl (fun ls hl => ?_)
  refine lv_aload_n hx hb (dAt dX7_meets 22 rfl) rfl (lv_at hl 1 rfl) ?_
  refine x_getr C hw fl_X7_43 (hE.1 0) (nM hE (by decide)) rfl (dAt dX7_meets 23 rfl) ?_
  refine lv_iload_n hx hb (dAt dX7_meets 24 rfl) rfl (lv_at hl 2 rfl) ?_
  obtain ⟨z41, h⟩ := h
  refine x_ild C hw (hE.1 12) (nM hE (by decide)) z41 rfl (dAt dX7_meets 25 rfl) ?_
  refine lv_aload_n hx hb (dAt dX7_meets 26 rfl) rfl (lv_at hl 1 rfl) ?_
  refine x_getr C hw fl_X7_43 (hE.1 0) (nM hE (by decide)) rfl (dAt dX7_meets 27 rfl) ?_
  refine lv_iload_n hx hb (dAt dX7_meets 28 rfl) rfl (lv_at hl 3 rfl) ?_
  obtain ⟨z47, h⟩ := h
  refine x_ild C hw (hE.1 12) (nM hE (by decide)) z47 rfl (dAt dX7_meets 29 rfl) ?_
  refine lv_icmp_eq (tgt := 89) hx hb (dAt dX7_meets 30 rfl) (by decide) (fun c48 => ?_) (fun c48 => ?_)
  · replace h := h.1 c48
    refine lv_iconst (v := 0) hx hb (dAt dX7_meets 53 rfl) (by decide) ?_
    exact x_zret C hw hr hlk rfl h (dAt dX7_meets 54 rfl)
  · replace h := h.2 c48
    refine lv_aload_n hx hb (dAt dX7_meets 31 rfl) rfl (lv_at hl 1 rfl) ?_
    refine x_getr C hw fl_X7_40 (hE.1 0) (nM hE (by decide)) rfl (dAt dX7_meets 32 rfl) ?_
    refine lv_iload_n hx hb (dAt dX7_meets 33 rfl) rfl (lv_at hl 2 rfl) ?_
    obtain ⟨z56, h⟩ := h
    refine x_ild C hw (hE.1 11) (nM hE (by decide)) z56 rfl (dAt dX7_meets 34 rfl) ?_
    refine lv_aload_n hx hb (dAt dX7_meets 35 rfl) rfl (lv_at hl 1 rfl) ?_
    refine x_getr C hw fl_X7_40 (hE.1 0) (nM hE (by decide)) rfl (dAt dX7_meets 36 rfl) ?_
    refine lv_iload_n hx hb (dAt dX7_meets 37 rfl) rfl (lv_at hl 3 rfl) ?_
    obtain ⟨z62, h⟩ := h
    refine x_ild C hw (hE.1 11) (nM hE (by decide)) z62 rfl (dAt dX7_meets 38 rfl) ?_
    refine lv_icmp_eq (tgt := 89) hx hb (dAt dX7_meets 39 rfl) (by decide) (fun c63 => ?_) (fun c63 => ?_)
    · replace h := h.1 c63
      refine lv_iconst (v := 0) hx hb (dAt dX7_meets 53 rfl) (by decide) ?_
      exact x_zret C hw hr hlk rfl h (dAt dX7_meets 54 rfl)
    · replace h := h.2 c63
      refine lv_iload_n hx hb (dAt dX7_meets 40 rfl) rfl (lv_at hl 0 rfl) ?_
      refine lv_if_ne (tgt := 85) hx hb (dAt dX7_meets 41 rfl) (by decide) (fun c67 => ?_) (fun c67 => ?_)
      · replace h := h.1 c67
        refine lv_iconst (v := 1) hx hb (dAt dX7_meets 51 rfl) (by decide) ?_
        refine lv_goto (tgt := 90) hx hb (dAt dX7_meets 52 rfl) (by decide) ?_
        exact x_zret C hw hr hlk rfl h (dAt dX7_meets 54 rfl)
      · replace h := h.2 c67
        refine lv_aload_n hx hb (dAt dX7_meets 42 rfl) rfl (lv_at hl 1 rfl) ?_
        refine x_getr C hw fl_X7_37 (hE.1 0) (nM hE (by decide)) rfl (dAt dX7_meets 43 rfl) ?_
        refine lv_iload_n hx hb (dAt dX7_meets 44 rfl) rfl (lv_at hl 2 rfl) ?_
        obtain ⟨z75, h⟩ := h
        refine x_ild C hw (hE.1 10) (nM hE (by decide)) z75 rfl (dAt dX7_meets 45 rfl) ?_
        refine lv_aload_n hx hb (dAt dX7_meets 46 rfl) rfl (lv_at hl 1 rfl) ?_
        refine x_getr C hw fl_X7_37 (hE.1 0) (nM hE (by decide)) rfl (dAt dX7_meets 47 rfl) ?_
        refine lv_iload_n hx hb (dAt dX7_meets 48 rfl) rfl (lv_at hl 3 rfl) ?_
        obtain ⟨z81, h⟩ := h
        refine x_ild C hw (hE.1 10) (nM hE (by decide)) z81 rfl (dAt dX7_meets 49 rfl) ?_
        refine lv_icmp_ne (tgt := 89) hx hb (dAt dX7_meets 50 rfl) (by decide) (fun c82 => ?_) (fun c82 => ?_)
        · replace h := h.1 c82
          refine lv_iconst (v := 0) hx hb (dAt dX7_meets 53 rfl) (by decide) ?_
          exact x_zret C hw hr hlk rfl h (dAt dX7_meets 54 rfl)
        · replace h := h.2 c82
          refine lv_iconst (v := 1) hx hb (dAt dX7_meets 51 rfl) (by decide) ?_
          refine lv_goto (tgt := 90) hx hb (dAt dX7_meets 52 rfl) (by decide) ?_
          exact x_zret C hw hr hlk rfl h (dAt dX7_meets 54 rfl)
set_option maxHeartbeats 4000000 in
set_option maxRecDepth 100000 in
theorem kX7_meets (l : Launch) (E : wE) (hE : wM E) (x1 : Int32) (x2 : Int32) (σ : Mem) (Q : Int32 → Mem → Prop) (h : wX7_meets x1 x2 σ Q) : Met l yX7_meets (Cond.code yX7_meets cX7_meets 4 (some .boolean) :: TB) rX7_meets (wPc E σ [.ref (gE E 0), .int x1, .int x2]) (wQi E Q) 0 0 (wA E) := by
  refine wMet (by decide) hE.2.2 (Nat.le_of_ble_eq_true rfl) ?_
  intro p e s m args below meth c ls C hr hlk hl hw
  have hx := C.1.1
  have hb := C.1.2.1
  replace C : Cx p s m args c cX7_meets 4 RX7 E (wA E) := C
  replace hl : lv_has ls 4 [(0, .ref (gE E 0)), (1, .int x1), (2, .int x2)] := hl
  unfold wX7_meets at h
  refine lv_aload_n hx hb (dAt dX7_meets 0 rfl) rfl (lv_at hl 0 rfl) ?_
  refine x_getr C hw fl_X7_37 (hE.1 0) (nM hE (by decide)) rfl (dAt dX7_meets 1 rfl) ?_
  refine lv_iload_n hx hb (dAt dX7_meets 2 rfl) rfl (lv_at hl 1 rfl) ?_
  obtain ⟨z5, h⟩ := h
  refine x_ild C hw (hE.1 10) (nM hE (by decide)) z5 rfl (dAt dX7_meets 3 rfl) ?_
  refine lv_aload_n hx hb (dAt dX7_meets 4 rfl) rfl (lv_at hl 0 rfl) ?_
  refine x_getr C hw fl_X7_40 (hE.1 0) (nM hE (by decide)) rfl (dAt dX7_meets 5 rfl) ?_
  refine lv_iload_n hx hb (dAt dX7_meets 6 rfl) rfl (lv_at hl 2 rfl) ?_
  obtain ⟨z11, h⟩ := h
  refine x_ild C hw (hE.1 11) (nM hE (by decide)) z11 rfl (dAt dX7_meets 7 rfl) ?_
  refine lv_icmp_ne (tgt := 34) hx hb (dAt dX7_meets 8 rfl) (by decide) (fun c12 => ?_) (fun c12 => ?_)
  · replace h := h.1 c12
    refine lv_iconst (v := 0) hx hb (dAt dX7_meets 20 rfl) (by decide) ?_
    exact kX7_meets_35 hE C hr hlk x1 x2 (0 : Int32) σ  _ _ _ hw (lv_sub hl [0, 1, 2] rfl) h
  · replace h := h.2 c12
    refine lv_aload_n hx hb (dAt dX7_meets 9 rfl) rfl (lv_at hl 0 rfl) ?_
    refine x_getr C hw fl_X7_37 (hE.1 0) (nM hE (by decide)) rfl (dAt dX7_meets 10 rfl) ?_
    refine lv_iload_n hx hb (dAt dX7_meets 11 rfl) rfl (lv_at hl 2 rfl) ?_
    obtain ⟨z20, h⟩ := h
    refine x_ild C hw (hE.1 10) (nM hE (by decide)) z20 rfl (dAt dX7_meets 12 rfl) ?_
    refine lv_aload_n hx hb (dAt dX7_meets 13 rfl) rfl (lv_at hl 0 rfl) ?_
    refine x_getr C hw fl_X7_40 (hE.1 0) (nM hE (by decide)) rfl (dAt dX7_meets 14 rfl) ?_
    refine lv_iload_n hx hb (dAt dX7_meets 15 rfl) rfl (lv_at hl 1 rfl) ?_
    obtain ⟨z26, h⟩ := h
    refine x_ild C hw (hE.1 11) (nM hE (by decide)) z26 rfl (dAt dX7_meets 16 rfl) ?_
    refine lv_icmp_ne (tgt := 34) hx hb (dAt dX7_meets 17 rfl) (by decide) (fun c27 => ?_) (fun c27 => ?_)
    · replace h := h.1 c27
      refine lv_iconst (v := 0) hx hb (dAt dX7_meets 20 rfl) (by decide) ?_
      exact kX7_meets_35 hE C hr hlk x1 x2 (0 : Int32) σ  _ _ _ hw (lv_sub hl [0, 1, 2] rfl) h
    · replace h := h.2 c27
      refine lv_iconst (v := 1) hx hb (dAt dX7_meets 18 rfl) (by decide) ?_
      refine lv_goto (tgt := 35) hx hb (dAt dX7_meets 19 rfl) (by decide) ?_
      exact kX7_meets_35 hE C hr hlk x1 x2 (1 : Int32) σ  _ _ _ hw (lv_sub hl [0, 1, 2] rfl) h
def tX7_takes : List (Nat × Instr × Nat) := [(0, .aload_n 0, 1), (1, .getfield 46, 3), (4, .iload_n 1, 1), (5, .dup2, 1), (6, .iaload, 1), (7, .iload_n 3, 1), (8, .iadd, 1), (9, .iastore, 1), (10, .aload_n 0, 1), (11, .getfield 46, 3), (14, .iload_n 2, 1), (15, .dup2, 1), (16, .iaload, 1), (17, .iload_n 3, 1), (18, .iadd, 1), (19, .iastore, 1), (20, .return_, 1)]
theorem dX7_takes : dOk cX7_takes tX7_takes = true := by decide +kernel
abbrev rX7_takes : Room := { frames := 0, cells := 0, slots := 0, locals := 0 }
def wX7_takes (x1 : Int32) (x2 : Int32) (x3 : Int32) (σ : Mem) (Q : Mem → Prop) : Prop := (vp_in x1 8 ∧ (vp_in x1 8 ∧ (∀ σ9 : Mem, σ9 = um σ 13 (x1).toNatClampNeg ((σ 13 (x1).toNatClampNeg) + x3) → (vp_in x2 8 ∧ (vp_in x2 8 ∧ (∀ σ19 : Mem, σ19 = um σ9 13 (x2).toNatClampNeg ((σ9 13 (x2).toNatClampNeg) + x3) → (Q σ19)))))))
set_option maxHeartbeats 4000000 in
set_option maxRecDepth 100000 in
theorem kX7_takes (l : Launch) (E : wE) (hE : wM E) (x1 : Int32) (x2 : Int32) (x3 : Int32) (σ : Mem) (Q : Mem → Prop) (h : wX7_takes x1 x2 x3 σ Q) : Met l yX7_takes (Cond.code yX7_takes cX7_takes 4 none :: TB) rX7_takes (wPc E σ [.ref (gE E 0), .int x1, .int x2, .int x3]) (wQv E Q) 0 0 (wA E) := by
  refine wMet (by decide) hE.2.2 (Nat.le_of_ble_eq_true rfl) ?_
  intro p e s m args below meth c ls C hr hlk hl hw
  have hx := C.1.1
  have hb := C.1.2.1
  replace C : Cx p s m args c cX7_takes 4 RX7 E (wA E) := C
  replace hl : lv_has ls 4 [(0, .ref (gE E 0)), (1, .int x1), (2, .int x2), (3, .int x3)] := hl
  unfold wX7_takes at h
  refine lv_aload_n hx hb (dAt dX7_takes 0 rfl) rfl (lv_at hl 0 rfl) ?_
  refine x_getr C hw fl_X7_46 (hE.1 0) (nM hE (by decide)) rfl (dAt dX7_takes 1 rfl) ?_
  refine lv_iload_n hx hb (dAt dX7_takes 2 rfl) rfl (lv_at hl 1 rfl) ?_
  refine lv_dup2_11 hx hb (dAt dX7_takes 3 rfl) rfl rfl ?_
  obtain ⟨z6, h⟩ := h
  refine x_ild C hw (hE.1 13) (nM hE (by decide)) z6 rfl (dAt dX7_takes 4 rfl) ?_
  refine lv_iload_n hx hb (dAt dX7_takes 5 rfl) rfl (lv_at hl 3 rfl) ?_
  refine lv_iadd hx hb (dAt dX7_takes 6 rfl) ?_
  obtain ⟨z9, h⟩ := h
  refine x_ist C hw (hE.1 13) (nM hE (by decide)) z9 rfl (dAt dX7_takes 7 rfl) (fun σ9 H locs eσ9 hw => ?_)
  replace h := h σ9 eσ9
  refine lv_aload_n hx hb (dAt dX7_takes 8 rfl) rfl (lv_at hl 0 rfl) ?_
  refine x_getr C hw fl_X7_46 (hE.1 0) (nM hE (by decide)) rfl (dAt dX7_takes 9 rfl) ?_
  refine lv_iload_n hx hb (dAt dX7_takes 10 rfl) rfl (lv_at hl 2 rfl) ?_
  refine lv_dup2_11 hx hb (dAt dX7_takes 11 rfl) rfl rfl ?_
  obtain ⟨z16, h⟩ := h
  refine x_ild C hw (hE.1 13) (nM hE (by decide)) z16 rfl (dAt dX7_takes 12 rfl) ?_
  refine lv_iload_n hx hb (dAt dX7_takes 13 rfl) rfl (lv_at hl 3 rfl) ?_
  refine lv_iadd hx hb (dAt dX7_takes 14 rfl) ?_
  obtain ⟨z19, h⟩ := h
  refine x_ist C hw (hE.1 13) (nM hE (by decide)) z19 rfl (dAt dX7_takes 15 rfl) (fun σ19 H locs eσ19 hw => ?_)
  replace h := h σ19 eσ19
  exact x_vret C hw hr hlk h (dAt dX7_takes 16 rfl)
def tX7_weaves : List (Nat × Instr × Nat) := [(0, .aload_n 0, 1), (1, .getfield 178, 3), (4, .iconst 1, 1), (5, .isub, 1), (6, .istore 4, 2), (8, .aload_n 0, 1), (9, .getfield 178, 3), (12, .ifCond .le 71, 3), (15, .aload_n 0, 1), (16, .getfield 49, 3), (19, .iload 4, 2), (21, .iaload, 1), (22, .iload_n 2, 1), (23, .if_icmp .ne 60, 3), (26, .aload_n 0, 1), (27, .getfield 52, 3), (30, .iload 4, 2), (32, .iaload, 1), (33, .iload_n 3, 1), (34, .if_icmp .ne 49, 3), (37, .aload_n 0, 1), (38, .getfield 55, 3), (41, .iload 4, 2), (43, .iaload, 1), (44, .aload_n 0, 1), (45, .getfield 43, 3), (48, .iload_n 2, 1), (49, .iaload, 1), (50, .if_icmp .eq 33, 3), (53, .aload_n 0, 1), (54, .dup, 1), (55, .getfield 178, 3), (58, .iconst 1, 1), (59, .isub, 1), (60, .putfield 178, 3), (63, .aload_n 0, 1), (64, .dup, 1), (65, .getfield 181, 3), (68, .iconst 1, 1), (69, .iadd, 1), (70, .putfield 181, 3), (73, .aload_n 0, 1), (74, .iload_n 2, 1), (75, .iload_n 3, 1), (76, .iconst 1, 1), (77, .invokevirtual 184, 3), (80, .goto 93, 3), (83, .aload_n 0, 1), (84, .getfield 46, 3), (87, .iload_n 2, 1), (88, .iaload, 1), (89, .ifCond .le 84, 3), (92, .aload_n 0, 1), (93, .getfield 46, 3), (96, .iload_n 3, 1), (97, .iaload, 1), (98, .ifCond .le 75, 3), (101, .aload_n 0, 1), (102, .getfield 49, 3), (105, .aload_n 0, 1), (106, .getfield 178, 3), (109, .iload_n 2, 1), (110, .iastore, 1), (111, .aload_n 0, 1), (112, .getfield 52, 3), (115, .aload_n 0, 1), (116, .getfield 178, 3), (119, .iload_n 3, 1), (120, .iastore, 1), (121, .aload_n 0, 1), (122, .getfield 55, 3), (125, .aload_n 0, 1), (126, .getfield 178, 3), (129, .aload_n 0, 1), (130, .getfield 43, 3), (133, .iload_n 2, 1), (134, .iaload, 1), (135, .iastore, 1), (136, .aload_n 0, 1), (137, .getfield 58, 3), (140, .aload_n 0, 1), (141, .getfield 178, 3), (144, .iload_n 1, 1), (145, .iastore, 1), (146, .aload_n 0, 1), (147, .dup, 1), (148, .getfield 178, 3), (151, .iconst 1, 1), (152, .iadd, 1), (153, .putfield 178, 3), (156, .aload_n 0, 1), (157, .dup, 1), (158, .getfield 188, 3), (161, .iconst 1, 1), (162, .iadd, 1), (163, .putfield 188, 3), (166, .aload_n 0, 1), (167, .iload_n 2, 1), (168, .iload_n 3, 1), (169, .iconst (-1), 1), (170, .invokevirtual 184, 3), (173, .return_, 1)]
theorem dX7_weaves : dOk cX7_weaves tX7_weaves = true := by decide +kernel
abbrev rX7_weaves : Room := { frames := 1, cells := 0, slots := 0, locals := 23 }
def wX7_weaves_83 (Q : Mem → Prop) (x1 : Int32) (x2 : Int32) (x3 : Int32) (σ : Mem) : Prop := (vp_in x2 8 ∧ ((((σ 13 (x2).toNatClampNeg) ≤ 0) → (Q σ)) ∧ ((¬ (σ 13 (x2).toNatClampNeg) ≤ 0) → (vp_in x3 8 ∧ ((((σ 13 (x3).toNatClampNeg) ≤ 0) → (Q σ)) ∧ ((¬ (σ 13 (x3).toNatClampNeg) ≤ 0) → (vp_in (σ 0 20) 120 ∧ (∀ σ110 : Mem, σ110 = um σ 14 ((σ 0 20)).toNatClampNeg x2 → (vp_in (σ110 0 20) 120 ∧ (∀ σ120 : Mem, σ120 = um σ110 15 ((σ110 0 20)).toNatClampNeg x3 → (vp_in x2 8 ∧ (vp_in (σ120 0 20) 120 ∧ (∀ σ135 : Mem, σ135 = um σ120 16 ((σ120 0 20)).toNatClampNeg (σ120 12 (x2).toNatClampNeg) → (vp_in (σ135 0 20) 120 ∧ (∀ σ145 : Mem, σ145 = um σ135 17 ((σ135 0 20)).toNatClampNeg x1 → (∀ σ153 : Mem, σ153 = um σ145 0 20 ((σ145 0 20) + (1 : Int32)) → (∀ σ163 : Mem, σ163 = um σ153 0 26 ((σ153 0 26) + (1 : Int32)) → (wX7_takes x2 x3 (-1 : Int32) σ163 (fun σ170 => (Q σ170))))))))))))))))))))
def wX7_weaves (x1 : Int32) (x2 : Int32) (x3 : Int32) (σ : Mem) (Q : Mem → Prop) : Prop := (∀ x4_6 : Int32, x4_6 = ((σ 0 20) - (1 : Int32)) → ((((σ 0 20) ≤ 0) → (wX7_weaves_83 Q x1 x2 x3 σ)) ∧ ((¬ (σ 0 20) ≤ 0) → (vp_in x4_6 120 ∧ (((¬ (σ 14 (x4_6).toNatClampNeg) = x2) → (wX7_weaves_83 Q x1 x2 x3 σ)) ∧ (((σ 14 (x4_6).toNatClampNeg) = x2) → (vp_in x4_6 120 ∧ (((¬ (σ 15 (x4_6).toNatClampNeg) = x3) → (wX7_weaves_83 Q x1 x2 x3 σ)) ∧ (((σ 15 (x4_6).toNatClampNeg) = x3) → (vp_in x4_6 120 ∧ (vp_in x2 8 ∧ ((((σ 16 (x4_6).toNatClampNeg) = (σ 12 (x2).toNatClampNeg)) → (wX7_weaves_83 Q x1 x2 x3 σ)) ∧ ((¬ (σ 16 (x4_6).toNatClampNeg) = (σ 12 (x2).toNatClampNeg)) → (∀ σ60 : Mem, σ60 = um σ 0 20 ((σ 0 20) - (1 : Int32)) → (∀ σ70 : Mem, σ70 = um σ60 0 27 ((σ60 0 27) + (1 : Int32)) → (wX7_takes x2 x3 (1 : Int32) σ70 (fun σ77 => (Q σ77))))))))))))))))))
set_option maxHeartbeats 4000000 in
set_option maxRecDepth 100000 in
theorem kX7_weaves_83 {p : Program} {l : Launch} {e : Env} {s : State} {m : MethodId} {args : Array Value} {below : List Frame} {meth : Method} {c : Code} {E : wE} (hE : wM E) (C : Cx p s m args c cX7_weaves 5 RX7 E (wA E)) (hr : meth.sig.returnType = none) (hlk : meth.locks = false) {Q : Mem → Prop} : ∀ (x1 : Int32) (x2 : Int32) (x3 : Int32) (σ : Mem) (H : Heap) (locs : List Loc) (ls : Array Slot), wd E (wA E) s σ H locs → lv_has ls 5 [(0, .ref (gE E 0)), (1, .int x1), (2, .int x2), (3, .int x3)] → wX7_weaves_83 Q x1 x2 x3 σ → W p l e rX7_weaves s m args below meth c H locs 0 0 (MQ below (wQv E Q) args s 0 0 (wA E)) (F0 m 83 ls []) := by
  have hx := C.1.1
  have hb := C.1.2.1
  intro x1 x2 x3 σ  H locs ls hw hl h
  unfold wX7_weaves_83 at h
  refine lv_aload_n hx hb (dAt dX7_weaves 47 rfl) rfl (lv_at hl 0 rfl) ?_
  refine x_getr C hw fl_X7_46 (hE.1 0) (nM hE (by decide)) rfl (dAt dX7_weaves 48 rfl) ?_
  refine lv_iload_n hx hb (dAt dX7_weaves 49 rfl) rfl (lv_at hl 2 rfl) ?_
  obtain ⟨z88, h⟩ := h
  refine x_ild C hw (hE.1 13) (nM hE (by decide)) z88 rfl (dAt dX7_weaves 50 rfl) ?_
  refine lv_if_le (tgt := 173) hx hb (dAt dX7_weaves 51 rfl) (by decide) (fun c89 => ?_) (fun c89 => ?_)
  · replace h := h.1 c89
    exact x_vret C hw hr hlk h (dAt dX7_weaves 101 rfl)
  · replace h := h.2 c89
    refine lv_aload_n hx hb (dAt dX7_weaves 52 rfl) rfl (lv_at hl 0 rfl) ?_
    refine x_getr C hw fl_X7_46 (hE.1 0) (nM hE (by decide)) rfl (dAt dX7_weaves 53 rfl) ?_
    refine lv_iload_n hx hb (dAt dX7_weaves 54 rfl) rfl (lv_at hl 3 rfl) ?_
    obtain ⟨z97, h⟩ := h
    refine x_ild C hw (hE.1 13) (nM hE (by decide)) z97 rfl (dAt dX7_weaves 55 rfl) ?_
    refine lv_if_le (tgt := 173) hx hb (dAt dX7_weaves 56 rfl) (by decide) (fun c98 => ?_) (fun c98 => ?_)
    · replace h := h.1 c98
      exact x_vret C hw hr hlk h (dAt dX7_weaves 101 rfl)
    · replace h := h.2 c98
      refine lv_aload_n hx hb (dAt dX7_weaves 57 rfl) rfl (lv_at hl 0 rfl) ?_
      refine x_getr C hw fl_X7_49 (hE.1 0) (nM hE (by decide)) rfl (dAt dX7_weaves 58 rfl) ?_
      refine lv_aload_n hx hb (dAt dX7_weaves 59 rfl) rfl (lv_at hl 0 rfl) ?_
      refine x_geti C hw fl_X7_178 (hE.1 0) (nM hE (by decide)) rfl (dAt dX7_weaves 60 rfl) ?_
      refine lv_iload_n hx hb (dAt dX7_weaves 61 rfl) rfl (lv_at hl 2 rfl) ?_
      obtain ⟨z110, h⟩ := h
      refine x_ist C hw (hE.1 14) (nM hE (by decide)) z110 rfl (dAt dX7_weaves 62 rfl) (fun σ110 H locs eσ110 hw => ?_)
      replace h := h σ110 eσ110
      refine lv_aload_n hx hb (dAt dX7_weaves 63 rfl) rfl (lv_at hl 0 rfl) ?_
      refine x_getr C hw fl_X7_52 (hE.1 0) (nM hE (by decide)) rfl (dAt dX7_weaves 64 rfl) ?_
      refine lv_aload_n hx hb (dAt dX7_weaves 65 rfl) rfl (lv_at hl 0 rfl) ?_
      refine x_geti C hw fl_X7_178 (hE.1 0) (nM hE (by decide)) rfl (dAt dX7_weaves 66 rfl) ?_
      refine lv_iload_n hx hb (dAt dX7_weaves 67 rfl) rfl (lv_at hl 3 rfl) ?_
      obtain ⟨z120, h⟩ := h
      refine x_ist C hw (hE.1 15) (nM hE (by decide)) z120 rfl (dAt dX7_weaves 68 rfl) (fun σ120 H locs eσ120 hw => ?_)
      replace h := h σ120 eσ120
      refine lv_aload_n hx hb (dAt dX7_weaves 69 rfl) rfl (lv_at hl 0 rfl) ?_
      refine x_getr C hw fl_X7_55 (hE.1 0) (nM hE (by decide)) rfl (dAt dX7_weaves 70 rfl) ?_
      refine lv_aload_n hx hb (dAt dX7_weaves 71 rfl) rfl (lv_at hl 0 rfl) ?_
      refine x_geti C hw fl_X7_178 (hE.1 0) (nM hE (by decide)) rfl (dAt dX7_weaves 72 rfl) ?_
      refine lv_aload_n hx hb (dAt dX7_weaves 73 rfl) rfl (lv_at hl 0 rfl) ?_
      refine x_getr C hw fl_X7_43 (hE.1 0) (nM hE (by decide)) rfl (dAt dX7_weaves 74 rfl) ?_
      refine lv_iload_n hx hb (dAt dX7_weaves 75 rfl) rfl (lv_at hl 2 rfl) ?_
      obtain ⟨z134, h⟩ := h
      refine x_ild C hw (hE.1 12) (nM hE (by decide)) z134 rfl (dAt dX7_weaves 76 rfl) ?_
      obtain ⟨z135, h⟩ := h
      refine x_ist C hw (hE.1 16) (nM hE (by decide)) z135 rfl (dAt dX7_weaves 77 rfl) (fun σ135 H locs eσ135 hw => ?_)
      replace h := h σ135 eσ135
      refine lv_aload_n hx hb (dAt dX7_weaves 78 rfl) rfl (lv_at hl 0 rfl) ?_
      refine x_getr C hw fl_X7_58 (hE.1 0) (nM hE (by decide)) rfl (dAt dX7_weaves 79 rfl) ?_
      refine lv_aload_n hx hb (dAt dX7_weaves 80 rfl) rfl (lv_at hl 0 rfl) ?_
      refine x_geti C hw fl_X7_178 (hE.1 0) (nM hE (by decide)) rfl (dAt dX7_weaves 81 rfl) ?_
      refine lv_iload_n hx hb (dAt dX7_weaves 82 rfl) rfl (lv_at hl 1 rfl) ?_
      obtain ⟨z145, h⟩ := h
      refine x_ist C hw (hE.1 17) (nM hE (by decide)) z145 rfl (dAt dX7_weaves 83 rfl) (fun σ145 H locs eσ145 hw => ?_)
      replace h := h σ145 eσ145
      refine lv_aload_n hx hb (dAt dX7_weaves 84 rfl) rfl (lv_at hl 0 rfl) ?_
      refine lv_dup hx hb (dAt dX7_weaves 85 rfl) rfl ?_
      refine x_geti C hw fl_X7_178 (hE.1 0) (nM hE (by decide)) rfl (dAt dX7_weaves 86 rfl) ?_
      refine lv_iconst (v := 1) hx hb (dAt dX7_weaves 87 rfl) (by decide) ?_
      refine lv_iadd hx hb (dAt dX7_weaves 88 rfl) ?_
      refine x_pf C hw fl_X7_178 (hE.1 0) (nM hE (by decide)) rfl rfl rfl (dAt dX7_weaves 89 rfl) (fun σ153 H locs eσ153 hw => ?_)
      replace h := h σ153 eσ153
      refine lv_aload_n hx hb (dAt dX7_weaves 90 rfl) rfl (lv_at hl 0 rfl) ?_
      refine lv_dup hx hb (dAt dX7_weaves 91 rfl) rfl ?_
      refine x_geti C hw fl_X7_188 (hE.1 0) (nM hE (by decide)) rfl (dAt dX7_weaves 92 rfl) ?_
      refine lv_iconst (v := 1) hx hb (dAt dX7_weaves 93 rfl) (by decide) ?_
      refine lv_iadd hx hb (dAt dX7_weaves 94 rfl) ?_
      refine x_pf C hw fl_X7_188 (hE.1 0) (nM hE (by decide)) rfl rfl rfl (dAt dX7_weaves 95 rfl) (fun σ163 H locs eσ163 hw => ?_)
      replace h := h σ163 eσ163
      refine lv_aload_n hx hb (dAt dX7_weaves 96 rfl) rfl (lv_at hl 0 rfl) ?_
      refine lv_iload_n hx hb (dAt dX7_weaves 97 rfl) rfl (lv_at hl 2 rfl) ?_
      refine lv_iload_n hx hb (dAt dX7_weaves 98 rfl) rfl (lv_at hl 3 rfl) ?_
      refine lv_iconst (v := -1) hx hb (dAt dX7_weaves 99 rfl) (by decide) ?_
      refine x_callv C hw (x_runV (As := [.int x2, .int x3, .int (-1 : Int32)]) (rest := []) C hw (kX7_takes l E hE x2 x3 (-1 : Int32) σ163 _ h) mtX7_takes lk_X7_184 (hE.1 0) (nM hE (by decide)) rfl ⟨by decide, by decide⟩ ⟨rfl, rfl⟩ rfl hl.1 rfl (Nat.le_of_ble_eq_true rfl) (dAt dX7_weaves 100 rfl) ⟨Nat.zero_le _, Nat.zero_le _⟩) (fun σ170 H locs h hw => ?_)
      exact x_vret C hw hr hlk h (dAt dX7_weaves 101 rfl)
set_option maxHeartbeats 4000000 in
set_option maxRecDepth 100000 in
theorem kX7_weaves (l : Launch) (E : wE) (hE : wM E) (x1 : Int32) (x2 : Int32) (x3 : Int32) (σ : Mem) (Q : Mem → Prop) (h : wX7_weaves x1 x2 x3 σ Q) : Met l yX7_weaves (Cond.code yX7_weaves cX7_weaves 5 none :: TB) rX7_weaves (wPc E σ [.ref (gE E 0), .int x1, .int x2, .int x3]) (wQv E Q) 0 0 (wA E) := by
  refine wMet (by decide) hE.2.2 (Nat.le_of_ble_eq_true rfl) ?_
  intro p e s m args below meth c ls C hr hlk hl hw
  have hx := C.1.1
  have hb := C.1.2.1
  replace C : Cx p s m args c cX7_weaves 5 RX7 E (wA E) := C
  replace hl : lv_has ls 5 [(0, .ref (gE E 0)), (1, .int x1), (2, .int x2), (3, .int x3)] := hl
  unfold wX7_weaves at h
  refine lv_aload_n hx hb (dAt dX7_weaves 0 rfl) rfl (lv_at hl 0 rfl) ?_
  refine x_geti C hw fl_X7_178 (hE.1 0) (nM hE (by decide)) rfl (dAt dX7_weaves 1 rfl) ?_
  refine lv_iconst (v := 1) hx hb (dAt dX7_weaves 2 rfl) (by decide) ?_
  refine lv_isub hx hb (dAt dX7_weaves 3 rfl) ?_
  refine lv_topi (fun x4_6 ex4_6 => ?_)
  replace h := h x4_6 ex4_6
  refine lv_istore (lv' := [(4, .int x4_6), (0, .ref (gE E 0)), (1, .int x1), (2, .int x2), (3, .int x3)]) hx hb (dAt dX7_weaves 4 rfl) hl (by decide) rfl (fun ls hl => ?_)
  refine lv_aload_n hx hb (dAt dX7_weaves 5 rfl) rfl (lv_at hl 1 rfl) ?_
  refine x_geti C hw fl_X7_178 (hE.1 0) (nM hE (by decide)) rfl (dAt dX7_weaves 6 rfl) ?_
  refine lv_if_le (tgt := 83) hx hb (dAt dX7_weaves 7 rfl) (by decide) (fun c12 => ?_) (fun c12 => ?_)
  · replace h := h.1 c12
    exact kX7_weaves_83 hE C hr hlk x1 x2 x3 σ  _ _ _ hw (lv_sub hl [1, 2, 3, 4] rfl) h
  · replace h := h.2 c12
    refine lv_aload_n hx hb (dAt dX7_weaves 8 rfl) rfl (lv_at hl 1 rfl) ?_
    refine x_getr C hw fl_X7_49 (hE.1 0) (nM hE (by decide)) rfl (dAt dX7_weaves 9 rfl) ?_
    refine lv_iload hx hb (dAt dX7_weaves 10 rfl) (lv_at hl 0 rfl) ?_
    obtain ⟨z21, h⟩ := h
    refine x_ild C hw (hE.1 14) (nM hE (by decide)) z21 rfl (dAt dX7_weaves 11 rfl) ?_
    refine lv_iload_n hx hb (dAt dX7_weaves 12 rfl) rfl (lv_at hl 3 rfl) ?_
    refine lv_icmp_ne (tgt := 83) hx hb (dAt dX7_weaves 13 rfl) (by decide) (fun c23 => ?_) (fun c23 => ?_)
    · replace h := h.1 c23
      exact kX7_weaves_83 hE C hr hlk x1 x2 x3 σ  _ _ _ hw (lv_sub hl [1, 2, 3, 4] rfl) h
    · replace h := h.2 c23
      refine lv_aload_n hx hb (dAt dX7_weaves 14 rfl) rfl (lv_at hl 1 rfl) ?_
      refine x_getr C hw fl_X7_52 (hE.1 0) (nM hE (by decide)) rfl (dAt dX7_weaves 15 rfl) ?_
      refine lv_iload hx hb (dAt dX7_weaves 16 rfl) (lv_at hl 0 rfl) ?_
      obtain ⟨z32, h⟩ := h
      refine x_ild C hw (hE.1 15) (nM hE (by decide)) z32 rfl (dAt dX7_weaves 17 rfl) ?_
      refine lv_iload_n hx hb (dAt dX7_weaves 18 rfl) rfl (lv_at hl 4 rfl) ?_
      refine lv_icmp_ne (tgt := 83) hx hb (dAt dX7_weaves 19 rfl) (by decide) (fun c34 => ?_) (fun c34 => ?_)
      · replace h := h.1 c34
        exact kX7_weaves_83 hE C hr hlk x1 x2 x3 σ  _ _ _ hw (lv_sub hl [1, 2, 3, 4] rfl) h
      · replace h := h.2 c34
        refine lv_aload_n hx hb (dAt dX7_weaves 20 rfl) rfl (lv_at hl 1 rfl) ?_
        refine x_getr C hw fl_X7_55 (hE.1 0) (nM hE (by decide)) rfl (dAt dX7_weaves 21 rfl) ?_
        refine lv_iload hx hb (dAt dX7_weaves 22 rfl) (lv_at hl 0 rfl) ?_
        obtain ⟨z43, h⟩ := h
        refine x_ild C hw (hE.1 16) (nM hE (by decide)) z43 rfl (dAt dX7_weaves 23 rfl) ?_
        refine lv_aload_n hx hb (dAt dX7_weaves 24 rfl) rfl (lv_at hl 1 rfl) ?_
        refine x_getr C hw fl_X7_43 (hE.1 0) (nM hE (by decide)) rfl (dAt dX7_weaves 25 rfl) ?_
        refine lv_iload_n hx hb (dAt dX7_weaves 26 rfl) rfl (lv_at hl 3 rfl) ?_
        obtain ⟨z49, h⟩ := h
        refine x_ild C hw (hE.1 12) (nM hE (by decide)) z49 rfl (dAt dX7_weaves 27 rfl) ?_
        refine lv_icmp_eq (tgt := 83) hx hb (dAt dX7_weaves 28 rfl) (by decide) (fun c50 => ?_) (fun c50 => ?_)
        · replace h := h.1 c50
          exact kX7_weaves_83 hE C hr hlk x1 x2 x3 σ  _ _ _ hw (lv_sub hl [1, 2, 3, 4] rfl) h
        · replace h := h.2 c50
          refine lv_aload_n hx hb (dAt dX7_weaves 29 rfl) rfl (lv_at hl 1 rfl) ?_
          refine lv_dup hx hb (dAt dX7_weaves 30 rfl) rfl ?_
          refine x_geti C hw fl_X7_178 (hE.1 0) (nM hE (by decide)) rfl (dAt dX7_weaves 31 rfl) ?_
          refine lv_iconst (v := 1) hx hb (dAt dX7_weaves 32 rfl) (by decide) ?_
          refine lv_isub hx hb (dAt dX7_weaves 33 rfl) ?_
          refine x_pf C hw fl_X7_178 (hE.1 0) (nM hE (by decide)) rfl rfl rfl (dAt dX7_weaves 34 rfl) (fun σ60 H locs eσ60 hw => ?_)
          replace h := h σ60 eσ60
          refine lv_aload_n hx hb (dAt dX7_weaves 35 rfl) rfl (lv_at hl 1 rfl) ?_
          refine lv_dup hx hb (dAt dX7_weaves 36 rfl) rfl ?_
          refine x_geti C hw fl_X7_181 (hE.1 0) (nM hE (by decide)) rfl (dAt dX7_weaves 37 rfl) ?_
          refine lv_iconst (v := 1) hx hb (dAt dX7_weaves 38 rfl) (by decide) ?_
          refine lv_iadd hx hb (dAt dX7_weaves 39 rfl) ?_
          refine x_pf C hw fl_X7_181 (hE.1 0) (nM hE (by decide)) rfl rfl rfl (dAt dX7_weaves 40 rfl) (fun σ70 H locs eσ70 hw => ?_)
          replace h := h σ70 eσ70
          refine lv_aload_n hx hb (dAt dX7_weaves 41 rfl) rfl (lv_at hl 1 rfl) ?_
          refine lv_iload_n hx hb (dAt dX7_weaves 42 rfl) rfl (lv_at hl 3 rfl) ?_
          refine lv_iload_n hx hb (dAt dX7_weaves 43 rfl) rfl (lv_at hl 4 rfl) ?_
          refine lv_iconst (v := 1) hx hb (dAt dX7_weaves 44 rfl) (by decide) ?_
          refine x_callv C hw (x_runV (As := [.int x2, .int x3, .int (1 : Int32)]) (rest := []) C hw (kX7_takes l E hE x2 x3 (1 : Int32) σ70 _ h) mtX7_takes lk_X7_184 (hE.1 0) (nM hE (by decide)) rfl ⟨by decide, by decide⟩ ⟨rfl, rfl⟩ rfl hl.1 rfl (Nat.le_of_ble_eq_true rfl) (dAt dX7_weaves 45 rfl) ⟨Nat.zero_le _, Nat.zero_le _⟩) (fun σ77 H locs h hw => ?_)
          refine lv_goto (tgt := 173) hx hb (dAt dX7_weaves 46 rfl) (by decide) ?_
          exact x_vret C hw hr hlk h (dAt dX7_weaves 101 rfl)
def tX7_meeting : List (Nat × Instr × Nat) := [(0, .aload_n 0, 1), (1, .getfield 73, 3), (4, .iload_n 1, 1), (5, .dup2, 1), (6, .iaload, 1), (7, .iconst 1, 1), (8, .iadd, 1), (9, .iastore, 1), (10, .aload_n 0, 1), (11, .getfield 191, 3), (14, .iload_n 2, 1), (15, .invokestatic 175, 3), (18, .ifCond .ne 14, 3), (21, .aload_n 0, 1), (22, .getfield 191, 3), (25, .iload_n 3, 1), (26, .invokestatic 175, 3), (29, .ifCond .eq 4, 3), (32, .return_, 1), (33, .aload_n 0, 1), (34, .getfield 31, 3), (37, .iload_n 1, 1), (38, .iaload, 1), (39, .ifCond .ne 7, 3), (42, .iconst 1, 1), (43, .goto 4, 3), (46, .iconst 0, 1), (47, .aload_n 0, 1), (48, .getfield 43, 3), (51, .iload_n 2, 1), (52, .iaload, 1), (53, .ifCond .ne 7, 3), (56, .iconst 1, 1), (57, .goto 4, 3), (60, .iconst 0, 1), (61, .if_icmp .ne 7, 3), (64, .iconst 1, 1), (65, .goto 4, 3), (68, .iconst 0, 1), (69, .istore 4, 2), (71, .aload_n 0, 1), (72, .getfield 194, 3), (75, .iload_n 2, 1), (76, .invokestatic 175, 3), (79, .aload_n 0, 1), (80, .getfield 194, 3), (83, .iload_n 3, 1), (84, .invokestatic 175, 3), (87, .if_icmp .eq 7, 3), (90, .iconst 1, 1), (91, .goto 4, 3), (94, .iconst 0, 1), (95, .istore 5, 2), (97, .iload 4, 2), (99, .iload 5, 2), (101, .if_icmp .eq 13, 3), (104, .aload_n 0, 1), (105, .iload_n 1, 1), (106, .iload_n 2, 1), (107, .iload_n 3, 1), (108, .invokevirtual 197, 3), (111, .goto 10, 3), (114, .aload_n 0, 1), (115, .iload_n 1, 1), (116, .iload_n 3, 1), (117, .iload_n 2, 1), (118, .invokevirtual 197, 3), (121, .return_, 1)]
theorem dX7_meeting : dOk cX7_meeting tX7_meeting = true := by decide +kernel
abbrev rX7_meeting : Room := { frames := 2, cells := 0, slots := 0, locals := 47 }
def wX7_meeting (x1 : Int32) (x2 : Int32) (x3 : Int32) (σ : Mem) (Q : Mem → Prop) : Prop := (vp_in x1 24 ∧ (vp_in x1 24 ∧ (∀ σ9 : Mem, σ9 = um σ 22 (x1).toNatClampNeg ((σ 22 (x1).toNatClampNeg) + (1 : Int32)) → (wX7_isIn (σ9 0 19) x2 σ9 (fun r15 σ15 => (((¬ r15 = 0) → (Q σ15)) ∧ ((r15 = 0) → (wX7_isIn (σ15 0 19) x3 σ15 (fun r26 σ26 => (((r26 = 0) → (vp_in x1 24 ∧ (vp_in x2 8 ∧ (∀ x4_69 : Int32, x4_69 = (if (if (σ26 8 (x1).toNatClampNeg) = 0 then (1 : Int32) else (0 : Int32)) = (if (σ26 12 (x2).toNatClampNeg) = 0 then (1 : Int32) else (0 : Int32)) then (1 : Int32) else (0 : Int32)) → (wX7_isIn (σ26 0 25) x2 σ26 (fun r76 σ76 => (wX7_isIn (σ76 0 25) x3 σ76 (fun r84 σ84 => (∀ x5_95 : Int32, x5_95 = (if r76 = r84 then (0 : Int32) else (1 : Int32)) → (((x4_69 = x5_95) → (wX7_weaves x1 x3 x2 σ84 (fun σ118 => (Q σ118)))) ∧ ((¬ x4_69 = x5_95) → (wX7_weaves x1 x2 x3 σ84 (fun σ108 => (Q σ108)))))))))))))) ∧ ((¬ r26 = 0) → (Q σ26))))))))))))
set_option maxHeartbeats 4000000 in
set_option maxRecDepth 100000 in
theorem kX7_meeting (l : Launch) (E : wE) (hE : wM E) (x1 : Int32) (x2 : Int32) (x3 : Int32) (σ : Mem) (Q : Mem → Prop) (h : wX7_meeting x1 x2 x3 σ Q) : Met l yX7_meeting (Cond.code yX7_meeting cX7_meeting 6 none :: TB) rX7_meeting (wPc E σ [.ref (gE E 0), .int x1, .int x2, .int x3]) (wQv E Q) 0 0 (wA E) := by
  refine wMet (by decide) hE.2.2 (Nat.le_of_ble_eq_true rfl) ?_
  intro p e s m args below meth c ls C hr hlk hl hw
  have hx := C.1.1
  have hb := C.1.2.1
  replace C : Cx p s m args c cX7_meeting 6 RX7 E (wA E) := C
  replace hl : lv_has ls 6 [(0, .ref (gE E 0)), (1, .int x1), (2, .int x2), (3, .int x3)] := hl
  unfold wX7_meeting at h
  refine lv_aload_n hx hb (dAt dX7_meeting 0 rfl) rfl (lv_at hl 0 rfl) ?_
  refine x_getr C hw fl_X7_73 (hE.1 0) (nM hE (by decide)) rfl (dAt dX7_meeting 1 rfl) ?_
  refine lv_iload_n hx hb (dAt dX7_meeting 2 rfl) rfl (lv_at hl 1 rfl) ?_
  refine lv_dup2_11 hx hb (dAt dX7_meeting 3 rfl) rfl rfl ?_
  obtain ⟨z6, h⟩ := h
  refine x_ild C hw (hE.1 22) (nM hE (by decide)) z6 rfl (dAt dX7_meeting 4 rfl) ?_
  refine lv_iconst (v := 1) hx hb (dAt dX7_meeting 5 rfl) (by decide) ?_
  refine lv_iadd hx hb (dAt dX7_meeting 6 rfl) ?_
  obtain ⟨z9, h⟩ := h
  refine x_ist C hw (hE.1 22) (nM hE (by decide)) z9 rfl (dAt dX7_meeting 7 rfl) (fun σ9 H locs eσ9 hw => ?_)
  replace h := h σ9 eσ9
  refine lv_aload_n hx hb (dAt dX7_meeting 8 rfl) rfl (lv_at hl 0 rfl) ?_
  refine x_geti C hw fl_X7_191 (hE.1 0) (nM hE (by decide)) rfl (dAt dX7_meeting 9 rfl) ?_
  refine lv_iload_n hx hb (dAt dX7_meeting 10 rfl) rfl (lv_at hl 2 rfl) ?_
  refine x_calli C hw (x_runS (As := [.int (σ9 0 19), .int x2]) (rest := []) C hw (kX7_isIn l E hE (σ9 0 19) x2 σ9 _ h) mtX7_isIn lk_X7_175 ⟨by decide, by decide⟩ ⟨rfl, rfl⟩ rfl hl.1 rfl (Nat.le_of_ble_eq_true rfl) (dAt dX7_meeting 11 rfl) ⟨Nat.zero_le _, Nat.zero_le _⟩) (fun r15 σ15 H locs h hw => ?_)
  refine lv_if_ne (tgt := 32) hx hb (dAt dX7_meeting 12 rfl) (by decide) (fun c18 => ?_) (fun c18 => ?_)
  · replace h := h.1 c18
    exact x_vret C hw hr hlk h (dAt dX7_meeting 18 rfl)
  · replace h := h.2 c18
    refine lv_aload_n hx hb (dAt dX7_meeting 13 rfl) rfl (lv_at hl 0 rfl) ?_
    refine x_geti C hw fl_X7_191 (hE.1 0) (nM hE (by decide)) rfl (dAt dX7_meeting 14 rfl) ?_
    refine lv_iload_n hx hb (dAt dX7_meeting 15 rfl) rfl (lv_at hl 3 rfl) ?_
    refine x_calli C hw (x_runS (As := [.int (σ15 0 19), .int x3]) (rest := []) C hw (kX7_isIn l E hE (σ15 0 19) x3 σ15 _ h) mtX7_isIn lk_X7_175 ⟨by decide, by decide⟩ ⟨rfl, rfl⟩ rfl hl.1 rfl (Nat.le_of_ble_eq_true rfl) (dAt dX7_meeting 16 rfl) ⟨Nat.zero_le _, Nat.zero_le _⟩) (fun r26 σ26 H locs h hw => ?_)
    refine lv_if_eq (tgt := 33) hx hb (dAt dX7_meeting 17 rfl) (by decide) (fun c29 => ?_) (fun c29 => ?_)
    · replace h := h.1 c29
      refine lv_aload_n hx hb (dAt dX7_meeting 19 rfl) rfl (lv_at hl 0 rfl) ?_
      refine x_getr C hw fl_X7_31 (hE.1 0) (nM hE (by decide)) rfl (dAt dX7_meeting 20 rfl) ?_
      refine lv_iload_n hx hb (dAt dX7_meeting 21 rfl) rfl (lv_at hl 1 rfl) ?_
      obtain ⟨z38, h⟩ := h
      refine x_ild C hw (hE.1 8) (nM hE (by decide)) z38 rfl (dAt dX7_meeting 22 rfl) ?_
      refine x_dia (ls := ls) (pcJ := 47) (cnd := (σ26 8 (x1).toNatClampNeg) = 0) (a := (1 : Int32)) (b := (0 : Int32)) ([]) ?_ (fun ht39 hf39 => ?_)
      · refine lv_aload_n hx hb (dAt dX7_meeting 27 rfl) rfl (lv_at hl 0 rfl) ?_
        refine x_getr C hw fl_X7_43 (hE.1 0) (nM hE (by decide)) rfl (dAt dX7_meeting 28 rfl) ?_
        refine lv_iload_n hx hb (dAt dX7_meeting 29 rfl) rfl (lv_at hl 2 rfl) ?_
        obtain ⟨z52, h⟩ := h
        refine x_ild C hw (hE.1 12) (nM hE (by decide)) z52 rfl (dAt dX7_meeting 30 rfl) ?_
        refine x_dia (ls := ls) (pcJ := 61) (cnd := (σ26 12 (x2).toNatClampNeg) = 0) (a := (1 : Int32)) (b := (0 : Int32)) ([.int (if (σ26 8 (x1).toNatClampNeg) = 0 then (1 : Int32) else (0 : Int32))]) ?_ (fun ht53 hf53 => ?_)
        · refine x_dia (ls := ls) (pcJ := 69) (cnd := (if (σ26 8 (x1).toNatClampNeg) = 0 then (1 : Int32) else (0 : Int32)) = (if (σ26 12 (x2).toNatClampNeg) = 0 then (1 : Int32) else (0 : Int32))) (a := (1 : Int32)) (b := (0 : Int32)) ([]) ?_ (fun ht61 hf61 => ?_)
          · refine lv_topi (fun x4_69 ex4_69 => ?_)
            replace h := h x4_69 ex4_69
            refine lv_istore (lv' := [(4, .int x4_69), (0, .ref (gE E 0)), (1, .int x1), (2, .int x2), (3, .int x3)]) hx hb (dAt dX7_meeting 39 rfl) hl (by decide) rfl (fun ls hl => ?_)
            refine lv_aload_n hx hb (dAt dX7_meeting 40 rfl) rfl (lv_at hl 1 rfl) ?_
            refine x_geti C hw fl_X7_194 (hE.1 0) (nM hE (by decide)) rfl (dAt dX7_meeting 41 rfl) ?_
            refine lv_iload_n hx hb (dAt dX7_meeting 42 rfl) rfl (lv_at hl 3 rfl) ?_
            refine x_calli C hw (x_runS (As := [.int (σ26 0 25), .int x2]) (rest := []) C hw (kX7_isIn l E hE (σ26 0 25) x2 σ26 _ h) mtX7_isIn lk_X7_175 ⟨by decide, by decide⟩ ⟨rfl, rfl⟩ rfl hl.1 rfl (Nat.le_of_ble_eq_true rfl) (dAt dX7_meeting 43 rfl) ⟨Nat.zero_le _, Nat.zero_le _⟩) (fun r76 σ76 H locs h hw => ?_)
            refine lv_aload_n hx hb (dAt dX7_meeting 44 rfl) rfl (lv_at hl 1 rfl) ?_
            refine x_geti C hw fl_X7_194 (hE.1 0) (nM hE (by decide)) rfl (dAt dX7_meeting 45 rfl) ?_
            refine lv_iload_n hx hb (dAt dX7_meeting 46 rfl) rfl (lv_at hl 4 rfl) ?_
            refine x_calli C hw (x_runS (As := [.int (σ76 0 25), .int x3]) (rest := [.int r76]) C hw (kX7_isIn l E hE (σ76 0 25) x3 σ76 _ h) mtX7_isIn lk_X7_175 ⟨by decide, by decide⟩ ⟨rfl, rfl⟩ rfl hl.1 rfl (Nat.le_of_ble_eq_true rfl) (dAt dX7_meeting 47 rfl) ⟨Nat.zero_le _, Nat.zero_le _⟩) (fun r84 σ84 H locs h hw => ?_)
            refine x_dia (ls := ls) (pcJ := 95) (cnd := r76 = r84) (a := (0 : Int32)) (b := (1 : Int32)) ([]) ?_ (fun ht87 hf87 => ?_)
            · refine lv_topi (fun x5_95 ex5_95 => ?_)
              replace h := h x5_95 ex5_95
              refine lv_istore (lv' := [(5, .int x5_95), (4, .int x4_69), (0, .ref (gE E 0)), (1, .int x1), (2, .int x2), (3, .int x3)]) hx hb (dAt dX7_meeting 52 rfl) hl (by decide) rfl (fun ls hl => ?_)
              refine lv_iload hx hb (dAt dX7_meeting 53 rfl) (lv_at hl 1 rfl) ?_
              refine lv_iload hx hb (dAt dX7_meeting 54 rfl) (lv_at hl 0 rfl) ?_
              refine lv_icmp_eq (tgt := 114) hx hb (dAt dX7_meeting 55 rfl) (by decide) (fun c101 => ?_) (fun c101 => ?_)
              · replace h := h.1 c101
                refine lv_aload_n hx hb (dAt dX7_meeting 62 rfl) rfl (lv_at hl 2 rfl) ?_
                refine lv_iload_n hx hb (dAt dX7_meeting 63 rfl) rfl (lv_at hl 3 rfl) ?_
                refine lv_iload_n hx hb (dAt dX7_meeting 64 rfl) rfl (lv_at hl 5 rfl) ?_
                refine lv_iload_n hx hb (dAt dX7_meeting 65 rfl) rfl (lv_at hl 4 rfl) ?_
                refine x_callv C hw (x_runV (As := [.int x1, .int x3, .int x2]) (rest := []) C hw (kX7_weaves l E hE x1 x3 x2 σ84 _ h) mtX7_weaves lk_X7_197 (hE.1 0) (nM hE (by decide)) rfl ⟨by decide, by decide⟩ ⟨rfl, rfl⟩ rfl hl.1 rfl (Nat.le_of_ble_eq_true rfl) (dAt dX7_meeting 66 rfl) ⟨Nat.zero_le _, Nat.zero_le _⟩) (fun σ118 H locs h hw => ?_)
                exact x_vret C hw hr hlk h (dAt dX7_meeting 67 rfl)
              · replace h := h.2 c101
                refine lv_aload_n hx hb (dAt dX7_meeting 56 rfl) rfl (lv_at hl 2 rfl) ?_
                refine lv_iload_n hx hb (dAt dX7_meeting 57 rfl) rfl (lv_at hl 3 rfl) ?_
                refine lv_iload_n hx hb (dAt dX7_meeting 58 rfl) rfl (lv_at hl 4 rfl) ?_
                refine lv_iload_n hx hb (dAt dX7_meeting 59 rfl) rfl (lv_at hl 5 rfl) ?_
                refine x_callv C hw (x_runV (As := [.int x1, .int x2, .int x3]) (rest := []) C hw (kX7_weaves l E hE x1 x2 x3 σ84 _ h) mtX7_weaves lk_X7_197 (hE.1 0) (nM hE (by decide)) rfl ⟨by decide, by decide⟩ ⟨rfl, rfl⟩ rfl hl.1 rfl (Nat.le_of_ble_eq_true rfl) (dAt dX7_meeting 60 rfl) ⟨Nat.zero_le _, Nat.zero_le _⟩) (fun σ108 H locs h hw => ?_)
                refine lv_goto (tgt := 121) hx hb (dAt dX7_meeting 61 rfl) (by decide) ?_
                exact x_vret C hw hr hlk h (dAt dX7_meeting 67 rfl)
            · refine lv_icmp_eq (tgt := 94) hx hb (dAt dX7_meeting 48 rfl) (by decide) (fun c87 => ?_) (fun c87 => ?_)
              · refine lv_iconst (v := 0) hx hb (dAt dX7_meeting 51 rfl) (by decide) ?_
                exact ht87 c87
              · refine lv_iconst (v := 1) hx hb (dAt dX7_meeting 49 rfl) (by decide) ?_
                refine lv_goto (tgt := 95) hx hb (dAt dX7_meeting 50 rfl) (by decide) ?_
                exact hf87 c87
          · refine lv_icmp_ne (tgt := 68) hx hb (dAt dX7_meeting 35 rfl) (by decide) (fun c61 => ?_) (fun c61 => ?_)
            · refine lv_iconst (v := 0) hx hb (dAt dX7_meeting 38 rfl) (by decide) ?_
              exact hf61 c61
            · refine lv_iconst (v := 1) hx hb (dAt dX7_meeting 36 rfl) (by decide) ?_
              refine lv_goto (tgt := 69) hx hb (dAt dX7_meeting 37 rfl) (by decide) ?_
              exact ht61 c61
        · refine lv_if_ne (tgt := 60) hx hb (dAt dX7_meeting 31 rfl) (by decide) (fun c53 => ?_) (fun c53 => ?_)
          · refine lv_iconst (v := 0) hx hb (dAt dX7_meeting 34 rfl) (by decide) ?_
            exact hf53 c53
          · refine lv_iconst (v := 1) hx hb (dAt dX7_meeting 32 rfl) (by decide) ?_
            refine lv_goto (tgt := 61) hx hb (dAt dX7_meeting 33 rfl) (by decide) ?_
            exact ht53 c53
      · refine lv_if_ne (tgt := 46) hx hb (dAt dX7_meeting 23 rfl) (by decide) (fun c39 => ?_) (fun c39 => ?_)
        · refine lv_iconst (v := 0) hx hb (dAt dX7_meeting 26 rfl) (by decide) ?_
          exact hf39 c39
        · refine lv_iconst (v := 1) hx hb (dAt dX7_meeting 24 rfl) (by decide) ?_
          refine lv_goto (tgt := 47) hx hb (dAt dX7_meeting 25 rfl) (by decide) ?_
          exact ht39 c39
    · replace h := h.2 c29
      exact x_vret C hw hr hlk h (dAt dX7_meeting 18 rfl)
def tX7_goes : List (Nat × Instr × Nat) := [(0, .aload_n 0, 1), (1, .iconst 0, 1), (2, .iload_n 1, 1), (3, .invokevirtual 200, 3), (6, .istore_n 2, 1), (7, .iconst 0, 1), (8, .istore_n 3, 1), (9, .iload_n 3, 1), (10, .aload_n 0, 1), (11, .getfield 129, 3), (14, .if_icmp .ge 101, 3), (17, .iload_n 2, 1), (18, .iload_n 3, 1), (19, .invokestatic 175, 3), (22, .ifCond .ne 23, 3), (25, .aload_n 0, 1), (26, .getfield 191, 3), (29, .iload_n 3, 1), (30, .invokestatic 175, 3), (33, .ifCond .ne 16, 3), (36, .aload_n 0, 1), (37, .getfield 46, 3), (40, .iload_n 3, 1), (41, .iaload, 1), (42, .ifCond .ne 7, 3), (45, .iconst 1, 1), (46, .goto 4, 3), (49, .iconst 0, 1), (50, .istore 4, 2), (52, .aload_n 0, 1), (53, .getfield 40, 3), (56, .iload_n 3, 1), (57, .aload_n 0, 1), (58, .getfield 37, 3), (61, .iload_n 3, 1), (62, .iaload, 1), (63, .iastore, 1), (64, .aload_n 0, 1), (65, .getfield 37, 3), (68, .iload_n 3, 1), (69, .iload 4, 2), (71, .ifCond .eq 12, 3), (74, .aload_n 0, 1), (75, .getfield 37, 3), (78, .iload_n 3, 1), (79, .iaload, 1), (80, .goto 28, 3), (83, .aload_n 0, 1), (84, .getfield 37, 3), (87, .iload_n 3, 1), (88, .iaload, 1), (89, .aload_n 0, 1), (90, .getfield 43, 3), (93, .iload_n 3, 1), (94, .iaload, 1), (95, .ifCond .ne 7, 3), (98, .iconst 1, 1), (99, .goto 5, 3), (102, .bipush 11, 2), (104, .iadd, 1), (105, .bipush 12, 2), (107, .irem, 1), (108, .iastore, 1), (109, .iinc 3 1, 3), (112, .goto (-103), 3), (115, .iconst 0, 1), (116, .istore_n 3, 1), (117, .iload_n 3, 1), (118, .aload_n 0, 1), (119, .getfield 129, 3), (122, .if_icmp .ge 47, 3), (125, .iload_n 3, 1), (126, .iconst 1, 1), (127, .iadd, 1), (128, .istore 4, 2), (130, .iload 4, 2), (132, .aload_n 0, 1), (133, .getfield 129, 3), (136, .if_icmp .ge 27, 3), (139, .aload_n 0, 1), (140, .iload_n 3, 1), (141, .iload 4, 2), (143, .invokevirtual 203, 3), (146, .ifCond .eq 11, 3), (149, .aload_n 0, 1), (150, .iload_n 1, 1), (151, .iload_n 3, 1), (152, .iload 4, 2), (154, .invokevirtual 206, 3), (157, .iinc 4 1, 3), (160, .goto (-30), 3), (163, .iinc 3 1, 3), (166, .goto (-49), 3), (169, .return_, 1)]
theorem dX7_goes : dOk cX7_goes tX7_goes = true := by decide +kernel
abbrev rX7_goes : Room := { frames := 3, cells := 0, slots := 0, locals := 72 }
def wX7_goes_130 (K117 : Int32 → Int32 → Mem → Prop) (Q : Mem → Prop) : Nat → Int32 → Int32 → Int32 → Mem → Prop
  | 0, _, _, _, _ => False
  | n + 1, x1, x3, x4, σ => ((((σ 0 7) ≤ x4) → (K117 x1 (x3 + (1 : Int32)) σ)) ∧ ((¬ (σ 0 7) ≤ x4) → (wX7_meets x3 x4 σ (fun r143 σ143 => (((r143 = 0) → (wX7_goes_130 K117 Q n x1 x3 (x4 + (1 : Int32)) σ143)) ∧ ((¬ r143 = 0) → (wX7_meeting x1 x3 x4 σ143 (fun σ154 => (wX7_goes_130 K117 Q n x1 x3 (x4 + (1 : Int32)) σ154)))))))))
def wX7_goes_117 (Q : Mem → Prop) : Nat → Int32 → Int32 → Mem → Prop
  | 0, _, _, _ => False
  | n + 1, x1, x3, σ => ((((σ 0 7) ≤ x3) → (Q σ)) ∧ ((¬ (σ 0 7) ≤ x3) → (∀ x4_128 : Int32, x4_128 = (x3 + (1 : Int32)) → (∃ N130, wX7_goes_130 (fun x1 x3 ρ => wX7_goes_117 Q n x1 x3 ρ) Q N130 x1 x3 x4_128 σ))))
def wX7_goes_50 (K9 : Int32 → Int32 → Int32 → Mem → Prop) (Q : Mem → Prop) (x1 : Int32) (x2 : Int32) (x3 : Int32) (y0 : Int32) (σ : Mem) : Prop := (vp_in x3 8 ∧ (vp_in x3 8 ∧ (∀ σ63 : Mem, σ63 = um σ 11 (x3).toNatClampNeg (σ 10 (x3).toNatClampNeg) → (((y0 = 0) → (vp_in x3 8 ∧ (vp_in x3 8 ∧ (vp_in x3 8 ∧ (∀ σ108 : Mem, σ108 = um σ63 10 (x3).toNatClampNeg (((σ63 10 (x3).toNatClampNeg) + (if (σ63 12 (x3).toNatClampNeg) = 0 then (1 : Int32) else (11 : Int32))) - ((σ63 10 (x3).toNatClampNeg) + (if (σ63 12 (x3).toNatClampNeg) = 0 then (1 : Int32) else (11 : Int32))) / (12 : Int32) * (12 : Int32)) → (K9 x1 x2 (x3 + (1 : Int32)) σ108)))))) ∧ ((¬ y0 = 0) → (vp_in x3 8 ∧ (vp_in x3 8 ∧ (∀ σ108 : Mem, σ108 = um σ63 10 (x3).toNatClampNeg (σ63 10 (x3).toNatClampNeg) → (K9 x1 x2 (x3 + (1 : Int32)) σ108)))))))))
def wX7_goes_9 (Q : Mem → Prop) : Nat → Int32 → Int32 → Int32 → Mem → Prop
  | 0, _, _, _, _ => False
  | n + 1, x1, x2, x3, σ => ((((σ 0 7) ≤ x3) → (∃ N117, wX7_goes_117 Q N117 x1 (0 : Int32) σ)) ∧ ((¬ (σ 0 7) ≤ x3) → (wX7_isIn x2 x3 σ (fun r19 σ19 => (((¬ r19 = 0) → (wX7_goes_50 (fun x1 x2 x3 ρ => wX7_goes_9 Q n x1 x2 x3 ρ) Q x1 x2 x3 (1 : Int32) σ19)) ∧ ((r19 = 0) → (wX7_isIn (σ19 0 19) x3 σ19 (fun r30 σ30 => (((¬ r30 = 0) → (wX7_goes_50 (fun x1 x2 x3 ρ => wX7_goes_9 Q n x1 x2 x3 ρ) Q x1 x2 x3 (0 : Int32) σ30)) ∧ ((r30 = 0) → (vp_in x3 8 ∧ (((¬ (σ30 13 (x3).toNatClampNeg) = 0) → (wX7_goes_50 (fun x1 x2 x3 ρ => wX7_goes_9 Q n x1 x2 x3 ρ) Q x1 x2 x3 (0 : Int32) σ30)) ∧ (((σ30 13 (x3).toNatClampNeg) = 0) → (wX7_goes_50 (fun x1 x2 x3 ρ => wX7_goes_9 Q n x1 x2 x3 ρ) Q x1 x2 x3 (1 : Int32) σ30))))))))))))))
def wX7_goes (x1 : Int32) (σ : Mem) (Q : Mem → Prop) : Prop := (wX7_toldIn (0 : Int32) x1 σ (fun r3 σ3 => (∃ N9, wX7_goes_9 Q N9 x1 r3 (0 : Int32) σ3)))
set_option maxHeartbeats 4000000 in
set_option maxRecDepth 100000 in
theorem kX7_goes_130 {p : Program} {l : Launch} {e : Env} {s : State} {m : MethodId} {args : Array Value} {below : List Frame} {meth : Method} {c : Code} {E : wE} (hE : wM E) (C : Cx p s m args c cX7_goes 5 RX7 E (wA E)) (hr : meth.sig.returnType = none) (hlk : meth.locks = false) {Q : Mem → Prop} {K117 : Int32 → Int32 → Mem → Prop} (hK117 : ∀ (x1 : Int32) (x3 : Int32) (σ : Mem) (H : Heap) (locs : List Loc) (ls : Array Slot), wd E (wA E) s σ H locs → lv_has ls 5 [(0, .ref (gE E 0)), (1, .int x1), (3, .int x3)] → K117 x1 x3 σ → W p l e rX7_goes s m args below meth c H locs 0 0 (MQ below (wQv E Q) args s 0 0 (wA E)) (F0 m 117 ls [])) : ∀ (n : Nat) (x1 : Int32) (x3 : Int32) (x4 : Int32) (σ : Mem) (H : Heap) (locs : List Loc) (ls : Array Slot), wd E (wA E) s σ H locs → lv_has ls 5 [(0, .ref (gE E 0)), (1, .int x1), (3, .int x3), (4, .int x4)] → wX7_goes_130 K117 Q n x1 x3 x4 σ → W p l e rX7_goes s m args below meth c H locs 0 0 (MQ below (wQv E Q) args s 0 0 (wA E)) (F0 m 130 ls []) := by
  have hx := C.1.1
  have hb := C.1.2.1
  intro n
  induction n with
  | zero =>
    intro x1 x3 x4 σ  H locs ls hw hl h
    exact h.elim
  | succ n ih =>
    intro x1 x3 x4 σ  H locs ls hw hl h
    rw [wX7_goes_130] at h
    refine lv_iload hx hb (dAt dX7_goes 75 rfl) (lv_at hl 3 rfl) ?_
    refine lv_aload_n hx hb (dAt dX7_goes 76 rfl) rfl (lv_at hl 0 rfl) ?_
    refine x_geti C hw fl_X7_129 (hE.1 0) (nM hE (by decide)) rfl (dAt dX7_goes 77 rfl) ?_
    refine lv_icmp_ge (tgt := 163) hx hb (dAt dX7_goes 78 rfl) (by decide) (fun c136 => ?_) (fun c136 => ?_)
    · replace h := h.1 c136
      refine lv_iinc (v := (x3 + (1 : Int32))) (lv' := [(3, .int (x3 + (1 : Int32))), (0, .ref (gE E 0)), (1, .int x1), (4, .int x4)]) hx hb (dAt dX7_goes 91 rfl) hl (k := 2) rfl rfl (by decide) rfl (fun ls hl => ?_)
      refine lv_goto (tgt := 117) hx hb (dAt dX7_goes 92 rfl) (by decide) ?_
      exact hK117 x1 (x3 + (1 : Int32)) σ  _ _ _ hw (lv_sub hl [1, 2, 0] rfl) h
    · replace h := h.2 c136
      refine lv_aload_n hx hb (dAt dX7_goes 79 rfl) rfl (lv_at hl 0 rfl) ?_
      refine lv_iload_n hx hb (dAt dX7_goes 80 rfl) rfl (lv_at hl 2 rfl) ?_
      refine lv_iload hx hb (dAt dX7_goes 81 rfl) (lv_at hl 3 rfl) ?_
      refine x_calli C hw (x_runV (As := [.int x3, .int x4]) (rest := []) C hw (kX7_meets l E hE x3 x4 σ _ h) mtX7_meets lk_X7_203 (hE.1 0) (nM hE (by decide)) rfl ⟨by decide, by decide⟩ ⟨rfl, rfl⟩ rfl hl.1 rfl (Nat.le_of_ble_eq_true rfl) (dAt dX7_goes 82 rfl) ⟨Nat.zero_le _, Nat.zero_le _⟩) (fun r143 σ143 H locs h hw => ?_)
      refine lv_if_eq (tgt := 157) hx hb (dAt dX7_goes 83 rfl) (by decide) (fun c146 => ?_) (fun c146 => ?_)
      · replace h := h.1 c146
        refine lv_iinc (v := (x4 + (1 : Int32))) (lv' := [(4, .int (x4 + (1 : Int32))), (0, .ref (gE E 0)), (1, .int x1), (3, .int x3)]) hx hb (dAt dX7_goes 89 rfl) hl (k := 3) rfl rfl (by decide) rfl (fun ls hl => ?_)
        refine lv_goto (tgt := 130) hx hb (dAt dX7_goes 90 rfl) (by decide) ?_
        exact ih x1 x3 (x4 + (1 : Int32)) σ143  _ _ _ hw (lv_sub hl [1, 2, 3, 0] rfl) h
      · replace h := h.2 c146
        refine lv_aload_n hx hb (dAt dX7_goes 84 rfl) rfl (lv_at hl 0 rfl) ?_
        refine lv_iload_n hx hb (dAt dX7_goes 85 rfl) rfl (lv_at hl 1 rfl) ?_
        refine lv_iload_n hx hb (dAt dX7_goes 86 rfl) rfl (lv_at hl 2 rfl) ?_
        refine lv_iload hx hb (dAt dX7_goes 87 rfl) (lv_at hl 3 rfl) ?_
        refine x_callv C hw (x_runV (As := [.int x1, .int x3, .int x4]) (rest := []) C hw (kX7_meeting l E hE x1 x3 x4 σ143 _ h) mtX7_meeting lk_X7_206 (hE.1 0) (nM hE (by decide)) rfl ⟨by decide, by decide⟩ ⟨rfl, rfl⟩ rfl hl.1 rfl (Nat.le_of_ble_eq_true rfl) (dAt dX7_goes 88 rfl) ⟨Nat.zero_le _, Nat.zero_le _⟩) (fun σ154 H locs h hw => ?_)
        refine lv_iinc (v := (x4 + (1 : Int32))) (lv' := [(4, .int (x4 + (1 : Int32))), (0, .ref (gE E 0)), (1, .int x1), (3, .int x3)]) hx hb (dAt dX7_goes 89 rfl) hl (k := 3) rfl rfl (by decide) rfl (fun ls hl => ?_)
        refine lv_goto (tgt := 130) hx hb (dAt dX7_goes 90 rfl) (by decide) ?_
        exact ih x1 x3 (x4 + (1 : Int32)) σ154  _ _ _ hw (lv_sub hl [1, 2, 3, 0] rfl) h
set_option maxHeartbeats 4000000 in
set_option maxRecDepth 100000 in
theorem kX7_goes_117 {p : Program} {l : Launch} {e : Env} {s : State} {m : MethodId} {args : Array Value} {below : List Frame} {meth : Method} {c : Code} {E : wE} (hE : wM E) (C : Cx p s m args c cX7_goes 5 RX7 E (wA E)) (hr : meth.sig.returnType = none) (hlk : meth.locks = false) {Q : Mem → Prop} : ∀ (n : Nat) (x1 : Int32) (x3 : Int32) (σ : Mem) (H : Heap) (locs : List Loc) (ls : Array Slot), wd E (wA E) s σ H locs → lv_has ls 5 [(0, .ref (gE E 0)), (1, .int x1), (3, .int x3)] → wX7_goes_117 Q n x1 x3 σ → W p l e rX7_goes s m args below meth c H locs 0 0 (MQ below (wQv E Q) args s 0 0 (wA E)) (F0 m 117 ls []) := by
  have hx := C.1.1
  have hb := C.1.2.1
  intro n
  induction n with
  | zero =>
    intro x1 x3 σ  H locs ls hw hl h
    exact h.elim
  | succ n ih =>
    intro x1 x3 σ  H locs ls hw hl h
    rw [wX7_goes_117] at h
    refine lv_iload_n hx hb (dAt dX7_goes 67 rfl) rfl (lv_at hl 2 rfl) ?_
    refine lv_aload_n hx hb (dAt dX7_goes 68 rfl) rfl (lv_at hl 0 rfl) ?_
    refine x_geti C hw fl_X7_129 (hE.1 0) (nM hE (by decide)) rfl (dAt dX7_goes 69 rfl) ?_
    refine lv_icmp_ge (tgt := 169) hx hb (dAt dX7_goes 70 rfl) (by decide) (fun c122 => ?_) (fun c122 => ?_)
    · replace h := h.1 c122
      exact x_vret C hw hr hlk h (dAt dX7_goes 93 rfl)
    · replace h := h.2 c122
      refine lv_iload_n hx hb (dAt dX7_goes 71 rfl) rfl (lv_at hl 2 rfl) ?_
      refine lv_iconst (v := 1) hx hb (dAt dX7_goes 72 rfl) (by decide) ?_
      refine lv_iadd hx hb (dAt dX7_goes 73 rfl) ?_
      refine lv_topi (fun x4_128 ex4_128 => ?_)
      replace h := h x4_128 ex4_128
      refine lv_istore (lv' := [(4, .int x4_128), (0, .ref (gE E 0)), (1, .int x1), (3, .int x3)]) hx hb (dAt dX7_goes 74 rfl) hl (by decide) rfl (fun ls hl => ?_)
      obtain ⟨n130, h⟩ := h
      exact kX7_goes_130 hE C hr hlk ih n130 x1 x3 x4_128 σ  _ _ _ hw (lv_sub hl [1, 2, 3, 0] rfl) h
set_option maxHeartbeats 4000000 in
set_option maxRecDepth 100000 in
theorem kX7_goes_50 {p : Program} {l : Launch} {e : Env} {s : State} {m : MethodId} {args : Array Value} {below : List Frame} {meth : Method} {c : Code} {E : wE} (hE : wM E) (C : Cx p s m args c cX7_goes 5 RX7 E (wA E)) (hr : meth.sig.returnType = none) (hlk : meth.locks = false) {Q : Mem → Prop} {K9 : Int32 → Int32 → Int32 → Mem → Prop} (hK9 : ∀ (x1 : Int32) (x2 : Int32) (x3 : Int32) (σ : Mem) (H : Heap) (locs : List Loc) (ls : Array Slot), wd E (wA E) s σ H locs → lv_has ls 5 [(0, .ref (gE E 0)), (1, .int x1), (2, .int x2), (3, .int x3)] → K9 x1 x2 x3 σ → W p l e rX7_goes s m args below meth c H locs 0 0 (MQ below (wQv E Q) args s 0 0 (wA E)) (F0 m 9 ls [])) : ∀ (x1 : Int32) (x2 : Int32) (x3 : Int32) (y0 : Int32) (σ : Mem) (H : Heap) (locs : List Loc) (ls : Array Slot), wd E (wA E) s σ H locs → lv_has ls 5 [(0, .ref (gE E 0)), (1, .int x1), (2, .int x2), (3, .int x3)] → wX7_goes_50 K9 Q x1 x2 x3 y0 σ → W p l e rX7_goes s m args below meth c H locs 0 0 (MQ below (wQv E Q) args s 0 0 (wA E)) (F0 m 50 ls [.int y0]) := by
  have hx := C.1.1
  have hb := C.1.2.1
  intro x1 x2 x3 y0 σ  H locs ls hw hl h
  unfold wX7_goes_50 at h
  refine lv_istore (lv' := [(4, .int y0), (0, .ref (gE E 0)), (1, .int x1), (2, .int x2), (3, .int x3)]) hx hb (dAt dX7_goes 28 rfl) hl (by decide) rfl (fun ls hl => ?_)
  refine lv_aload_n hx hb (dAt dX7_goes 29 rfl) rfl (lv_at hl 1 rfl) ?_
  refine x_getr C hw fl_X7_40 (hE.1 0) (nM hE (by decide)) rfl (dAt dX7_goes 30 rfl) ?_
  refine lv_iload_n hx hb (dAt dX7_goes 31 rfl) rfl (lv_at hl 4 rfl) ?_
  refine lv_aload_n hx hb (dAt dX7_goes 32 rfl) rfl (lv_at hl 1 rfl) ?_
  refine x_getr C hw fl_X7_37 (hE.1 0) (nM hE (by decide)) rfl (dAt dX7_goes 33 rfl) ?_
  refine lv_iload_n hx hb (dAt dX7_goes 34 rfl) rfl (lv_at hl 4 rfl) ?_
  obtain ⟨z62, h⟩ := h
  refine x_ild C hw (hE.1 10) (nM hE (by decide)) z62 rfl (dAt dX7_goes 35 rfl) ?_
  obtain ⟨z63, h⟩ := h
  refine x_ist C hw (hE.1 11) (nM hE (by decide)) z63 rfl (dAt dX7_goes 36 rfl) (fun σ63 H locs eσ63 hw => ?_)
  replace h := h σ63 eσ63
  refine lv_aload_n hx hb (dAt dX7_goes 37 rfl) rfl (lv_at hl 1 rfl) ?_
  refine x_getr C hw fl_X7_37 (hE.1 0) (nM hE (by decide)) rfl (dAt dX7_goes 38 rfl) ?_
  refine lv_iload_n hx hb (dAt dX7_goes 39 rfl) rfl (lv_at hl 4 rfl) ?_
  refine lv_iload hx hb (dAt dX7_goes 40 rfl) (lv_at hl 0 rfl) ?_
  refine lv_if_eq (tgt := 83) hx hb (dAt dX7_goes 41 rfl) (by decide) (fun c71 => ?_) (fun c71 => ?_)
  · replace h := h.1 c71
    refine lv_aload_n hx hb (dAt dX7_goes 47 rfl) rfl (lv_at hl 1 rfl) ?_
    refine x_getr C hw fl_X7_37 (hE.1 0) (nM hE (by decide)) rfl (dAt dX7_goes 48 rfl) ?_
    refine lv_iload_n hx hb (dAt dX7_goes 49 rfl) rfl (lv_at hl 4 rfl) ?_
    obtain ⟨z88, h⟩ := h
    refine x_ild C hw (hE.1 10) (nM hE (by decide)) z88 rfl (dAt dX7_goes 50 rfl) ?_
    refine lv_aload_n hx hb (dAt dX7_goes 51 rfl) rfl (lv_at hl 1 rfl) ?_
    refine x_getr C hw fl_X7_43 (hE.1 0) (nM hE (by decide)) rfl (dAt dX7_goes 52 rfl) ?_
    refine lv_iload_n hx hb (dAt dX7_goes 53 rfl) rfl (lv_at hl 4 rfl) ?_
    obtain ⟨z94, h⟩ := h
    refine x_ild C hw (hE.1 12) (nM hE (by decide)) z94 rfl (dAt dX7_goes 54 rfl) ?_
    refine x_dia (ls := ls) (pcJ := 104) (cnd := (σ63 12 (x3).toNatClampNeg) = 0) (a := (1 : Int32)) (b := (11 : Int32)) ([.int (σ63 10 (x3).toNatClampNeg), .int x3, .ref (gE E 10)]) ?_ (fun ht95 hf95 => ?_)
    · refine lv_iadd hx hb (dAt dX7_goes 59 rfl) ?_
      refine lv_bipush (v := 12) hx hb (dAt dX7_goes 60 rfl) (by decide) ?_
      refine lv_irem hx hb (dAt dX7_goes 61 rfl) (by decide) ?_
      obtain ⟨z108, h⟩ := h
      refine x_ist C hw (hE.1 10) (nM hE (by decide)) z108 rfl (dAt dX7_goes 62 rfl) (fun σ108 H locs eσ108 hw => ?_)
      replace h := h σ108 eσ108
      refine lv_iinc (v := (x3 + (1 : Int32))) (lv' := [(3, .int (x3 + (1 : Int32))), (4, .int y0), (0, .ref (gE E 0)), (1, .int x1), (2, .int x2)]) hx hb (dAt dX7_goes 63 rfl) hl (k := 4) rfl rfl (by decide) rfl (fun ls hl => ?_)
      refine lv_goto (tgt := 9) hx hb (dAt dX7_goes 64 rfl) (by decide) ?_
      exact hK9 x1 x2 (x3 + (1 : Int32)) σ108  _ _ _ hw (lv_sub hl [2, 3, 4, 0] rfl) h
    · refine lv_if_ne (tgt := 102) hx hb (dAt dX7_goes 55 rfl) (by decide) (fun c95 => ?_) (fun c95 => ?_)
      · refine lv_bipush (v := 11) hx hb (dAt dX7_goes 58 rfl) (by decide) ?_
        exact hf95 c95
      · refine lv_iconst (v := 1) hx hb (dAt dX7_goes 56 rfl) (by decide) ?_
        refine lv_goto (tgt := 104) hx hb (dAt dX7_goes 57 rfl) (by decide) ?_
        exact ht95 c95
  · replace h := h.2 c71
    refine lv_aload_n hx hb (dAt dX7_goes 42 rfl) rfl (lv_at hl 1 rfl) ?_
    refine x_getr C hw fl_X7_37 (hE.1 0) (nM hE (by decide)) rfl (dAt dX7_goes 43 rfl) ?_
    refine lv_iload_n hx hb (dAt dX7_goes 44 rfl) rfl (lv_at hl 4 rfl) ?_
    obtain ⟨z79, h⟩ := h
    refine x_ild C hw (hE.1 10) (nM hE (by decide)) z79 rfl (dAt dX7_goes 45 rfl) ?_
    refine lv_goto (tgt := 108) hx hb (dAt dX7_goes 46 rfl) (by decide) ?_
    obtain ⟨z108, h⟩ := h
    refine x_ist C hw (hE.1 10) (nM hE (by decide)) z108 rfl (dAt dX7_goes 62 rfl) (fun σ108 H locs eσ108 hw => ?_)
    replace h := h σ108 eσ108
    refine lv_iinc (v := (x3 + (1 : Int32))) (lv' := [(3, .int (x3 + (1 : Int32))), (4, .int y0), (0, .ref (gE E 0)), (1, .int x1), (2, .int x2)]) hx hb (dAt dX7_goes 63 rfl) hl (k := 4) rfl rfl (by decide) rfl (fun ls hl => ?_)
    refine lv_goto (tgt := 9) hx hb (dAt dX7_goes 64 rfl) (by decide) ?_
    exact hK9 x1 x2 (x3 + (1 : Int32)) σ108  _ _ _ hw (lv_sub hl [2, 3, 4, 0] rfl) h
set_option maxHeartbeats 4000000 in
set_option maxRecDepth 100000 in
theorem kX7_goes_9 {p : Program} {l : Launch} {e : Env} {s : State} {m : MethodId} {args : Array Value} {below : List Frame} {meth : Method} {c : Code} {E : wE} (hE : wM E) (C : Cx p s m args c cX7_goes 5 RX7 E (wA E)) (hr : meth.sig.returnType = none) (hlk : meth.locks = false) {Q : Mem → Prop} : ∀ (n : Nat) (x1 : Int32) (x2 : Int32) (x3 : Int32) (σ : Mem) (H : Heap) (locs : List Loc) (ls : Array Slot), wd E (wA E) s σ H locs → lv_has ls 5 [(0, .ref (gE E 0)), (1, .int x1), (2, .int x2), (3, .int x3)] → wX7_goes_9 Q n x1 x2 x3 σ → W p l e rX7_goes s m args below meth c H locs 0 0 (MQ below (wQv E Q) args s 0 0 (wA E)) (F0 m 9 ls []) := by
  have hx := C.1.1
  have hb := C.1.2.1
  intro n
  induction n with
  | zero =>
    intro x1 x2 x3 σ  H locs ls hw hl h
    exact h.elim
  | succ n ih =>
    intro x1 x2 x3 σ  H locs ls hw hl h
    rw [wX7_goes_9] at h
    refine lv_iload_n hx hb (dAt dX7_goes 7 rfl) rfl (lv_at hl 3 rfl) ?_
    refine lv_aload_n hx hb (dAt dX7_goes 8 rfl) rfl (lv_at hl 0 rfl) ?_
    refine x_geti C hw fl_X7_129 (hE.1 0) (nM hE (by decide)) rfl (dAt dX7_goes 9 rfl) ?_
    refine lv_icmp_ge (tgt := 115) hx hb (dAt dX7_goes 10 rfl) (by decide) (fun c14 => ?_) (fun c14 => ?_)
    · replace h := h.1 c14
      refine lv_iconst (v := 0) hx hb (dAt dX7_goes 65 rfl) (by decide) ?_
      refine lv_istore_n (lv' := [(3, .int (0 : Int32)), (0, .ref (gE E 0)), (1, .int x1), (2, .int x2)]) hx hb (dAt dX7_goes 66 rfl) rfl hl (by decide) rfl (fun ls hl => ?_)
      obtain ⟨n117, h⟩ := h
      exact kX7_goes_117 hE C hr hlk n117 x1 (0 : Int32) σ  _ _ _ hw (lv_sub hl [1, 2, 0] rfl) h
    · replace h := h.2 c14
      refine lv_iload_n hx hb (dAt dX7_goes 11 rfl) rfl (lv_at hl 2 rfl) ?_
      refine lv_iload_n hx hb (dAt dX7_goes 12 rfl) rfl (lv_at hl 3 rfl) ?_
      refine x_calli C hw (x_runS (As := [.int x2, .int x3]) (rest := []) C hw (kX7_isIn l E hE x2 x3 σ _ h) mtX7_isIn lk_X7_175 ⟨by decide, by decide⟩ ⟨rfl, rfl⟩ rfl hl.1 rfl (Nat.le_of_ble_eq_true rfl) (dAt dX7_goes 13 rfl) ⟨Nat.zero_le _, Nat.zero_le _⟩) (fun r19 σ19 H locs h hw => ?_)
      refine lv_if_ne (tgt := 45) hx hb (dAt dX7_goes 14 rfl) (by decide) (fun c22 => ?_) (fun c22 => ?_)
      · replace h := h.1 c22
        refine lv_iconst (v := 1) hx hb (dAt dX7_goes 25 rfl) (by decide) ?_
        refine lv_goto (tgt := 50) hx hb (dAt dX7_goes 26 rfl) (by decide) ?_
        exact kX7_goes_50 hE C hr hlk ih x1 x2 x3 (1 : Int32) σ19  _ _ _ hw (lv_sub hl [0, 1, 2, 3] rfl) h
      · replace h := h.2 c22
        refine lv_aload_n hx hb (dAt dX7_goes 15 rfl) rfl (lv_at hl 0 rfl) ?_
        refine x_geti C hw fl_X7_191 (hE.1 0) (nM hE (by decide)) rfl (dAt dX7_goes 16 rfl) ?_
        refine lv_iload_n hx hb (dAt dX7_goes 17 rfl) rfl (lv_at hl 3 rfl) ?_
        refine x_calli C hw (x_runS (As := [.int (σ19 0 19), .int x3]) (rest := []) C hw (kX7_isIn l E hE (σ19 0 19) x3 σ19 _ h) mtX7_isIn lk_X7_175 ⟨by decide, by decide⟩ ⟨rfl, rfl⟩ rfl hl.1 rfl (Nat.le_of_ble_eq_true rfl) (dAt dX7_goes 18 rfl) ⟨Nat.zero_le _, Nat.zero_le _⟩) (fun r30 σ30 H locs h hw => ?_)
        refine lv_if_ne (tgt := 49) hx hb (dAt dX7_goes 19 rfl) (by decide) (fun c33 => ?_) (fun c33 => ?_)
        · replace h := h.1 c33
          refine lv_iconst (v := 0) hx hb (dAt dX7_goes 27 rfl) (by decide) ?_
          exact kX7_goes_50 hE C hr hlk ih x1 x2 x3 (0 : Int32) σ30  _ _ _ hw (lv_sub hl [0, 1, 2, 3] rfl) h
        · replace h := h.2 c33
          refine lv_aload_n hx hb (dAt dX7_goes 20 rfl) rfl (lv_at hl 0 rfl) ?_
          refine x_getr C hw fl_X7_46 (hE.1 0) (nM hE (by decide)) rfl (dAt dX7_goes 21 rfl) ?_
          refine lv_iload_n hx hb (dAt dX7_goes 22 rfl) rfl (lv_at hl 3 rfl) ?_
          obtain ⟨z41, h⟩ := h
          refine x_ild C hw (hE.1 13) (nM hE (by decide)) z41 rfl (dAt dX7_goes 23 rfl) ?_
          refine lv_if_ne (tgt := 49) hx hb (dAt dX7_goes 24 rfl) (by decide) (fun c42 => ?_) (fun c42 => ?_)
          · replace h := h.1 c42
            refine lv_iconst (v := 0) hx hb (dAt dX7_goes 27 rfl) (by decide) ?_
            exact kX7_goes_50 hE C hr hlk ih x1 x2 x3 (0 : Int32) σ30  _ _ _ hw (lv_sub hl [0, 1, 2, 3] rfl) h
          · replace h := h.2 c42
            refine lv_iconst (v := 1) hx hb (dAt dX7_goes 25 rfl) (by decide) ?_
            refine lv_goto (tgt := 50) hx hb (dAt dX7_goes 26 rfl) (by decide) ?_
            exact kX7_goes_50 hE C hr hlk ih x1 x2 x3 (1 : Int32) σ30  _ _ _ hw (lv_sub hl [0, 1, 2, 3] rfl) h
set_option maxHeartbeats 4000000 in
set_option maxRecDepth 100000 in
theorem kX7_goes (l : Launch) (E : wE) (hE : wM E) (x1 : Int32) (σ : Mem) (Q : Mem → Prop) (h : wX7_goes x1 σ Q) : Met l yX7_goes (Cond.code yX7_goes cX7_goes 5 none :: TB) rX7_goes (wPc E σ [.ref (gE E 0), .int x1]) (wQv E Q) 0 0 (wA E) := by
  refine wMet (by decide) hE.2.2 (Nat.le_of_ble_eq_true rfl) ?_
  intro p e s m args below meth c ls C hr hlk hl hw
  have hx := C.1.1
  have hb := C.1.2.1
  replace C : Cx p s m args c cX7_goes 5 RX7 E (wA E) := C
  replace hl : lv_has ls 5 [(0, .ref (gE E 0)), (1, .int x1)] := hl
  unfold wX7_goes at h
  refine lv_aload_n hx hb (dAt dX7_goes 0 rfl) rfl (lv_at hl 0 rfl) ?_
  refine lv_iconst (v := 0) hx hb (dAt dX7_goes 1 rfl) (by decide) ?_
  refine lv_iload_n hx hb (dAt dX7_goes 2 rfl) rfl (lv_at hl 1 rfl) ?_
  refine x_calli C hw (x_runV (As := [.int (0 : Int32), .int x1]) (rest := []) C hw (kX7_toldIn l E hE (0 : Int32) x1 σ _ h) mtX7_toldIn lk_X7_200 (hE.1 0) (nM hE (by decide)) rfl ⟨by decide, by decide⟩ ⟨rfl, rfl⟩ rfl hl.1 rfl (Nat.le_of_ble_eq_true rfl) (dAt dX7_goes 3 rfl) ⟨Nat.zero_le _, Nat.zero_le _⟩) (fun r3 σ3 H locs h hw => ?_)
  refine lv_istore_n (lv' := [(2, .int r3), (0, .ref (gE E 0)), (1, .int x1)]) hx hb (dAt dX7_goes 4 rfl) rfl hl (by decide) rfl (fun ls hl => ?_)
  refine lv_iconst (v := 0) hx hb (dAt dX7_goes 5 rfl) (by decide) ?_
  refine lv_istore_n (lv' := [(3, .int (0 : Int32)), (2, .int r3), (0, .ref (gE E 0)), (1, .int x1)]) hx hb (dAt dX7_goes 6 rfl) rfl hl (by decide) rfl (fun ls hl => ?_)
  obtain ⟨n9, h⟩ := h
  exact kX7_goes_9 hE C hr hlk n9 x1 r3 (0 : Int32) σ3  _ _ _ hw (lv_sub hl [2, 3, 1, 0] rfl) h
def tX7_passes : List (Nat × Instr × Nat) := [(0, .aload_n 0, 1), (1, .getfield 73, 3), (4, .iload_n 1, 1), (5, .iconst 0, 1), (6, .iastore, 1), (7, .aload_n 0, 1), (8, .dup, 1), (9, .getfield 191, 3), (12, .aload_n 0, 1), (13, .iconst 2, 1), (14, .iload_n 1, 1), (15, .invokevirtual 200, 3), (18, .ior, 1), (19, .putfield 191, 3), (22, .aload_n 0, 1), (23, .aload_n 0, 1), (24, .iconst 1, 1), (25, .iload_n 1, 1), (26, .invokevirtual 200, 3), (29, .putfield 194, 3), (32, .aload_n 0, 1), (33, .getfield 31, 3), (36, .iload_n 1, 1), (37, .iaload, 1), (38, .iconst 2, 1), (39, .if_icmp .ge 8, 3), (42, .aload_n 0, 1), (43, .iload_n 1, 1), (44, .invokevirtual 209, 3), (47, .iconst 0, 1), (48, .istore_n 2, 1), (49, .iload_n 2, 1), (50, .aload_n 0, 1), (51, .getfield 129, 3), (54, .if_icmp .ge 93, 3), (57, .aload_n 0, 1), (58, .getfield 43, 3), (61, .iload_n 2, 1), (62, .aload_n 0, 1), (63, .getfield 31, 3), (66, .iload_n 1, 1), (67, .iaload, 1), (68, .iconst 3, 1), (69, .if_icmp .ne 14, 3), (72, .iconst 1, 1), (73, .aload_n 0, 1), (74, .getfield 43, 3), (77, .iload_n 2, 1), (78, .iaload, 1), (79, .isub, 1), (80, .goto 9, 3), (83, .aload_n 0, 1), (84, .getfield 43, 3), (87, .iload_n 2, 1), (88, .iaload, 1), (89, .iastore, 1), (90, .aload_n 0, 1), (91, .getfield 61, 3), (94, .bipush 8, 2), (96, .iload_n 1, 1), (97, .imul, 1), (98, .iload_n 2, 1), (99, .iadd, 1), (100, .aload_n 0, 1), (101, .getfield 37, 3), (104, .iload_n 2, 1), (105, .iaload, 1), (106, .iastore, 1), (107, .aload_n 0, 1), (108, .getfield 64, 3), (111, .bipush 8, 2), (113, .iload_n 1, 1), (114, .imul, 1), (115, .iload_n 2, 1), (116, .iadd, 1), (117, .aload_n 0, 1), (118, .getfield 43, 3), (121, .iload_n 2, 1), (122, .iaload, 1), (123, .iastore, 1), (124, .aload_n 0, 1), (125, .getfield 67, 3), (128, .bipush 8, 2), (130, .iload_n 1, 1), (131, .imul, 1), (132, .iload_n 2, 1), (133, .iadd, 1), (134, .aload_n 0, 1), (135, .getfield 46, 3), (138, .iload_n 2, 1), (139, .iaload, 1), (140, .iastore, 1), (141, .iinc 2 1, 3), (144, .goto (-95), 3), (147, .aload_n 0, 1), (148, .getfield 70, 3), (151, .iload_n 1, 1), (152, .aload_n 0, 1), (153, .getfield 178, 3), (156, .iastore, 1), (157, .return_, 1)]
theorem dX7_passes : dOk cX7_passes tX7_passes = true := by decide +kernel
abbrev rX7_passes : Room := { frames := 4, cells := 0, slots := 0, locals := 96 }
def wX7_passes_147 (Q : Mem → Prop) (x1 : Int32) (σ : Mem) : Prop := (vp_in x1 24 ∧ (∀ σ156 : Mem, σ156 = um σ 21 (x1).toNatClampNeg (σ 0 20) → (Q σ156)))
def wX7_passes_89 (K49 : Int32 → Int32 → Mem → Prop) (Q : Mem → Prop) (x1 : Int32) (x2 : Int32) (y0 : Int32) (y1 : Int32) (σ : Mem) : Prop := (vp_in y1 8 ∧ (∀ σ89 : Mem, σ89 = um σ 12 (y1).toNatClampNeg y0 → (vp_in x2 8 ∧ (vp_in (((8 : Int32) * x1) + x2) 192 ∧ (∀ σ106 : Mem, σ106 = um σ89 18 ((((8 : Int32) * x1) + x2)).toNatClampNeg (σ89 10 (x2).toNatClampNeg) → (vp_in x2 8 ∧ (vp_in (((8 : Int32) * x1) + x2) 192 ∧ (∀ σ123 : Mem, σ123 = um σ106 19 ((((8 : Int32) * x1) + x2)).toNatClampNeg (σ106 12 (x2).toNatClampNeg) → (vp_in x2 8 ∧ (vp_in (((8 : Int32) * x1) + x2) 192 ∧ (∀ σ140 : Mem, σ140 = um σ123 20 ((((8 : Int32) * x1) + x2)).toNatClampNeg (σ123 13 (x2).toNatClampNeg) → (K49 x1 (x2 + (1 : Int32)) σ140))))))))))))
def wX7_passes_49 (Q : Mem → Prop) : Nat → Int32 → Int32 → Mem → Prop
  | 0, _, _, _ => False
  | n + 1, x1, x2, σ => ((((σ 0 7) ≤ x2) → (wX7_passes_147 Q x1 σ)) ∧ ((¬ (σ 0 7) ≤ x2) → (vp_in x1 24 ∧ (((¬ (σ 8 (x1).toNatClampNeg) = (3 : Int32)) → (vp_in x2 8 ∧ (wX7_passes_89 (fun x1 x2 ρ => wX7_passes_49 Q n x1 x2 ρ) Q x1 x2 (σ 12 (x2).toNatClampNeg) x2 σ))) ∧ (((σ 8 (x1).toNatClampNeg) = (3 : Int32)) → (vp_in x2 8 ∧ (wX7_passes_89 (fun x1 x2 ρ => wX7_passes_49 Q n x1 x2 ρ) Q x1 x2 ((1 : Int32) - (σ 12 (x2).toNatClampNeg)) x2 σ)))))))
def wX7_passes (x1 : Int32) (σ : Mem) (Q : Mem → Prop) : Prop := (vp_in x1 24 ∧ (∀ σ6 : Mem, σ6 = um σ 22 (x1).toNatClampNeg (0 : Int32) → (wX7_toldIn (2 : Int32) x1 σ6 (fun r15 σ15 => (∀ σ19 : Mem, σ19 = um σ15 0 19 ((σ6 0 19) ||| r15) → (wX7_toldIn (1 : Int32) x1 σ19 (fun r26 σ26 => (∀ σ29 : Mem, σ29 = um σ26 0 25 r26 → (vp_in x1 24 ∧ ((((2 : Int32) ≤ (σ29 8 (x1).toNatClampNeg)) → (∃ N49, wX7_passes_49 Q N49 x1 (0 : Int32) σ29)) ∧ ((¬ (2 : Int32) ≤ (σ29 8 (x1).toNatClampNeg)) → (wX7_goes x1 σ29 (fun σ44 => (∃ N49, wX7_passes_49 Q N49 x1 (0 : Int32) σ44))))))))))))))
set_option maxHeartbeats 4000000 in
set_option maxRecDepth 100000 in
theorem kX7_passes_147 {p : Program} {l : Launch} {e : Env} {s : State} {m : MethodId} {args : Array Value} {below : List Frame} {meth : Method} {c : Code} {E : wE} (hE : wM E) (C : Cx p s m args c cX7_passes 3 RX7 E (wA E)) (hr : meth.sig.returnType = none) (hlk : meth.locks = false) {Q : Mem → Prop} : ∀ (x1 : Int32) (σ : Mem) (H : Heap) (locs : List Loc) (ls : Array Slot), wd E (wA E) s σ H locs → lv_has ls 3 [(0, .ref (gE E 0)), (1, .int x1)] → wX7_passes_147 Q x1 σ → W p l e rX7_passes s m args below meth c H locs 0 0 (MQ below (wQv E Q) args s 0 0 (wA E)) (F0 m 147 ls []) := by
  have hx := C.1.1
  have hb := C.1.2.1
  intro x1 σ  H locs ls hw hl h
  unfold wX7_passes_147 at h
  refine lv_aload_n hx hb (dAt dX7_passes 94 rfl) rfl (lv_at hl 0 rfl) ?_
  refine x_getr C hw fl_X7_70 (hE.1 0) (nM hE (by decide)) rfl (dAt dX7_passes 95 rfl) ?_
  refine lv_iload_n hx hb (dAt dX7_passes 96 rfl) rfl (lv_at hl 1 rfl) ?_
  refine lv_aload_n hx hb (dAt dX7_passes 97 rfl) rfl (lv_at hl 0 rfl) ?_
  refine x_geti C hw fl_X7_178 (hE.1 0) (nM hE (by decide)) rfl (dAt dX7_passes 98 rfl) ?_
  obtain ⟨z156, h⟩ := h
  refine x_ist C hw (hE.1 21) (nM hE (by decide)) z156 rfl (dAt dX7_passes 99 rfl) (fun σ156 H locs eσ156 hw => ?_)
  replace h := h σ156 eσ156
  exact x_vret C hw hr hlk h (dAt dX7_passes 100 rfl)
set_option maxHeartbeats 4000000 in
set_option maxRecDepth 100000 in
theorem kX7_passes_89 {p : Program} {l : Launch} {e : Env} {s : State} {m : MethodId} {args : Array Value} {below : List Frame} {meth : Method} {c : Code} {E : wE} (hE : wM E) (C : Cx p s m args c cX7_passes 3 RX7 E (wA E)) (hr : meth.sig.returnType = none) (hlk : meth.locks = false) {Q : Mem → Prop} {K49 : Int32 → Int32 → Mem → Prop} (hK49 : ∀ (x1 : Int32) (x2 : Int32) (σ : Mem) (H : Heap) (locs : List Loc) (ls : Array Slot), wd E (wA E) s σ H locs → lv_has ls 3 [(0, .ref (gE E 0)), (1, .int x1), (2, .int x2)] → K49 x1 x2 σ → W p l e rX7_passes s m args below meth c H locs 0 0 (MQ below (wQv E Q) args s 0 0 (wA E)) (F0 m 49 ls [])) : ∀ (x1 : Int32) (x2 : Int32) (y0 : Int32) (y1 : Int32) (σ : Mem) (H : Heap) (locs : List Loc) (ls : Array Slot), wd E (wA E) s σ H locs → lv_has ls 3 [(0, .ref (gE E 0)), (1, .int x1), (2, .int x2)] → wX7_passes_89 K49 Q x1 x2 y0 y1 σ → W p l e rX7_passes s m args below meth c H locs 0 0 (MQ below (wQv E Q) args s 0 0 (wA E)) (F0 m 89 ls [.int y0, .int y1, .ref (gE E 12)]) := by
  have hx := C.1.1
  have hb := C.1.2.1
  intro x1 x2 y0 y1 σ  H locs ls hw hl h
  unfold wX7_passes_89 at h
  obtain ⟨z89, h⟩ := h
  refine x_ist C hw (hE.1 12) (nM hE (by decide)) z89 rfl (dAt dX7_passes 55 rfl) (fun σ89 H locs eσ89 hw => ?_)
  replace h := h σ89 eσ89
  refine lv_aload_n hx hb (dAt dX7_passes 56 rfl) rfl (lv_at hl 0 rfl) ?_
  refine x_getr C hw fl_X7_61 (hE.1 0) (nM hE (by decide)) rfl (dAt dX7_passes 57 rfl) ?_
  refine lv_bipush (v := 8) hx hb (dAt dX7_passes 58 rfl) (by decide) ?_
  refine lv_iload_n hx hb (dAt dX7_passes 59 rfl) rfl (lv_at hl 1 rfl) ?_
  refine lv_imul hx hb (dAt dX7_passes 60 rfl) ?_
  refine lv_iload_n hx hb (dAt dX7_passes 61 rfl) rfl (lv_at hl 2 rfl) ?_
  refine lv_iadd hx hb (dAt dX7_passes 62 rfl) ?_
  refine lv_aload_n hx hb (dAt dX7_passes 63 rfl) rfl (lv_at hl 0 rfl) ?_
  refine x_getr C hw fl_X7_37 (hE.1 0) (nM hE (by decide)) rfl (dAt dX7_passes 64 rfl) ?_
  refine lv_iload_n hx hb (dAt dX7_passes 65 rfl) rfl (lv_at hl 2 rfl) ?_
  obtain ⟨z105, h⟩ := h
  refine x_ild C hw (hE.1 10) (nM hE (by decide)) z105 rfl (dAt dX7_passes 66 rfl) ?_
  obtain ⟨z106, h⟩ := h
  refine x_ist C hw (hE.1 18) (nM hE (by decide)) z106 rfl (dAt dX7_passes 67 rfl) (fun σ106 H locs eσ106 hw => ?_)
  replace h := h σ106 eσ106
  refine lv_aload_n hx hb (dAt dX7_passes 68 rfl) rfl (lv_at hl 0 rfl) ?_
  refine x_getr C hw fl_X7_64 (hE.1 0) (nM hE (by decide)) rfl (dAt dX7_passes 69 rfl) ?_
  refine lv_bipush (v := 8) hx hb (dAt dX7_passes 70 rfl) (by decide) ?_
  refine lv_iload_n hx hb (dAt dX7_passes 71 rfl) rfl (lv_at hl 1 rfl) ?_
  refine lv_imul hx hb (dAt dX7_passes 72 rfl) ?_
  refine lv_iload_n hx hb (dAt dX7_passes 73 rfl) rfl (lv_at hl 2 rfl) ?_
  refine lv_iadd hx hb (dAt dX7_passes 74 rfl) ?_
  refine lv_aload_n hx hb (dAt dX7_passes 75 rfl) rfl (lv_at hl 0 rfl) ?_
  refine x_getr C hw fl_X7_43 (hE.1 0) (nM hE (by decide)) rfl (dAt dX7_passes 76 rfl) ?_
  refine lv_iload_n hx hb (dAt dX7_passes 77 rfl) rfl (lv_at hl 2 rfl) ?_
  obtain ⟨z122, h⟩ := h
  refine x_ild C hw (hE.1 12) (nM hE (by decide)) z122 rfl (dAt dX7_passes 78 rfl) ?_
  obtain ⟨z123, h⟩ := h
  refine x_ist C hw (hE.1 19) (nM hE (by decide)) z123 rfl (dAt dX7_passes 79 rfl) (fun σ123 H locs eσ123 hw => ?_)
  replace h := h σ123 eσ123
  refine lv_aload_n hx hb (dAt dX7_passes 80 rfl) rfl (lv_at hl 0 rfl) ?_
  refine x_getr C hw fl_X7_67 (hE.1 0) (nM hE (by decide)) rfl (dAt dX7_passes 81 rfl) ?_
  refine lv_bipush (v := 8) hx hb (dAt dX7_passes 82 rfl) (by decide) ?_
  refine lv_iload_n hx hb (dAt dX7_passes 83 rfl) rfl (lv_at hl 1 rfl) ?_
  refine lv_imul hx hb (dAt dX7_passes 84 rfl) ?_
  refine lv_iload_n hx hb (dAt dX7_passes 85 rfl) rfl (lv_at hl 2 rfl) ?_
  refine lv_iadd hx hb (dAt dX7_passes 86 rfl) ?_
  refine lv_aload_n hx hb (dAt dX7_passes 87 rfl) rfl (lv_at hl 0 rfl) ?_
  refine x_getr C hw fl_X7_46 (hE.1 0) (nM hE (by decide)) rfl (dAt dX7_passes 88 rfl) ?_
  refine lv_iload_n hx hb (dAt dX7_passes 89 rfl) rfl (lv_at hl 2 rfl) ?_
  obtain ⟨z139, h⟩ := h
  refine x_ild C hw (hE.1 13) (nM hE (by decide)) z139 rfl (dAt dX7_passes 90 rfl) ?_
  obtain ⟨z140, h⟩ := h
  refine x_ist C hw (hE.1 20) (nM hE (by decide)) z140 rfl (dAt dX7_passes 91 rfl) (fun σ140 H locs eσ140 hw => ?_)
  replace h := h σ140 eσ140
  refine lv_iinc (v := (x2 + (1 : Int32))) (lv' := [(2, .int (x2 + (1 : Int32))), (0, .ref (gE E 0)), (1, .int x1)]) hx hb (dAt dX7_passes 92 rfl) hl (k := 2) rfl rfl (by decide) rfl (fun ls hl => ?_)
  refine lv_goto (tgt := 49) hx hb (dAt dX7_passes 93 rfl) (by decide) ?_
  exact hK49 x1 (x2 + (1 : Int32)) σ140  _ _ _ hw (lv_sub hl [1, 2, 0] rfl) h
set_option maxHeartbeats 4000000 in
set_option maxRecDepth 100000 in
theorem kX7_passes_49 {p : Program} {l : Launch} {e : Env} {s : State} {m : MethodId} {args : Array Value} {below : List Frame} {meth : Method} {c : Code} {E : wE} (hE : wM E) (C : Cx p s m args c cX7_passes 3 RX7 E (wA E)) (hr : meth.sig.returnType = none) (hlk : meth.locks = false) {Q : Mem → Prop} : ∀ (n : Nat) (x1 : Int32) (x2 : Int32) (σ : Mem) (H : Heap) (locs : List Loc) (ls : Array Slot), wd E (wA E) s σ H locs → lv_has ls 3 [(0, .ref (gE E 0)), (1, .int x1), (2, .int x2)] → wX7_passes_49 Q n x1 x2 σ → W p l e rX7_passes s m args below meth c H locs 0 0 (MQ below (wQv E Q) args s 0 0 (wA E)) (F0 m 49 ls []) := by
  have hx := C.1.1
  have hb := C.1.2.1
  intro n
  induction n with
  | zero =>
    intro x1 x2 σ  H locs ls hw hl h
    exact h.elim
  | succ n ih =>
    intro x1 x2 σ  H locs ls hw hl h
    rw [wX7_passes_49] at h
    refine lv_iload_n hx hb (dAt dX7_passes 31 rfl) rfl (lv_at hl 2 rfl) ?_
    refine lv_aload_n hx hb (dAt dX7_passes 32 rfl) rfl (lv_at hl 0 rfl) ?_
    refine x_geti C hw fl_X7_129 (hE.1 0) (nM hE (by decide)) rfl (dAt dX7_passes 33 rfl) ?_
    refine lv_icmp_ge (tgt := 147) hx hb (dAt dX7_passes 34 rfl) (by decide) (fun c54 => ?_) (fun c54 => ?_)
    · replace h := h.1 c54
      exact kX7_passes_147 hE C hr hlk x1 σ  _ _ _ hw (lv_sub hl [0, 1] rfl) h
    · replace h := h.2 c54
      refine lv_aload_n hx hb (dAt dX7_passes 35 rfl) rfl (lv_at hl 0 rfl) ?_
      refine x_getr C hw fl_X7_43 (hE.1 0) (nM hE (by decide)) rfl (dAt dX7_passes 36 rfl) ?_
      refine lv_iload_n hx hb (dAt dX7_passes 37 rfl) rfl (lv_at hl 2 rfl) ?_
      refine lv_aload_n hx hb (dAt dX7_passes 38 rfl) rfl (lv_at hl 0 rfl) ?_
      refine x_getr C hw fl_X7_31 (hE.1 0) (nM hE (by decide)) rfl (dAt dX7_passes 39 rfl) ?_
      refine lv_iload_n hx hb (dAt dX7_passes 40 rfl) rfl (lv_at hl 1 rfl) ?_
      obtain ⟨z67, h⟩ := h
      refine x_ild C hw (hE.1 8) (nM hE (by decide)) z67 rfl (dAt dX7_passes 41 rfl) ?_
      refine lv_iconst (v := 3) hx hb (dAt dX7_passes 42 rfl) (by decide) ?_
      refine lv_icmp_ne (tgt := 83) hx hb (dAt dX7_passes 43 rfl) (by decide) (fun c69 => ?_) (fun c69 => ?_)
      · replace h := h.1 c69
        refine lv_aload_n hx hb (dAt dX7_passes 51 rfl) rfl (lv_at hl 0 rfl) ?_
        refine x_getr C hw fl_X7_43 (hE.1 0) (nM hE (by decide)) rfl (dAt dX7_passes 52 rfl) ?_
        refine lv_iload_n hx hb (dAt dX7_passes 53 rfl) rfl (lv_at hl 2 rfl) ?_
        obtain ⟨z88, h⟩ := h
        refine x_ild C hw (hE.1 12) (nM hE (by decide)) z88 rfl (dAt dX7_passes 54 rfl) ?_
        exact kX7_passes_89 hE C hr hlk ih x1 x2 (σ 12 (x2).toNatClampNeg) x2 σ  _ _ _ hw (lv_sub hl [0, 1, 2] rfl) h
      · replace h := h.2 c69
        refine lv_iconst (v := 1) hx hb (dAt dX7_passes 44 rfl) (by decide) ?_
        refine lv_aload_n hx hb (dAt dX7_passes 45 rfl) rfl (lv_at hl 0 rfl) ?_
        refine x_getr C hw fl_X7_43 (hE.1 0) (nM hE (by decide)) rfl (dAt dX7_passes 46 rfl) ?_
        refine lv_iload_n hx hb (dAt dX7_passes 47 rfl) rfl (lv_at hl 2 rfl) ?_
        obtain ⟨z78, h⟩ := h
        refine x_ild C hw (hE.1 12) (nM hE (by decide)) z78 rfl (dAt dX7_passes 48 rfl) ?_
        refine lv_isub hx hb (dAt dX7_passes 49 rfl) ?_
        refine lv_goto (tgt := 89) hx hb (dAt dX7_passes 50 rfl) (by decide) ?_
        exact kX7_passes_89 hE C hr hlk ih x1 x2 ((1 : Int32) - (σ 12 (x2).toNatClampNeg)) x2 σ  _ _ _ hw (lv_sub hl [0, 1, 2] rfl) h
set_option maxHeartbeats 4000000 in
set_option maxRecDepth 100000 in
theorem kX7_passes (l : Launch) (E : wE) (hE : wM E) (x1 : Int32) (σ : Mem) (Q : Mem → Prop) (h : wX7_passes x1 σ Q) : Met l yX7_passes (Cond.code yX7_passes cX7_passes 3 none :: TB) rX7_passes (wPc E σ [.ref (gE E 0), .int x1]) (wQv E Q) 0 0 (wA E) := by
  refine wMet (by decide) hE.2.2 (Nat.le_of_ble_eq_true rfl) ?_
  intro p e s m args below meth c ls C hr hlk hl hw
  have hx := C.1.1
  have hb := C.1.2.1
  replace C : Cx p s m args c cX7_passes 3 RX7 E (wA E) := C
  replace hl : lv_has ls 3 [(0, .ref (gE E 0)), (1, .int x1)] := hl
  unfold wX7_passes at h
  refine lv_aload_n hx hb (dAt dX7_passes 0 rfl) rfl (lv_at hl 0 rfl) ?_
  refine x_getr C hw fl_X7_73 (hE.1 0) (nM hE (by decide)) rfl (dAt dX7_passes 1 rfl) ?_
  refine lv_iload_n hx hb (dAt dX7_passes 2 rfl) rfl (lv_at hl 1 rfl) ?_
  refine lv_iconst (v := 0) hx hb (dAt dX7_passes 3 rfl) (by decide) ?_
  obtain ⟨z6, h⟩ := h
  refine x_ist C hw (hE.1 22) (nM hE (by decide)) z6 rfl (dAt dX7_passes 4 rfl) (fun σ6 H locs eσ6 hw => ?_)
  replace h := h σ6 eσ6
  refine lv_aload_n hx hb (dAt dX7_passes 5 rfl) rfl (lv_at hl 0 rfl) ?_
  refine lv_dup hx hb (dAt dX7_passes 6 rfl) rfl ?_
  refine x_geti C hw fl_X7_191 (hE.1 0) (nM hE (by decide)) rfl (dAt dX7_passes 7 rfl) ?_
  refine lv_aload_n hx hb (dAt dX7_passes 8 rfl) rfl (lv_at hl 0 rfl) ?_
  refine lv_iconst (v := 2) hx hb (dAt dX7_passes 9 rfl) (by decide) ?_
  refine lv_iload_n hx hb (dAt dX7_passes 10 rfl) rfl (lv_at hl 1 rfl) ?_
  refine x_calli C hw (x_runV (As := [.int (2 : Int32), .int x1]) (rest := [.int (σ6 0 19), .ref (gE E 0)]) C hw (kX7_toldIn l E hE (2 : Int32) x1 σ6 _ h) mtX7_toldIn lk_X7_200 (hE.1 0) (nM hE (by decide)) rfl ⟨by decide, by decide⟩ ⟨rfl, rfl⟩ rfl hl.1 rfl (Nat.le_of_ble_eq_true rfl) (dAt dX7_passes 11 rfl) ⟨Nat.zero_le _, Nat.zero_le _⟩) (fun r15 σ15 H locs h hw => ?_)
  refine lv_ior hx hb (dAt dX7_passes 12 rfl) ?_
  refine x_pf C hw fl_X7_191 (hE.1 0) (nM hE (by decide)) rfl rfl rfl (dAt dX7_passes 13 rfl) (fun σ19 H locs eσ19 hw => ?_)
  replace h := h σ19 eσ19
  refine lv_aload_n hx hb (dAt dX7_passes 14 rfl) rfl (lv_at hl 0 rfl) ?_
  refine lv_aload_n hx hb (dAt dX7_passes 15 rfl) rfl (lv_at hl 0 rfl) ?_
  refine lv_iconst (v := 1) hx hb (dAt dX7_passes 16 rfl) (by decide) ?_
  refine lv_iload_n hx hb (dAt dX7_passes 17 rfl) rfl (lv_at hl 1 rfl) ?_
  refine x_calli C hw (x_runV (As := [.int (1 : Int32), .int x1]) (rest := [.ref (gE E 0)]) C hw (kX7_toldIn l E hE (1 : Int32) x1 σ19 _ h) mtX7_toldIn lk_X7_200 (hE.1 0) (nM hE (by decide)) rfl ⟨by decide, by decide⟩ ⟨rfl, rfl⟩ rfl hl.1 rfl (Nat.le_of_ble_eq_true rfl) (dAt dX7_passes 18 rfl) ⟨Nat.zero_le _, Nat.zero_le _⟩) (fun r26 σ26 H locs h hw => ?_)
  refine x_pf C hw fl_X7_194 (hE.1 0) (nM hE (by decide)) rfl rfl rfl (dAt dX7_passes 19 rfl) (fun σ29 H locs eσ29 hw => ?_)
  replace h := h σ29 eσ29
  refine lv_aload_n hx hb (dAt dX7_passes 20 rfl) rfl (lv_at hl 0 rfl) ?_
  refine x_getr C hw fl_X7_31 (hE.1 0) (nM hE (by decide)) rfl (dAt dX7_passes 21 rfl) ?_
  refine lv_iload_n hx hb (dAt dX7_passes 22 rfl) rfl (lv_at hl 1 rfl) ?_
  obtain ⟨z37, h⟩ := h
  refine x_ild C hw (hE.1 8) (nM hE (by decide)) z37 rfl (dAt dX7_passes 23 rfl) ?_
  refine lv_iconst (v := 2) hx hb (dAt dX7_passes 24 rfl) (by decide) ?_
  refine lv_icmp_ge (tgt := 47) hx hb (dAt dX7_passes 25 rfl) (by decide) (fun c39 => ?_) (fun c39 => ?_)
  · replace h := h.1 c39
    refine lv_iconst (v := 0) hx hb (dAt dX7_passes 29 rfl) (by decide) ?_
    refine lv_istore_n (lv' := [(2, .int (0 : Int32)), (0, .ref (gE E 0)), (1, .int x1)]) hx hb (dAt dX7_passes 30 rfl) rfl hl (by decide) rfl (fun ls hl => ?_)
    obtain ⟨n49, h⟩ := h
    exact kX7_passes_49 hE C hr hlk n49 x1 (0 : Int32) σ29  _ _ _ hw (lv_sub hl [1, 2, 0] rfl) h
  · replace h := h.2 c39
    refine lv_aload_n hx hb (dAt dX7_passes 26 rfl) rfl (lv_at hl 0 rfl) ?_
    refine lv_iload_n hx hb (dAt dX7_passes 27 rfl) rfl (lv_at hl 1 rfl) ?_
    refine x_callv C hw (x_runV (As := [.int x1]) (rest := []) C hw (kX7_goes l E hE x1 σ29 _ h) mtX7_goes lk_X7_209 (hE.1 0) (nM hE (by decide)) rfl ⟨by decide, by decide⟩ ⟨rfl, rfl⟩ rfl hl.1 rfl (Nat.le_of_ble_eq_true rfl) (dAt dX7_passes 28 rfl) ⟨Nat.zero_le _, Nat.zero_le _⟩) (fun σ44 H locs h hw => ?_)
    refine lv_iconst (v := 0) hx hb (dAt dX7_passes 29 rfl) (by decide) ?_
    refine lv_istore_n (lv' := [(2, .int (0 : Int32)), (0, .ref (gE E 0)), (1, .int x1)]) hx hb (dAt dX7_passes 30 rfl) rfl hl (by decide) rfl (fun ls hl => ?_)
    obtain ⟨n49, h⟩ := h
    exact kX7_passes_49 hE C hr hlk n49 x1 (0 : Int32) σ44  _ _ _ hw (lv_sub hl [1, 2, 0] rfl) h
def tX7_lives : List (Nat × Instr × Nat) := [(0, .iconst 0, 1), (1, .istore_n 1, 1), (2, .iload_n 1, 1), (3, .aload_n 0, 1), (4, .getfield 129, 3), (7, .if_icmp .ge 49, 3), (10, .aload_n 0, 1), (11, .getfield 37, 3), (14, .iload_n 1, 1), (15, .aload_n 0, 1), (16, .getfield 28, 3), (19, .iconst 3, 1), (20, .iload_n 1, 1), (21, .imul, 1), (22, .iaload, 1), (23, .iastore, 1), (24, .aload_n 0, 1), (25, .getfield 43, 3), (28, .iload_n 1, 1), (29, .aload_n 0, 1), (30, .getfield 28, 3), (33, .iconst 3, 1), (34, .iload_n 1, 1), (35, .imul, 1), (36, .iconst 1, 1), (37, .iadd, 1), (38, .iaload, 1), (39, .iastore, 1), (40, .aload_n 0, 1), (41, .getfield 46, 3), (44, .iload_n 1, 1), (45, .aload_n 0, 1), (46, .getfield 82, 3), (49, .iastore, 1), (50, .iinc 1 1, 3), (53, .goto (-51), 3), (56, .aload_n 0, 1), (57, .iconst 0, 1), (58, .putfield 191, 3), (61, .aload_n 0, 1), (62, .iconst 0, 1), (63, .putfield 178, 3), (66, .aload_n 0, 1), (67, .iconst 0, 1), (68, .putfield 188, 3), (71, .aload_n 0, 1), (72, .iconst 0, 1), (73, .putfield 181, 3), (76, .iconst 0, 1), (77, .istore_n 1, 1), (78, .iload_n 1, 1), (79, .bipush 24, 2), (81, .if_icmp .ge 14, 3), (84, .aload_n 0, 1), (85, .iload_n 1, 1), (86, .invokevirtual 213, 3), (89, .iinc 1 1, 3), (92, .goto (-14), 3), (95, .return_, 1)]
theorem dX7_lives : dOk cX7_lives tX7_lives = true := by decide +kernel
abbrev rX7_lives : Room := { frames := 5, cells := 0, slots := 0, locals := 118 }
def wX7_lives_78 (Q : Mem → Prop) : Nat → Int32 → Mem → Prop
  | 0, _, _ => False
  | n + 1, x1, σ => ((((24 : Int32) ≤ x1) → (Q σ)) ∧ ((¬ (24 : Int32) ≤ x1) → (wX7_passes x1 σ (fun σ86 => (wX7_lives_78 Q n (x1 + (1 : Int32)) σ86)))))
def wX7_lives_56 (Q : Mem → Prop) (σ : Mem) : Prop := (∀ σ58 : Mem, σ58 = um σ 0 19 (0 : Int32) → (∀ σ63 : Mem, σ63 = um σ58 0 20 (0 : Int32) → (∀ σ68 : Mem, σ68 = um σ63 0 26 (0 : Int32) → (∀ σ73 : Mem, σ73 = um σ68 0 27 (0 : Int32) → (∃ N78, wX7_lives_78 Q N78 (0 : Int32) σ73)))))
def wX7_lives_2 (Q : Mem → Prop) : Nat → Int32 → Mem → Prop
  | 0, _, _ => False
  | n + 1, x1, σ => ((((σ 0 7) ≤ x1) → (wX7_lives_56 Q σ)) ∧ ((¬ (σ 0 7) ≤ x1) → (vp_in ((3 : Int32) * x1) 24 ∧ (vp_in x1 8 ∧ (∀ σ23 : Mem, σ23 = um σ 10 (x1).toNatClampNeg (σ 7 (((3 : Int32) * x1)).toNatClampNeg) → (vp_in (((3 : Int32) * x1) + (1 : Int32)) 24 ∧ (vp_in x1 8 ∧ (∀ σ39 : Mem, σ39 = um σ23 12 (x1).toNatClampNeg (σ23 7 ((((3 : Int32) * x1) + (1 : Int32))).toNatClampNeg) → (vp_in x1 8 ∧ (∀ σ49 : Mem, σ49 = um σ39 13 (x1).toNatClampNeg (σ39 0 11) → (wX7_lives_2 Q n (x1 + (1 : Int32)) σ49)))))))))))
def wX7_lives (σ : Mem) (Q : Mem → Prop) : Prop := (∃ N2, wX7_lives_2 Q N2 (0 : Int32) σ)
set_option maxHeartbeats 4000000 in
set_option maxRecDepth 100000 in
theorem kX7_lives_78 {p : Program} {l : Launch} {e : Env} {s : State} {m : MethodId} {args : Array Value} {below : List Frame} {meth : Method} {c : Code} {E : wE} (hE : wM E) (C : Cx p s m args c cX7_lives 2 RX7 E (wA E)) (hr : meth.sig.returnType = none) (hlk : meth.locks = false) {Q : Mem → Prop} : ∀ (n : Nat) (x1 : Int32) (σ : Mem) (H : Heap) (locs : List Loc) (ls : Array Slot), wd E (wA E) s σ H locs → lv_has ls 2 [(0, .ref (gE E 0)), (1, .int x1)] → wX7_lives_78 Q n x1 σ → W p l e rX7_lives s m args below meth c H locs 0 0 (MQ below (wQv E Q) args s 0 0 (wA E)) (F0 m 78 ls []) := by
  have hx := C.1.1
  have hb := C.1.2.1
  intro n
  induction n with
  | zero =>
    intro x1 σ  H locs ls hw hl h
    exact h.elim
  | succ n ih =>
    intro x1 σ  H locs ls hw hl h
    rw [wX7_lives_78] at h
    refine lv_iload_n hx hb (dAt dX7_lives 50 rfl) rfl (lv_at hl 1 rfl) ?_
    refine lv_bipush (v := 24) hx hb (dAt dX7_lives 51 rfl) (by decide) ?_
    refine lv_icmp_ge (tgt := 95) hx hb (dAt dX7_lives 52 rfl) (by decide) (fun c81 => ?_) (fun c81 => ?_)
    · replace h := h.1 c81
      exact x_vret C hw hr hlk h (dAt dX7_lives 58 rfl)
    · replace h := h.2 c81
      refine lv_aload_n hx hb (dAt dX7_lives 53 rfl) rfl (lv_at hl 0 rfl) ?_
      refine lv_iload_n hx hb (dAt dX7_lives 54 rfl) rfl (lv_at hl 1 rfl) ?_
      refine x_callv C hw (x_runV (As := [.int x1]) (rest := []) C hw (kX7_passes l E hE x1 σ _ h) mtX7_passes lk_X7_213 (hE.1 0) (nM hE (by decide)) rfl ⟨by decide, by decide⟩ ⟨rfl, rfl⟩ rfl hl.1 rfl (Nat.le_of_ble_eq_true rfl) (dAt dX7_lives 55 rfl) ⟨Nat.zero_le _, Nat.zero_le _⟩) (fun σ86 H locs h hw => ?_)
      refine lv_iinc (v := (x1 + (1 : Int32))) (lv' := [(1, .int (x1 + (1 : Int32))), (0, .ref (gE E 0))]) hx hb (dAt dX7_lives 56 rfl) hl (k := 1) rfl rfl (by decide) rfl (fun ls hl => ?_)
      refine lv_goto (tgt := 78) hx hb (dAt dX7_lives 57 rfl) (by decide) ?_
      exact ih (x1 + (1 : Int32)) σ86  _ _ _ hw (lv_sub hl [1, 0] rfl) h
set_option maxHeartbeats 4000000 in
set_option maxRecDepth 100000 in
theorem kX7_lives_56 {p : Program} {l : Launch} {e : Env} {s : State} {m : MethodId} {args : Array Value} {below : List Frame} {meth : Method} {c : Code} {E : wE} (hE : wM E) (C : Cx p s m args c cX7_lives 2 RX7 E (wA E)) (hr : meth.sig.returnType = none) (hlk : meth.locks = false) {Q : Mem → Prop} : ∀ (σ : Mem) (H : Heap) (locs : List Loc) (ls : Array Slot), wd E (wA E) s σ H locs → lv_has ls 2 [(0, .ref (gE E 0))] → wX7_lives_56 Q σ → W p l e rX7_lives s m args below meth c H locs 0 0 (MQ below (wQv E Q) args s 0 0 (wA E)) (F0 m 56 ls []) := by
  have hx := C.1.1
  have hb := C.1.2.1
  intro σ  H locs ls hw hl h
  unfold wX7_lives_56 at h
  refine lv_aload_n hx hb (dAt dX7_lives 36 rfl) rfl (lv_at hl 0 rfl) ?_
  refine lv_iconst (v := 0) hx hb (dAt dX7_lives 37 rfl) (by decide) ?_
  refine x_pf C hw fl_X7_191 (hE.1 0) (nM hE (by decide)) rfl rfl rfl (dAt dX7_lives 38 rfl) (fun σ58 H locs eσ58 hw => ?_)
  replace h := h σ58 eσ58
  refine lv_aload_n hx hb (dAt dX7_lives 39 rfl) rfl (lv_at hl 0 rfl) ?_
  refine lv_iconst (v := 0) hx hb (dAt dX7_lives 40 rfl) (by decide) ?_
  refine x_pf C hw fl_X7_178 (hE.1 0) (nM hE (by decide)) rfl rfl rfl (dAt dX7_lives 41 rfl) (fun σ63 H locs eσ63 hw => ?_)
  replace h := h σ63 eσ63
  refine lv_aload_n hx hb (dAt dX7_lives 42 rfl) rfl (lv_at hl 0 rfl) ?_
  refine lv_iconst (v := 0) hx hb (dAt dX7_lives 43 rfl) (by decide) ?_
  refine x_pf C hw fl_X7_188 (hE.1 0) (nM hE (by decide)) rfl rfl rfl (dAt dX7_lives 44 rfl) (fun σ68 H locs eσ68 hw => ?_)
  replace h := h σ68 eσ68
  refine lv_aload_n hx hb (dAt dX7_lives 45 rfl) rfl (lv_at hl 0 rfl) ?_
  refine lv_iconst (v := 0) hx hb (dAt dX7_lives 46 rfl) (by decide) ?_
  refine x_pf C hw fl_X7_181 (hE.1 0) (nM hE (by decide)) rfl rfl rfl (dAt dX7_lives 47 rfl) (fun σ73 H locs eσ73 hw => ?_)
  replace h := h σ73 eσ73
  refine lv_iconst (v := 0) hx hb (dAt dX7_lives 48 rfl) (by decide) ?_
  refine lv_istore_n (lv' := [(1, .int (0 : Int32)), (0, .ref (gE E 0))]) hx hb (dAt dX7_lives 49 rfl) rfl hl (by decide) rfl (fun ls hl => ?_)
  obtain ⟨n78, h⟩ := h
  exact kX7_lives_78 hE C hr hlk n78 (0 : Int32) σ73  _ _ _ hw (lv_sub hl [1, 0] rfl) h
set_option maxHeartbeats 4000000 in
set_option maxRecDepth 100000 in
theorem kX7_lives_2 {p : Program} {l : Launch} {e : Env} {s : State} {m : MethodId} {args : Array Value} {below : List Frame} {meth : Method} {c : Code} {E : wE} (hE : wM E) (C : Cx p s m args c cX7_lives 2 RX7 E (wA E)) (hr : meth.sig.returnType = none) (hlk : meth.locks = false) {Q : Mem → Prop} : ∀ (n : Nat) (x1 : Int32) (σ : Mem) (H : Heap) (locs : List Loc) (ls : Array Slot), wd E (wA E) s σ H locs → lv_has ls 2 [(0, .ref (gE E 0)), (1, .int x1)] → wX7_lives_2 Q n x1 σ → W p l e rX7_lives s m args below meth c H locs 0 0 (MQ below (wQv E Q) args s 0 0 (wA E)) (F0 m 2 ls []) := by
  have hx := C.1.1
  have hb := C.1.2.1
  intro n
  induction n with
  | zero =>
    intro x1 σ  H locs ls hw hl h
    exact h.elim
  | succ n ih =>
    intro x1 σ  H locs ls hw hl h
    rw [wX7_lives_2] at h
    refine lv_iload_n hx hb (dAt dX7_lives 2 rfl) rfl (lv_at hl 1 rfl) ?_
    refine lv_aload_n hx hb (dAt dX7_lives 3 rfl) rfl (lv_at hl 0 rfl) ?_
    refine x_geti C hw fl_X7_129 (hE.1 0) (nM hE (by decide)) rfl (dAt dX7_lives 4 rfl) ?_
    refine lv_icmp_ge (tgt := 56) hx hb (dAt dX7_lives 5 rfl) (by decide) (fun c7 => ?_) (fun c7 => ?_)
    · replace h := h.1 c7
      exact kX7_lives_56 hE C hr hlk σ  _ _ _ hw (lv_sub hl [0] rfl) h
    · replace h := h.2 c7
      refine lv_aload_n hx hb (dAt dX7_lives 6 rfl) rfl (lv_at hl 0 rfl) ?_
      refine x_getr C hw fl_X7_37 (hE.1 0) (nM hE (by decide)) rfl (dAt dX7_lives 7 rfl) ?_
      refine lv_iload_n hx hb (dAt dX7_lives 8 rfl) rfl (lv_at hl 1 rfl) ?_
      refine lv_aload_n hx hb (dAt dX7_lives 9 rfl) rfl (lv_at hl 0 rfl) ?_
      refine x_getr C hw fl_X7_28 (hE.1 0) (nM hE (by decide)) rfl (dAt dX7_lives 10 rfl) ?_
      refine lv_iconst (v := 3) hx hb (dAt dX7_lives 11 rfl) (by decide) ?_
      refine lv_iload_n hx hb (dAt dX7_lives 12 rfl) rfl (lv_at hl 1 rfl) ?_
      refine lv_imul hx hb (dAt dX7_lives 13 rfl) ?_
      obtain ⟨z22, h⟩ := h
      refine x_ild C hw (hE.1 7) (nM hE (by decide)) z22 rfl (dAt dX7_lives 14 rfl) ?_
      obtain ⟨z23, h⟩ := h
      refine x_ist C hw (hE.1 10) (nM hE (by decide)) z23 rfl (dAt dX7_lives 15 rfl) (fun σ23 H locs eσ23 hw => ?_)
      replace h := h σ23 eσ23
      refine lv_aload_n hx hb (dAt dX7_lives 16 rfl) rfl (lv_at hl 0 rfl) ?_
      refine x_getr C hw fl_X7_43 (hE.1 0) (nM hE (by decide)) rfl (dAt dX7_lives 17 rfl) ?_
      refine lv_iload_n hx hb (dAt dX7_lives 18 rfl) rfl (lv_at hl 1 rfl) ?_
      refine lv_aload_n hx hb (dAt dX7_lives 19 rfl) rfl (lv_at hl 0 rfl) ?_
      refine x_getr C hw fl_X7_28 (hE.1 0) (nM hE (by decide)) rfl (dAt dX7_lives 20 rfl) ?_
      refine lv_iconst (v := 3) hx hb (dAt dX7_lives 21 rfl) (by decide) ?_
      refine lv_iload_n hx hb (dAt dX7_lives 22 rfl) rfl (lv_at hl 1 rfl) ?_
      refine lv_imul hx hb (dAt dX7_lives 23 rfl) ?_
      refine lv_iconst (v := 1) hx hb (dAt dX7_lives 24 rfl) (by decide) ?_
      refine lv_iadd hx hb (dAt dX7_lives 25 rfl) ?_
      obtain ⟨z38, h⟩ := h
      refine x_ild C hw (hE.1 7) (nM hE (by decide)) z38 rfl (dAt dX7_lives 26 rfl) ?_
      obtain ⟨z39, h⟩ := h
      refine x_ist C hw (hE.1 12) (nM hE (by decide)) z39 rfl (dAt dX7_lives 27 rfl) (fun σ39 H locs eσ39 hw => ?_)
      replace h := h σ39 eσ39
      refine lv_aload_n hx hb (dAt dX7_lives 28 rfl) rfl (lv_at hl 0 rfl) ?_
      refine x_getr C hw fl_X7_46 (hE.1 0) (nM hE (by decide)) rfl (dAt dX7_lives 29 rfl) ?_
      refine lv_iload_n hx hb (dAt dX7_lives 30 rfl) rfl (lv_at hl 1 rfl) ?_
      refine lv_aload_n hx hb (dAt dX7_lives 31 rfl) rfl (lv_at hl 0 rfl) ?_
      refine x_geti C hw fl_X7_82 (hE.1 0) (nM hE (by decide)) rfl (dAt dX7_lives 32 rfl) ?_
      obtain ⟨z49, h⟩ := h
      refine x_ist C hw (hE.1 13) (nM hE (by decide)) z49 rfl (dAt dX7_lives 33 rfl) (fun σ49 H locs eσ49 hw => ?_)
      replace h := h σ49 eσ49
      refine lv_iinc (v := (x1 + (1 : Int32))) (lv' := [(1, .int (x1 + (1 : Int32))), (0, .ref (gE E 0))]) hx hb (dAt dX7_lives 34 rfl) hl (k := 1) rfl rfl (by decide) rfl (fun ls hl => ?_)
      refine lv_goto (tgt := 2) hx hb (dAt dX7_lives 35 rfl) (by decide) ?_
      exact ih (x1 + (1 : Int32)) σ49  _ _ _ hw (lv_sub hl [1, 0] rfl) h
set_option maxHeartbeats 4000000 in
set_option maxRecDepth 100000 in
theorem kX7_lives (l : Launch) (E : wE) (hE : wM E) (σ : Mem) (Q : Mem → Prop) (h : wX7_lives  σ Q) : Met l yX7_lives (Cond.code yX7_lives cX7_lives 2 none :: TB) rX7_lives (wPc E σ [.ref (gE E 0)]) (wQv E Q) 0 0 (wA E) := by
  refine wMet (by decide) hE.2.2 (Nat.le_of_ble_eq_true rfl) ?_
  intro p e s m args below meth c ls C hr hlk hl hw
  have hx := C.1.1
  have hb := C.1.2.1
  replace C : Cx p s m args c cX7_lives 2 RX7 E (wA E) := C
  replace hl : lv_has ls 2 [(0, .ref (gE E 0))] := hl
  unfold wX7_lives at h
  refine lv_iconst (v := 0) hx hb (dAt dX7_lives 0 rfl) (by decide) ?_
  refine lv_istore_n (lv' := [(1, .int (0 : Int32)), (0, .ref (gE E 0))]) hx hb (dAt dX7_lives 1 rfl) rfl hl (by decide) rfl (fun ls hl => ?_)
  obtain ⟨n2, h⟩ := h
  exact kX7_lives_2 hE C hr hlk n2 (0 : Int32) σ  _ _ _ hw (lv_sub hl [1, 0] rfl) h
def tX7_find : List (Nat × Instr × Nat) := [(0, .aload_n 0, 1), (1, .invokevirtual 145, 3), (4, .pop, 1), (5, .aload_n 0, 1), (6, .invokevirtual 149, 3), (9, .pop, 1), (10, .aload_n 0, 1), (11, .invokevirtual 216, 3), (14, .return_, 1)]
theorem dX7_find : dOk cX7_find tX7_find = true := by decide +kernel
abbrev rX7_find : Room := { frames := 6, cells := 0, slots := 0, locals := 139 }
def wX7_find (σ : Mem) (Q : Mem → Prop) : Prop := (wX7_readsDancers  σ (fun r1 σ1 => (wX7_readsSteps  σ1 (fun r6 σ6 => (wX7_lives  σ6 (fun σ11 => (Q σ11)))))))
set_option maxHeartbeats 4000000 in
set_option maxRecDepth 100000 in
theorem kX7_find (l : Launch) (E : wE) (hE : wM E) (σ : Mem) (Q : Mem → Prop) (h : wX7_find  σ Q) : Met l yX7_find (Cond.code yX7_find cX7_find 1 none :: TB) rX7_find (wPc E σ [.ref (gE E 0)]) (wQv E Q) 0 0 (wA E) := by
  refine wMet (by decide) hE.2.2 (Nat.le_of_ble_eq_true rfl) ?_
  intro p e s m args below meth c ls C hr hlk hl hw
  have hx := C.1.1
  have hb := C.1.2.1
  replace C : Cx p s m args c cX7_find 1 RX7 E (wA E) := C
  replace hl : lv_has ls 1 [(0, .ref (gE E 0))] := hl
  unfold wX7_find at h
  refine lv_aload_n hx hb (dAt dX7_find 0 rfl) rfl (lv_at hl 0 rfl) ?_
  refine x_calli C hw (x_runV (As := []) (rest := []) C hw (kX7_readsDancers l E hE  σ _ h) mtX7_readsDancers lk_X7_145 (hE.1 0) (nM hE (by decide)) rfl ⟨by decide, by decide⟩ ⟨rfl, rfl⟩ rfl hl.1 rfl (Nat.le_of_ble_eq_true rfl) (dAt dX7_find 1 rfl) ⟨Nat.zero_le _, Nat.zero_le _⟩) (fun r1 σ1 H locs h hw => ?_)
  refine lv_pop hx hb (dAt dX7_find 2 rfl) rfl ?_
  refine lv_aload_n hx hb (dAt dX7_find 3 rfl) rfl (lv_at hl 0 rfl) ?_
  refine x_calli C hw (x_runV (As := []) (rest := []) C hw (kX7_readsSteps l E hE  σ1 _ h) mtX7_readsSteps lk_X7_149 (hE.1 0) (nM hE (by decide)) rfl ⟨by decide, by decide⟩ ⟨rfl, rfl⟩ rfl hl.1 rfl (Nat.le_of_ble_eq_true rfl) (dAt dX7_find 4 rfl) ⟨Nat.zero_le _, Nat.zero_le _⟩) (fun r6 σ6 H locs h hw => ?_)
  refine lv_pop hx hb (dAt dX7_find 5 rfl) rfl ?_
  refine lv_aload_n hx hb (dAt dX7_find 6 rfl) rfl (lv_at hl 0 rfl) ?_
  refine x_callv C hw (x_runV (As := []) (rest := []) C hw (kX7_lives l E hE  σ6 _ h) mtX7_lives lk_X7_216 (hE.1 0) (nM hE (by decide)) rfl ⟨by decide, by decide⟩ ⟨rfl, rfl⟩ rfl hl.1 rfl (Nat.le_of_ble_eq_true rfl) (dAt dX7_find 7 rfl) ⟨Nat.zero_le _, Nat.zero_le _⟩) (fun σ11 H locs h hw => ?_)
  exact x_vret C hw hr hlk h (dAt dX7_find 8 rfl)
def tX7_atBy : List (Nat × Instr × Nat) := [(0, .bipush 8, 2), (2, .iload_n 1, 1), (3, .imul, 1), (4, .iload_n 2, 1), (5, .iadd, 1), (6, .istore 4, 2), (8, .iload_n 3, 1), (9, .ifCond .ne 13, 3), (12, .aload_n 0, 1), (13, .getfield 61, 3), (16, .iload 4, 2), (18, .iaload, 1), (19, .goto 25, 3), (22, .iload_n 3, 1), (23, .iconst 1, 1), (24, .if_icmp .ne 13, 3), (27, .aload_n 0, 1), (28, .getfield 64, 3), (31, .iload 4, 2), (33, .iaload, 1), (34, .goto 10, 3), (37, .aload_n 0, 1), (38, .getfield 67, 3), (41, .iload 4, 2), (43, .iaload, 1), (44, .ireturn, 1)]
theorem dX7_atBy : dOk cX7_atBy tX7_atBy = true := by decide +kernel
abbrev rX7_atBy : Room := { frames := 0, cells := 0, slots := 0, locals := 0 }
def wX7_atBy (x1 : Int32) (x2 : Int32) (x3 : Int32) (σ : Mem) (Q : Int32 → Mem → Prop) : Prop := (∀ x4_6 : Int32, x4_6 = (((8 : Int32) * x1) + x2) → (((¬ x3 = 0) → (((¬ x3 = (1 : Int32)) → (vp_in x4_6 192 ∧ (Q (σ 20 (x4_6).toNatClampNeg) σ))) ∧ ((x3 = (1 : Int32)) → (vp_in x4_6 192 ∧ (Q (σ 19 (x4_6).toNatClampNeg) σ))))) ∧ ((x3 = 0) → (vp_in x4_6 192 ∧ (Q (σ 18 (x4_6).toNatClampNeg) σ)))))
set_option maxHeartbeats 4000000 in
set_option maxRecDepth 100000 in
theorem kX7_atBy (l : Launch) (E : wE) (hE : wM E) (x1 : Int32) (x2 : Int32) (x3 : Int32) (σ : Mem) (Q : Int32 → Mem → Prop) (h : wX7_atBy x1 x2 x3 σ Q) : Met l yX7_atBy (Cond.code yX7_atBy cX7_atBy 5 (some .int) :: TB) rX7_atBy (wPc E σ [.ref (gE E 0), .int x1, .int x2, .int x3]) (wQi E Q) 0 0 (wA E) := by
  refine wMet (by decide) hE.2.2 (Nat.le_of_ble_eq_true rfl) ?_
  intro p e s m args below meth c ls C hr hlk hl hw
  have hx := C.1.1
  have hb := C.1.2.1
  replace C : Cx p s m args c cX7_atBy 5 RX7 E (wA E) := C
  replace hl : lv_has ls 5 [(0, .ref (gE E 0)), (1, .int x1), (2, .int x2), (3, .int x3)] := hl
  unfold wX7_atBy at h
  refine lv_bipush (v := 8) hx hb (dAt dX7_atBy 0 rfl) (by decide) ?_
  refine lv_iload_n hx hb (dAt dX7_atBy 1 rfl) rfl (lv_at hl 1 rfl) ?_
  refine lv_imul hx hb (dAt dX7_atBy 2 rfl) ?_
  refine lv_iload_n hx hb (dAt dX7_atBy 3 rfl) rfl (lv_at hl 2 rfl) ?_
  refine lv_iadd hx hb (dAt dX7_atBy 4 rfl) ?_
  refine lv_topi (fun x4_6 ex4_6 => ?_)
  replace h := h x4_6 ex4_6
  refine lv_istore (lv' := [(4, .int x4_6), (0, .ref (gE E 0)), (1, .int x1), (2, .int x2), (3, .int x3)]) hx hb (dAt dX7_atBy 5 rfl) hl (by decide) rfl (fun ls hl => ?_)
  refine lv_iload_n hx hb (dAt dX7_atBy 6 rfl) rfl (lv_at hl 4 rfl) ?_
  refine lv_if_ne (tgt := 22) hx hb (dAt dX7_atBy 7 rfl) (by decide) (fun c9 => ?_) (fun c9 => ?_)
  · replace h := h.1 c9
    refine lv_iload_n hx hb (dAt dX7_atBy 13 rfl) rfl (lv_at hl 4 rfl) ?_
    refine lv_iconst (v := 1) hx hb (dAt dX7_atBy 14 rfl) (by decide) ?_
    refine lv_icmp_ne (tgt := 37) hx hb (dAt dX7_atBy 15 rfl) (by decide) (fun c24 => ?_) (fun c24 => ?_)
    · replace h := h.1 c24
      refine lv_aload_n hx hb (dAt dX7_atBy 21 rfl) rfl (lv_at hl 1 rfl) ?_
      refine x_getr C hw fl_X7_67 (hE.1 0) (nM hE (by decide)) rfl (dAt dX7_atBy 22 rfl) ?_
      refine lv_iload hx hb (dAt dX7_atBy 23 rfl) (lv_at hl 0 rfl) ?_
      obtain ⟨z43, h⟩ := h
      refine x_ild C hw (hE.1 20) (nM hE (by decide)) z43 rfl (dAt dX7_atBy 24 rfl) ?_
      exact x_iret C hw hr hlk h (dAt dX7_atBy 25 rfl)
    · replace h := h.2 c24
      refine lv_aload_n hx hb (dAt dX7_atBy 16 rfl) rfl (lv_at hl 1 rfl) ?_
      refine x_getr C hw fl_X7_64 (hE.1 0) (nM hE (by decide)) rfl (dAt dX7_atBy 17 rfl) ?_
      refine lv_iload hx hb (dAt dX7_atBy 18 rfl) (lv_at hl 0 rfl) ?_
      obtain ⟨z33, h⟩ := h
      refine x_ild C hw (hE.1 19) (nM hE (by decide)) z33 rfl (dAt dX7_atBy 19 rfl) ?_
      refine lv_goto (tgt := 44) hx hb (dAt dX7_atBy 20 rfl) (by decide) ?_
      exact x_iret C hw hr hlk h (dAt dX7_atBy 25 rfl)
  · replace h := h.2 c9
    refine lv_aload_n hx hb (dAt dX7_atBy 8 rfl) rfl (lv_at hl 1 rfl) ?_
    refine x_getr C hw fl_X7_61 (hE.1 0) (nM hE (by decide)) rfl (dAt dX7_atBy 9 rfl) ?_
    refine lv_iload hx hb (dAt dX7_atBy 10 rfl) (lv_at hl 0 rfl) ?_
    obtain ⟨z18, h⟩ := h
    refine x_ild C hw (hE.1 18) (nM hE (by decide)) z18 rfl (dAt dX7_atBy 11 rfl) ?_
    refine lv_goto (tgt := 44) hx hb (dAt dX7_atBy 12 rfl) (by decide) ?_
    exact x_iret C hw hr hlk h (dAt dX7_atBy 25 rfl)
def tX7_at : List (Nat × Instr × Nat) := [(0, .aload_n 0, 1), (1, .invokevirtual 219, 3), (4, .iload_n 1, 1), (5, .invokestatic 160, 3), (8, .ifCond .eq 33, 3), (11, .aload_n 0, 1), (12, .iload_n 2, 1), (13, .invokevirtual 157, 3), (16, .ifCond .eq 25, 3), (19, .iload_n 3, 1), (20, .i2l, 1), (21, .lconst 0, 1), (22, .ldc2_w 101, 3), (25, .invokestatic 88, 3), (28, .ifCond .eq 13, 3), (31, .aload_n 0, 1), (32, .iload_n 1, 1), (33, .iload_n 2, 1), (34, .iload_n 3, 1), (35, .invokevirtual 222, 3), (38, .goto 5, 3), (41, .bipush (-2), 2), (43, .ireturn, 1)]
theorem dX7_at : dOk cX7_at tX7_at = true := by decide +kernel
abbrev rX7_at : Room := { frames := 7, cells := 0, slots := 0, locals := 159 }
def wX7_at (x1 : Int32) (x2 : Int32) (x3 : Int32) (σ : Mem) (Q : Int32 → Mem → Prop) : Prop := (wX7_find  σ (fun σ1 => (wX7_isBeat x1 σ1 (fun r5 σ5 => (((r5 = 0) → (Q (-2 : Int32) σ5)) ∧ ((¬ r5 = 0) → (wX7_isDancer x2 σ5 (fun r13 σ13 => (((r13 = 0) → (Q (-2 : Int32) σ13)) ∧ ((¬ r13 = 0) → (wX7_in ((x3).toInt64) (0 : Int64) (2 : Int64) σ13 (fun r25 σ25 => (((r25 = 0) → (Q (-2 : Int32) σ25)) ∧ ((¬ r25 = 0) → (wX7_atBy x1 x2 x3 σ25 (fun r35 σ35 => (Q r35 σ35)))))))))))))))))
set_option maxHeartbeats 4000000 in
set_option maxRecDepth 100000 in
theorem kX7_at (l : Launch) (E : wE) (hE : wM E) (x1 : Int32) (x2 : Int32) (x3 : Int32) (σ : Mem) (Q : Int32 → Mem → Prop) (h : wX7_at x1 x2 x3 σ Q) : Met l yX7_at (Cond.code yX7_at cX7_at 4 (some .int) :: TB) rX7_at (wPc E σ [.ref (gE E 0), .int x1, .int x2, .int x3]) (wQi E Q) 0 0 (wA E) := by
  refine wMet (by decide) hE.2.2 (Nat.le_of_ble_eq_true rfl) ?_
  intro p e s m args below meth c ls C hr hlk hl hw
  have hx := C.1.1
  have hb := C.1.2.1
  replace C : Cx p s m args c cX7_at 4 RX7 E (wA E) := C
  replace hl : lv_has ls 4 [(0, .ref (gE E 0)), (1, .int x1), (2, .int x2), (3, .int x3)] := hl
  unfold wX7_at at h
  refine lv_aload_n hx hb (dAt dX7_at 0 rfl) rfl (lv_at hl 0 rfl) ?_
  refine x_callv C hw (x_runV (As := []) (rest := []) C hw (kX7_find l E hE  σ _ h) mtX7_find lk_X7_219 (hE.1 0) (nM hE (by decide)) rfl ⟨by decide, by decide⟩ ⟨rfl, rfl⟩ rfl hl.1 rfl (Nat.le_of_ble_eq_true rfl) (dAt dX7_at 1 rfl) ⟨Nat.zero_le _, Nat.zero_le _⟩) (fun σ1 H locs h hw => ?_)
  refine lv_iload_n hx hb (dAt dX7_at 2 rfl) rfl (lv_at hl 1 rfl) ?_
  refine x_calli C hw (x_runS (As := [.int x1]) (rest := []) C hw (kX7_isBeat l E hE x1 σ1 _ h) mtX7_isBeat lk_X7_160 ⟨by decide, by decide⟩ ⟨rfl, rfl⟩ rfl hl.1 rfl (Nat.le_of_ble_eq_true rfl) (dAt dX7_at 3 rfl) ⟨Nat.zero_le _, Nat.zero_le _⟩) (fun r5 σ5 H locs h hw => ?_)
  refine lv_if_eq (tgt := 41) hx hb (dAt dX7_at 4 rfl) (by decide) (fun c8 => ?_) (fun c8 => ?_)
  · replace h := h.1 c8
    refine lv_bipush (v := -2) hx hb (dAt dX7_at 21 rfl) (by decide) ?_
    exact x_iret C hw hr hlk h (dAt dX7_at 22 rfl)
  · replace h := h.2 c8
    refine lv_aload_n hx hb (dAt dX7_at 5 rfl) rfl (lv_at hl 0 rfl) ?_
    refine lv_iload_n hx hb (dAt dX7_at 6 rfl) rfl (lv_at hl 2 rfl) ?_
    refine x_calli C hw (x_runV (As := [.int x2]) (rest := []) C hw (kX7_isDancer l E hE x2 σ5 _ h) mtX7_isDancer lk_X7_157 (hE.1 0) (nM hE (by decide)) rfl ⟨by decide, by decide⟩ ⟨rfl, rfl⟩ rfl hl.1 rfl (Nat.le_of_ble_eq_true rfl) (dAt dX7_at 7 rfl) ⟨Nat.zero_le _, Nat.zero_le _⟩) (fun r13 σ13 H locs h hw => ?_)
    refine lv_if_eq (tgt := 41) hx hb (dAt dX7_at 8 rfl) (by decide) (fun c16 => ?_) (fun c16 => ?_)
    · replace h := h.1 c16
      refine lv_bipush (v := -2) hx hb (dAt dX7_at 21 rfl) (by decide) ?_
      exact x_iret C hw hr hlk h (dAt dX7_at 22 rfl)
    · replace h := h.2 c16
      refine lv_iload_n hx hb (dAt dX7_at 9 rfl) rfl (lv_at hl 3 rfl) ?_
      refine lv_i2l hx hb (dAt dX7_at 10 rfl) rfl ?_
      refine lv_lconst (v := 0) hx hb (dAt dX7_at 11 rfl) (by decide) ?_
      refine lv_ldc2 (v := 2) hx hb C.1.2.2.2.1 (C.1.2.2.2.2 _ ck_X7_101) (dAt dX7_at 12 rfl) ?_
      refine x_calli C hw (x_runS (As := [.long ((x3).toInt64), .long (0 : Int64), .long (2 : Int64)]) (rest := []) C hw (kX7_in l E hE ((x3).toInt64) (0 : Int64) (2 : Int64) σ13 _ h) mtX7_in lk_X7_88 ⟨by decide, by decide⟩ ⟨rfl, rfl⟩ rfl hl.1 rfl (Nat.le_of_ble_eq_true rfl) (dAt dX7_at 13 rfl) ⟨Nat.zero_le _, Nat.zero_le _⟩) (fun r25 σ25 H locs h hw => ?_)
      refine lv_if_eq (tgt := 41) hx hb (dAt dX7_at 14 rfl) (by decide) (fun c28 => ?_) (fun c28 => ?_)
      · replace h := h.1 c28
        refine lv_bipush (v := -2) hx hb (dAt dX7_at 21 rfl) (by decide) ?_
        exact x_iret C hw hr hlk h (dAt dX7_at 22 rfl)
      · replace h := h.2 c28
        refine lv_aload_n hx hb (dAt dX7_at 15 rfl) rfl (lv_at hl 0 rfl) ?_
        refine lv_iload_n hx hb (dAt dX7_at 16 rfl) rfl (lv_at hl 1 rfl) ?_
        refine lv_iload_n hx hb (dAt dX7_at 17 rfl) rfl (lv_at hl 2 rfl) ?_
        refine lv_iload_n hx hb (dAt dX7_at 18 rfl) rfl (lv_at hl 3 rfl) ?_
        refine x_calli C hw (x_runV (As := [.int x1, .int x2, .int x3]) (rest := []) C hw (kX7_atBy l E hE x1 x2 x3 σ25 _ h) mtX7_atBy lk_X7_222 (hE.1 0) (nM hE (by decide)) rfl ⟨by decide, by decide⟩ ⟨rfl, rfl⟩ rfl hl.1 rfl (Nat.le_of_ble_eq_true rfl) (dAt dX7_at 19 rfl) ⟨Nat.zero_le _, Nat.zero_le _⟩) (fun r35 σ35 H locs h hw => ?_)
        refine lv_goto (tgt := 43) hx hb (dAt dX7_at 20 rfl) (by decide) ?_
        exact x_iret C hw hr hlk h (dAt dX7_at 22 rfl)
def tX7_highBy : List (Nat × Instr × Nat) := [(0, .iload_n 2, 1), (1, .ifCond .ne 12, 3), (4, .aload_n 0, 1), (5, .getfield 70, 3), (8, .iload_n 1, 1), (9, .iaload, 1), (10, .goto 9, 3), (13, .aload_n 0, 1), (14, .getfield 73, 3), (17, .iload_n 1, 1), (18, .iaload, 1), (19, .ireturn, 1)]
theorem dX7_highBy : dOk cX7_highBy tX7_highBy = true := by decide +kernel
abbrev rX7_highBy : Room := { frames := 0, cells := 0, slots := 0, locals := 0 }
def wX7_highBy (x1 : Int32) (x2 : Int32) (σ : Mem) (Q : Int32 → Mem → Prop) : Prop := (((¬ x2 = 0) → (vp_in x1 24 ∧ (Q (σ 22 (x1).toNatClampNeg) σ))) ∧ ((x2 = 0) → (vp_in x1 24 ∧ (Q (σ 21 (x1).toNatClampNeg) σ))))
set_option maxHeartbeats 4000000 in
set_option maxRecDepth 100000 in
theorem kX7_highBy (l : Launch) (E : wE) (hE : wM E) (x1 : Int32) (x2 : Int32) (σ : Mem) (Q : Int32 → Mem → Prop) (h : wX7_highBy x1 x2 σ Q) : Met l yX7_highBy (Cond.code yX7_highBy cX7_highBy 3 (some .int) :: TB) rX7_highBy (wPc E σ [.ref (gE E 0), .int x1, .int x2]) (wQi E Q) 0 0 (wA E) := by
  refine wMet (by decide) hE.2.2 (Nat.le_of_ble_eq_true rfl) ?_
  intro p e s m args below meth c ls C hr hlk hl hw
  have hx := C.1.1
  have hb := C.1.2.1
  replace C : Cx p s m args c cX7_highBy 3 RX7 E (wA E) := C
  replace hl : lv_has ls 3 [(0, .ref (gE E 0)), (1, .int x1), (2, .int x2)] := hl
  unfold wX7_highBy at h
  refine lv_iload_n hx hb (dAt dX7_highBy 0 rfl) rfl (lv_at hl 2 rfl) ?_
  refine lv_if_ne (tgt := 13) hx hb (dAt dX7_highBy 1 rfl) (by decide) (fun c1 => ?_) (fun c1 => ?_)
  · replace h := h.1 c1
    refine lv_aload_n hx hb (dAt dX7_highBy 7 rfl) rfl (lv_at hl 0 rfl) ?_
    refine x_getr C hw fl_X7_73 (hE.1 0) (nM hE (by decide)) rfl (dAt dX7_highBy 8 rfl) ?_
    refine lv_iload_n hx hb (dAt dX7_highBy 9 rfl) rfl (lv_at hl 1 rfl) ?_
    obtain ⟨z18, h⟩ := h
    refine x_ild C hw (hE.1 22) (nM hE (by decide)) z18 rfl (dAt dX7_highBy 10 rfl) ?_
    exact x_iret C hw hr hlk h (dAt dX7_highBy 11 rfl)
  · replace h := h.2 c1
    refine lv_aload_n hx hb (dAt dX7_highBy 2 rfl) rfl (lv_at hl 0 rfl) ?_
    refine x_getr C hw fl_X7_70 (hE.1 0) (nM hE (by decide)) rfl (dAt dX7_highBy 3 rfl) ?_
    refine lv_iload_n hx hb (dAt dX7_highBy 4 rfl) rfl (lv_at hl 1 rfl) ?_
    obtain ⟨z9, h⟩ := h
    refine x_ild C hw (hE.1 21) (nM hE (by decide)) z9 rfl (dAt dX7_highBy 5 rfl) ?_
    refine lv_goto (tgt := 19) hx hb (dAt dX7_highBy 6 rfl) (by decide) ?_
    exact x_iret C hw hr hlk h (dAt dX7_highBy 11 rfl)
def tX7_high : List (Nat × Instr × Nat) := [(0, .aload_n 0, 1), (1, .invokevirtual 219, 3), (4, .iload_n 1, 1), (5, .invokestatic 160, 3), (8, .ifCond .eq 19, 3), (11, .iload_n 2, 1), (12, .invokestatic 116, 3), (15, .ifCond .eq 12, 3), (18, .aload_n 0, 1), (19, .iload_n 1, 1), (20, .iload_n 2, 1), (21, .invokevirtual 225, 3), (24, .goto 5, 3), (27, .bipush (-2), 2), (29, .ireturn, 1)]
theorem dX7_high : dOk cX7_high tX7_high = true := by decide +kernel
abbrev rX7_high : Room := { frames := 7, cells := 0, slots := 0, locals := 159 }
def wX7_high (x1 : Int32) (x2 : Int32) (σ : Mem) (Q : Int32 → Mem → Prop) : Prop := (wX7_find  σ (fun σ1 => (wX7_isBeat x1 σ1 (fun r5 σ5 => (((r5 = 0) → (Q (-2 : Int32) σ5)) ∧ ((¬ r5 = 0) → (wX7_isTwo x2 σ5 (fun r12 σ12 => (((r12 = 0) → (Q (-2 : Int32) σ12)) ∧ ((¬ r12 = 0) → (wX7_highBy x1 x2 σ12 (fun r21 σ21 => (Q r21 σ21)))))))))))))
set_option maxHeartbeats 4000000 in
set_option maxRecDepth 100000 in
theorem kX7_high (l : Launch) (E : wE) (hE : wM E) (x1 : Int32) (x2 : Int32) (σ : Mem) (Q : Int32 → Mem → Prop) (h : wX7_high x1 x2 σ Q) : Met l yX7_high (Cond.code yX7_high cX7_high 3 (some .int) :: TB) rX7_high (wPc E σ [.ref (gE E 0), .int x1, .int x2]) (wQi E Q) 0 0 (wA E) := by
  refine wMet (by decide) hE.2.2 (Nat.le_of_ble_eq_true rfl) ?_
  intro p e s m args below meth c ls C hr hlk hl hw
  have hx := C.1.1
  have hb := C.1.2.1
  replace C : Cx p s m args c cX7_high 3 RX7 E (wA E) := C
  replace hl : lv_has ls 3 [(0, .ref (gE E 0)), (1, .int x1), (2, .int x2)] := hl
  unfold wX7_high at h
  refine lv_aload_n hx hb (dAt dX7_high 0 rfl) rfl (lv_at hl 0 rfl) ?_
  refine x_callv C hw (x_runV (As := []) (rest := []) C hw (kX7_find l E hE  σ _ h) mtX7_find lk_X7_219 (hE.1 0) (nM hE (by decide)) rfl ⟨by decide, by decide⟩ ⟨rfl, rfl⟩ rfl hl.1 rfl (Nat.le_of_ble_eq_true rfl) (dAt dX7_high 1 rfl) ⟨Nat.zero_le _, Nat.zero_le _⟩) (fun σ1 H locs h hw => ?_)
  refine lv_iload_n hx hb (dAt dX7_high 2 rfl) rfl (lv_at hl 1 rfl) ?_
  refine x_calli C hw (x_runS (As := [.int x1]) (rest := []) C hw (kX7_isBeat l E hE x1 σ1 _ h) mtX7_isBeat lk_X7_160 ⟨by decide, by decide⟩ ⟨rfl, rfl⟩ rfl hl.1 rfl (Nat.le_of_ble_eq_true rfl) (dAt dX7_high 3 rfl) ⟨Nat.zero_le _, Nat.zero_le _⟩) (fun r5 σ5 H locs h hw => ?_)
  refine lv_if_eq (tgt := 27) hx hb (dAt dX7_high 4 rfl) (by decide) (fun c8 => ?_) (fun c8 => ?_)
  · replace h := h.1 c8
    refine lv_bipush (v := -2) hx hb (dAt dX7_high 13 rfl) (by decide) ?_
    exact x_iret C hw hr hlk h (dAt dX7_high 14 rfl)
  · replace h := h.2 c8
    refine lv_iload_n hx hb (dAt dX7_high 5 rfl) rfl (lv_at hl 2 rfl) ?_
    refine x_calli C hw (x_runS (As := [.int x2]) (rest := []) C hw (kX7_isTwo l E hE x2 σ5 _ h) mtX7_isTwo lk_X7_116 ⟨by decide, by decide⟩ ⟨rfl, rfl⟩ rfl hl.1 rfl (Nat.le_of_ble_eq_true rfl) (dAt dX7_high 6 rfl) ⟨Nat.zero_le _, Nat.zero_le _⟩) (fun r12 σ12 H locs h hw => ?_)
    refine lv_if_eq (tgt := 27) hx hb (dAt dX7_high 7 rfl) (by decide) (fun c15 => ?_) (fun c15 => ?_)
    · replace h := h.1 c15
      refine lv_bipush (v := -2) hx hb (dAt dX7_high 13 rfl) (by decide) ?_
      exact x_iret C hw hr hlk h (dAt dX7_high 14 rfl)
    · replace h := h.2 c15
      refine lv_aload_n hx hb (dAt dX7_high 8 rfl) rfl (lv_at hl 0 rfl) ?_
      refine lv_iload_n hx hb (dAt dX7_high 9 rfl) rfl (lv_at hl 1 rfl) ?_
      refine lv_iload_n hx hb (dAt dX7_high 10 rfl) rfl (lv_at hl 2 rfl) ?_
      refine x_calli C hw (x_runV (As := [.int x1, .int x2]) (rest := []) C hw (kX7_highBy l E hE x1 x2 σ12 _ h) mtX7_highBy lk_X7_225 (hE.1 0) (nM hE (by decide)) rfl ⟨by decide, by decide⟩ ⟨rfl, rfl⟩ rfl hl.1 rfl (Nat.le_of_ble_eq_true rfl) (dAt dX7_high 11 rfl) ⟨Nat.zero_le _, Nat.zero_le _⟩) (fun r21 σ21 H locs h hw => ?_)
      refine lv_goto (tgt := 29) hx hb (dAt dX7_high 12 rfl) (by decide) ?_
      exact x_iret C hw hr hlk h (dAt dX7_high 14 rfl)
def tX7_weaveBy : List (Nat × Instr × Nat) := [(0, .iload_n 1, 1), (1, .aload_n 0, 1), (2, .getfield 178, 3), (5, .if_icmp .lt 7, 3), (8, .iconst (-1), 1), (9, .goto 36, 3), (12, .iload_n 2, 1), (13, .ifCond .ne 12, 3), (16, .aload_n 0, 1), (17, .getfield 49, 3), (20, .iload_n 1, 1), (21, .iaload, 1), (22, .goto 23, 3), (25, .iload_n 2, 1), (26, .iconst 1, 1), (27, .if_icmp .ne 12, 3), (30, .aload_n 0, 1), (31, .getfield 52, 3), (34, .iload_n 1, 1), (35, .iaload, 1), (36, .goto 9, 3), (39, .aload_n 0, 1), (40, .getfield 58, 3), (43, .iload_n 1, 1), (44, .iaload, 1), (45, .ireturn, 1)]
theorem dX7_weaveBy : dOk cX7_weaveBy tX7_weaveBy = true := by decide +kernel
abbrev rX7_weaveBy : Room := { frames := 0, cells := 0, slots := 0, locals := 0 }
def wX7_weaveBy (x1 : Int32) (x2 : Int32) (σ : Mem) (Q : Int32 → Mem → Prop) : Prop := (((x1 < (σ 0 20)) → (((¬ x2 = 0) → (((¬ x2 = (1 : Int32)) → (vp_in x1 120 ∧ (Q (σ 17 (x1).toNatClampNeg) σ))) ∧ ((x2 = (1 : Int32)) → (vp_in x1 120 ∧ (Q (σ 15 (x1).toNatClampNeg) σ))))) ∧ ((x2 = 0) → (vp_in x1 120 ∧ (Q (σ 14 (x1).toNatClampNeg) σ))))) ∧ ((¬ x1 < (σ 0 20)) → (Q (-1 : Int32) σ)))
set_option maxHeartbeats 4000000 in
set_option maxRecDepth 100000 in
theorem kX7_weaveBy (l : Launch) (E : wE) (hE : wM E) (x1 : Int32) (x2 : Int32) (σ : Mem) (Q : Int32 → Mem → Prop) (h : wX7_weaveBy x1 x2 σ Q) : Met l yX7_weaveBy (Cond.code yX7_weaveBy cX7_weaveBy 3 (some .int) :: TB) rX7_weaveBy (wPc E σ [.ref (gE E 0), .int x1, .int x2]) (wQi E Q) 0 0 (wA E) := by
  refine wMet (by decide) hE.2.2 (Nat.le_of_ble_eq_true rfl) ?_
  intro p e s m args below meth c ls C hr hlk hl hw
  have hx := C.1.1
  have hb := C.1.2.1
  replace C : Cx p s m args c cX7_weaveBy 3 RX7 E (wA E) := C
  replace hl : lv_has ls 3 [(0, .ref (gE E 0)), (1, .int x1), (2, .int x2)] := hl
  unfold wX7_weaveBy at h
  refine lv_iload_n hx hb (dAt dX7_weaveBy 0 rfl) rfl (lv_at hl 1 rfl) ?_
  refine lv_aload_n hx hb (dAt dX7_weaveBy 1 rfl) rfl (lv_at hl 0 rfl) ?_
  refine x_geti C hw fl_X7_178 (hE.1 0) (nM hE (by decide)) rfl (dAt dX7_weaveBy 2 rfl) ?_
  refine lv_icmp_lt (tgt := 12) hx hb (dAt dX7_weaveBy 3 rfl) (by decide) (fun c5 => ?_) (fun c5 => ?_)
  · replace h := h.1 c5
    refine lv_iload_n hx hb (dAt dX7_weaveBy 6 rfl) rfl (lv_at hl 2 rfl) ?_
    refine lv_if_ne (tgt := 25) hx hb (dAt dX7_weaveBy 7 rfl) (by decide) (fun c13 => ?_) (fun c13 => ?_)
    · replace h := h.1 c13
      refine lv_iload_n hx hb (dAt dX7_weaveBy 13 rfl) rfl (lv_at hl 2 rfl) ?_
      refine lv_iconst (v := 1) hx hb (dAt dX7_weaveBy 14 rfl) (by decide) ?_
      refine lv_icmp_ne (tgt := 39) hx hb (dAt dX7_weaveBy 15 rfl) (by decide) (fun c27 => ?_) (fun c27 => ?_)
      · replace h := h.1 c27
        refine lv_aload_n hx hb (dAt dX7_weaveBy 21 rfl) rfl (lv_at hl 0 rfl) ?_
        refine x_getr C hw fl_X7_58 (hE.1 0) (nM hE (by decide)) rfl (dAt dX7_weaveBy 22 rfl) ?_
        refine lv_iload_n hx hb (dAt dX7_weaveBy 23 rfl) rfl (lv_at hl 1 rfl) ?_
        obtain ⟨z44, h⟩ := h
        refine x_ild C hw (hE.1 17) (nM hE (by decide)) z44 rfl (dAt dX7_weaveBy 24 rfl) ?_
        exact x_iret C hw hr hlk h (dAt dX7_weaveBy 25 rfl)
      · replace h := h.2 c27
        refine lv_aload_n hx hb (dAt dX7_weaveBy 16 rfl) rfl (lv_at hl 0 rfl) ?_
        refine x_getr C hw fl_X7_52 (hE.1 0) (nM hE (by decide)) rfl (dAt dX7_weaveBy 17 rfl) ?_
        refine lv_iload_n hx hb (dAt dX7_weaveBy 18 rfl) rfl (lv_at hl 1 rfl) ?_
        obtain ⟨z35, h⟩ := h
        refine x_ild C hw (hE.1 15) (nM hE (by decide)) z35 rfl (dAt dX7_weaveBy 19 rfl) ?_
        refine lv_goto (tgt := 45) hx hb (dAt dX7_weaveBy 20 rfl) (by decide) ?_
        exact x_iret C hw hr hlk h (dAt dX7_weaveBy 25 rfl)
    · replace h := h.2 c13
      refine lv_aload_n hx hb (dAt dX7_weaveBy 8 rfl) rfl (lv_at hl 0 rfl) ?_
      refine x_getr C hw fl_X7_49 (hE.1 0) (nM hE (by decide)) rfl (dAt dX7_weaveBy 9 rfl) ?_
      refine lv_iload_n hx hb (dAt dX7_weaveBy 10 rfl) rfl (lv_at hl 1 rfl) ?_
      obtain ⟨z21, h⟩ := h
      refine x_ild C hw (hE.1 14) (nM hE (by decide)) z21 rfl (dAt dX7_weaveBy 11 rfl) ?_
      refine lv_goto (tgt := 45) hx hb (dAt dX7_weaveBy 12 rfl) (by decide) ?_
      exact x_iret C hw hr hlk h (dAt dX7_weaveBy 25 rfl)
  · replace h := h.2 c5
    refine lv_iconst (v := -1) hx hb (dAt dX7_weaveBy 4 rfl) (by decide) ?_
    refine lv_goto (tgt := 45) hx hb (dAt dX7_weaveBy 5 rfl) (by decide) ?_
    exact x_iret C hw hr hlk h (dAt dX7_weaveBy 25 rfl)
def tX7_weave : List (Nat × Instr × Nat) := [(0, .aload_n 0, 1), (1, .invokevirtual 219, 3), (4, .iload_n 1, 1), (5, .i2l, 1), (6, .lconst 0, 1), (7, .ldc2_w 228, 3), (10, .invokestatic 88, 3), (13, .ifCond .eq 24, 3), (16, .iload_n 2, 1), (17, .i2l, 1), (18, .lconst 0, 1), (19, .ldc2_w 101, 3), (22, .invokestatic 88, 3), (25, .ifCond .eq 12, 3), (28, .aload_n 0, 1), (29, .iload_n 1, 1), (30, .iload_n 2, 1), (31, .invokevirtual 230, 3), (34, .goto 5, 3), (37, .bipush (-2), 2), (39, .ireturn, 1)]
theorem dX7_weave : dOk cX7_weave tX7_weave = true := by decide +kernel
abbrev rX7_weave : Room := { frames := 7, cells := 0, slots := 0, locals := 159 }
def wX7_weave (x1 : Int32) (x2 : Int32) (σ : Mem) (Q : Int32 → Mem → Prop) : Prop := (wX7_find  σ (fun σ1 => (wX7_in ((x1).toInt64) (0 : Int64) (119 : Int64) σ1 (fun r10 σ10 => (((r10 = 0) → (Q (-2 : Int32) σ10)) ∧ ((¬ r10 = 0) → (wX7_in ((x2).toInt64) (0 : Int64) (2 : Int64) σ10 (fun r22 σ22 => (((r22 = 0) → (Q (-2 : Int32) σ22)) ∧ ((¬ r22 = 0) → (wX7_weaveBy x1 x2 σ22 (fun r31 σ31 => (Q r31 σ31)))))))))))))
set_option maxHeartbeats 4000000 in
set_option maxRecDepth 100000 in
theorem kX7_weave (l : Launch) (E : wE) (hE : wM E) (x1 : Int32) (x2 : Int32) (σ : Mem) (Q : Int32 → Mem → Prop) (h : wX7_weave x1 x2 σ Q) : Met l yX7_weave (Cond.code yX7_weave cX7_weave 3 (some .int) :: TB) rX7_weave (wPc E σ [.ref (gE E 0), .int x1, .int x2]) (wQi E Q) 0 0 (wA E) := by
  refine wMet (by decide) hE.2.2 (Nat.le_of_ble_eq_true rfl) ?_
  intro p e s m args below meth c ls C hr hlk hl hw
  have hx := C.1.1
  have hb := C.1.2.1
  replace C : Cx p s m args c cX7_weave 3 RX7 E (wA E) := C
  replace hl : lv_has ls 3 [(0, .ref (gE E 0)), (1, .int x1), (2, .int x2)] := hl
  unfold wX7_weave at h
  refine lv_aload_n hx hb (dAt dX7_weave 0 rfl) rfl (lv_at hl 0 rfl) ?_
  refine x_callv C hw (x_runV (As := []) (rest := []) C hw (kX7_find l E hE  σ _ h) mtX7_find lk_X7_219 (hE.1 0) (nM hE (by decide)) rfl ⟨by decide, by decide⟩ ⟨rfl, rfl⟩ rfl hl.1 rfl (Nat.le_of_ble_eq_true rfl) (dAt dX7_weave 1 rfl) ⟨Nat.zero_le _, Nat.zero_le _⟩) (fun σ1 H locs h hw => ?_)
  refine lv_iload_n hx hb (dAt dX7_weave 2 rfl) rfl (lv_at hl 1 rfl) ?_
  refine lv_i2l hx hb (dAt dX7_weave 3 rfl) rfl ?_
  refine lv_lconst (v := 0) hx hb (dAt dX7_weave 4 rfl) (by decide) ?_
  refine lv_ldc2 (v := 119) hx hb C.1.2.2.2.1 (C.1.2.2.2.2 _ ck_X7_228) (dAt dX7_weave 5 rfl) ?_
  refine x_calli C hw (x_runS (As := [.long ((x1).toInt64), .long (0 : Int64), .long (119 : Int64)]) (rest := []) C hw (kX7_in l E hE ((x1).toInt64) (0 : Int64) (119 : Int64) σ1 _ h) mtX7_in lk_X7_88 ⟨by decide, by decide⟩ ⟨rfl, rfl⟩ rfl hl.1 rfl (Nat.le_of_ble_eq_true rfl) (dAt dX7_weave 6 rfl) ⟨Nat.zero_le _, Nat.zero_le _⟩) (fun r10 σ10 H locs h hw => ?_)
  refine lv_if_eq (tgt := 37) hx hb (dAt dX7_weave 7 rfl) (by decide) (fun c13 => ?_) (fun c13 => ?_)
  · replace h := h.1 c13
    refine lv_bipush (v := -2) hx hb (dAt dX7_weave 19 rfl) (by decide) ?_
    exact x_iret C hw hr hlk h (dAt dX7_weave 20 rfl)
  · replace h := h.2 c13
    refine lv_iload_n hx hb (dAt dX7_weave 8 rfl) rfl (lv_at hl 2 rfl) ?_
    refine lv_i2l hx hb (dAt dX7_weave 9 rfl) rfl ?_
    refine lv_lconst (v := 0) hx hb (dAt dX7_weave 10 rfl) (by decide) ?_
    refine lv_ldc2 (v := 2) hx hb C.1.2.2.2.1 (C.1.2.2.2.2 _ ck_X7_101) (dAt dX7_weave 11 rfl) ?_
    refine x_calli C hw (x_runS (As := [.long ((x2).toInt64), .long (0 : Int64), .long (2 : Int64)]) (rest := []) C hw (kX7_in l E hE ((x2).toInt64) (0 : Int64) (2 : Int64) σ10 _ h) mtX7_in lk_X7_88 ⟨by decide, by decide⟩ ⟨rfl, rfl⟩ rfl hl.1 rfl (Nat.le_of_ble_eq_true rfl) (dAt dX7_weave 12 rfl) ⟨Nat.zero_le _, Nat.zero_le _⟩) (fun r22 σ22 H locs h hw => ?_)
    refine lv_if_eq (tgt := 37) hx hb (dAt dX7_weave 13 rfl) (by decide) (fun c25 => ?_) (fun c25 => ?_)
    · replace h := h.1 c25
      refine lv_bipush (v := -2) hx hb (dAt dX7_weave 19 rfl) (by decide) ?_
      exact x_iret C hw hr hlk h (dAt dX7_weave 20 rfl)
    · replace h := h.2 c25
      refine lv_aload_n hx hb (dAt dX7_weave 14 rfl) rfl (lv_at hl 0 rfl) ?_
      refine lv_iload_n hx hb (dAt dX7_weave 15 rfl) rfl (lv_at hl 1 rfl) ?_
      refine lv_iload_n hx hb (dAt dX7_weave 16 rfl) rfl (lv_at hl 2 rfl) ?_
      refine x_calli C hw (x_runV (As := [.int x1, .int x2]) (rest := []) C hw (kX7_weaveBy l E hE x1 x2 σ22 _ h) mtX7_weaveBy lk_X7_230 (hE.1 0) (nM hE (by decide)) rfl ⟨by decide, by decide⟩ ⟨rfl, rfl⟩ rfl hl.1 rfl (Nat.le_of_ble_eq_true rfl) (dAt dX7_weave 17 rfl) ⟨Nat.zero_le _, Nat.zero_le _⟩) (fun r31 σ31 H locs h hw => ?_)
      refine lv_goto (tgt := 39) hx hb (dAt dX7_weave 18 rfl) (by decide) ?_
      exact x_iret C hw hr hlk h (dAt dX7_weave 20 rfl)
def tX7_colourOf : List (Nat × Instr × Nat) := [(0, .aload_n 0, 1), (1, .getfield 28, 3), (4, .iconst 3, 1), (5, .aload_n 0, 1), (6, .getfield 49, 3), (9, .iload_n 1, 1), (10, .iaload, 1), (11, .imul, 1), (12, .iconst 2, 1), (13, .iadd, 1), (14, .iaload, 1), (15, .ireturn, 1)]
theorem dX7_colourOf : dOk cX7_colourOf tX7_colourOf = true := by decide +kernel
abbrev rX7_colourOf : Room := { frames := 0, cells := 0, slots := 0, locals := 0 }
def wX7_colourOf (x1 : Int32) (σ : Mem) (Q : Int32 → Mem → Prop) : Prop := (vp_in x1 120 ∧ (vp_in (((3 : Int32) * (σ 14 (x1).toNatClampNeg)) + (2 : Int32)) 24 ∧ (Q (σ 7 ((((3 : Int32) * (σ 14 (x1).toNatClampNeg)) + (2 : Int32))).toNatClampNeg) σ)))
set_option maxHeartbeats 4000000 in
set_option maxRecDepth 100000 in
theorem kX7_colourOf (l : Launch) (E : wE) (hE : wM E) (x1 : Int32) (σ : Mem) (Q : Int32 → Mem → Prop) (h : wX7_colourOf x1 σ Q) : Met l yX7_colourOf (Cond.code yX7_colourOf cX7_colourOf 2 (some .int) :: TB) rX7_colourOf (wPc E σ [.ref (gE E 0), .int x1]) (wQi E Q) 0 0 (wA E) := by
  refine wMet (by decide) hE.2.2 (Nat.le_of_ble_eq_true rfl) ?_
  intro p e s m args below meth c ls C hr hlk hl hw
  have hx := C.1.1
  have hb := C.1.2.1
  replace C : Cx p s m args c cX7_colourOf 2 RX7 E (wA E) := C
  replace hl : lv_has ls 2 [(0, .ref (gE E 0)), (1, .int x1)] := hl
  unfold wX7_colourOf at h
  refine lv_aload_n hx hb (dAt dX7_colourOf 0 rfl) rfl (lv_at hl 0 rfl) ?_
  refine x_getr C hw fl_X7_28 (hE.1 0) (nM hE (by decide)) rfl (dAt dX7_colourOf 1 rfl) ?_
  refine lv_iconst (v := 3) hx hb (dAt dX7_colourOf 2 rfl) (by decide) ?_
  refine lv_aload_n hx hb (dAt dX7_colourOf 3 rfl) rfl (lv_at hl 0 rfl) ?_
  refine x_getr C hw fl_X7_49 (hE.1 0) (nM hE (by decide)) rfl (dAt dX7_colourOf 4 rfl) ?_
  refine lv_iload_n hx hb (dAt dX7_colourOf 5 rfl) rfl (lv_at hl 1 rfl) ?_
  obtain ⟨z10, h⟩ := h
  refine x_ild C hw (hE.1 14) (nM hE (by decide)) z10 rfl (dAt dX7_colourOf 6 rfl) ?_
  refine lv_imul hx hb (dAt dX7_colourOf 7 rfl) ?_
  refine lv_iconst (v := 2) hx hb (dAt dX7_colourOf 8 rfl) (by decide) ?_
  refine lv_iadd hx hb (dAt dX7_colourOf 9 rfl) ?_
  obtain ⟨z14, h⟩ := h
  refine x_ild C hw (hE.1 7) (nM hE (by decide)) z14 rfl (dAt dX7_colourOf 10 rfl) ?_
  exact x_iret C hw hr hlk h (dAt dX7_colourOf 11 rfl)
def tX7_showsBy : List (Nat × Instr × Nat) := [(0, .iconst 0, 1), (1, .istore_n 2, 1), (2, .iconst 0, 1), (3, .istore_n 3, 1), (4, .iload_n 3, 1), (5, .aload_n 0, 1), (6, .getfield 178, 3), (9, .if_icmp .ge 26, 3), (12, .iload_n 2, 1), (13, .aload_n 0, 1), (14, .iload_n 3, 1), (15, .invokevirtual 233, 3), (18, .iload_n 1, 1), (19, .if_icmp .ne 7, 3), (22, .iconst 1, 1), (23, .goto 4, 3), (26, .iconst 0, 1), (27, .iadd, 1), (28, .istore_n 2, 1), (29, .iinc 3 1, 3), (32, .goto (-28), 3), (35, .iload_n 2, 1), (36, .ireturn, 1)]
theorem dX7_showsBy : dOk cX7_showsBy tX7_showsBy = true := by decide +kernel
abbrev rX7_showsBy : Room := { frames := 1, cells := 0, slots := 0, locals := 21 }
def wX7_showsBy_4 (Q : Int32 → Mem → Prop) : Nat → Int32 → Int32 → Int32 → Mem → Prop
  | 0, _, _, _, _ => False
  | n + 1, x1, x2, x3, σ => ((((σ 0 20) ≤ x3) → (Q x2 σ)) ∧ ((¬ (σ 0 20) ≤ x3) → (wX7_colourOf x3 σ (fun r15 σ15 => (∀ x2_28 : Int32, x2_28 = (x2 + (if r15 = x1 then (1 : Int32) else (0 : Int32))) → (wX7_showsBy_4 Q n x1 x2_28 (x3 + (1 : Int32)) σ15))))))
def wX7_showsBy (x1 : Int32) (σ : Mem) (Q : Int32 → Mem → Prop) : Prop := (∃ N4, wX7_showsBy_4 Q N4 x1 (0 : Int32) (0 : Int32) σ)
set_option maxHeartbeats 4000000 in
set_option maxRecDepth 100000 in
theorem kX7_showsBy_4 {p : Program} {l : Launch} {e : Env} {s : State} {m : MethodId} {args : Array Value} {below : List Frame} {meth : Method} {c : Code} {E : wE} (hE : wM E) (C : Cx p s m args c cX7_showsBy 4 RX7 E (wA E)) (hr : meth.sig.returnType = (some .int)) (hlk : meth.locks = false) {Q : Int32 → Mem → Prop} : ∀ (n : Nat) (x1 : Int32) (x2 : Int32) (x3 : Int32) (σ : Mem) (H : Heap) (locs : List Loc) (ls : Array Slot), wd E (wA E) s σ H locs → lv_has ls 4 [(0, .ref (gE E 0)), (1, .int x1), (2, .int x2), (3, .int x3)] → wX7_showsBy_4 Q n x1 x2 x3 σ → W p l e rX7_showsBy s m args below meth c H locs 0 0 (MQ below (wQi E Q) args s 0 0 (wA E)) (F0 m 4 ls []) := by
  have hx := C.1.1
  have hb := C.1.2.1
  intro n
  induction n with
  | zero =>
    intro x1 x2 x3 σ  H locs ls hw hl h
    exact h.elim
  | succ n ih =>
    intro x1 x2 x3 σ  H locs ls hw hl h
    rw [wX7_showsBy_4] at h
    refine lv_iload_n hx hb (dAt dX7_showsBy 4 rfl) rfl (lv_at hl 3 rfl) ?_
    refine lv_aload_n hx hb (dAt dX7_showsBy 5 rfl) rfl (lv_at hl 0 rfl) ?_
    refine x_geti C hw fl_X7_178 (hE.1 0) (nM hE (by decide)) rfl (dAt dX7_showsBy 6 rfl) ?_
    refine lv_icmp_ge (tgt := 35) hx hb (dAt dX7_showsBy 7 rfl) (by decide) (fun c9 => ?_) (fun c9 => ?_)
    · replace h := h.1 c9
      refine lv_iload_n hx hb (dAt dX7_showsBy 21 rfl) rfl (lv_at hl 2 rfl) ?_
      exact x_iret C hw hr hlk h (dAt dX7_showsBy 22 rfl)
    · replace h := h.2 c9
      refine lv_iload_n hx hb (dAt dX7_showsBy 8 rfl) rfl (lv_at hl 2 rfl) ?_
      refine lv_aload_n hx hb (dAt dX7_showsBy 9 rfl) rfl (lv_at hl 0 rfl) ?_
      refine lv_iload_n hx hb (dAt dX7_showsBy 10 rfl) rfl (lv_at hl 3 rfl) ?_
      refine x_calli C hw (x_runV (As := [.int x3]) (rest := [.int x2]) C hw (kX7_colourOf l E hE x3 σ _ h) mtX7_colourOf lk_X7_233 (hE.1 0) (nM hE (by decide)) rfl ⟨by decide, by decide⟩ ⟨rfl, rfl⟩ rfl hl.1 rfl (Nat.le_of_ble_eq_true rfl) (dAt dX7_showsBy 11 rfl) ⟨Nat.zero_le _, Nat.zero_le _⟩) (fun r15 σ15 H locs h hw => ?_)
      refine lv_iload_n hx hb (dAt dX7_showsBy 12 rfl) rfl (lv_at hl 1 rfl) ?_
      refine x_dia (ls := ls) (pcJ := 27) (cnd := r15 = x1) (a := (1 : Int32)) (b := (0 : Int32)) ([.int x2]) ?_ (fun ht19 hf19 => ?_)
      · refine lv_iadd hx hb (dAt dX7_showsBy 17 rfl) ?_
        refine lv_topi (fun x2_28 ex2_28 => ?_)
        replace h := h x2_28 ex2_28
        refine lv_istore_n (lv' := [(2, .int x2_28), (0, .ref (gE E 0)), (1, .int x1), (3, .int x3)]) hx hb (dAt dX7_showsBy 18 rfl) rfl hl (by decide) rfl (fun ls hl => ?_)
        refine lv_iinc (v := (x3 + (1 : Int32))) (lv' := [(3, .int (x3 + (1 : Int32))), (2, .int x2_28), (0, .ref (gE E 0)), (1, .int x1)]) hx hb (dAt dX7_showsBy 19 rfl) hl (k := 3) rfl rfl (by decide) rfl (fun ls hl => ?_)
        refine lv_goto (tgt := 4) hx hb (dAt dX7_showsBy 20 rfl) (by decide) ?_
        exact ih x1 x2_28 (x3 + (1 : Int32)) σ15  _ _ _ hw (lv_sub hl [2, 3, 1, 0] rfl) h
      · refine lv_icmp_ne (tgt := 26) hx hb (dAt dX7_showsBy 13 rfl) (by decide) (fun c19 => ?_) (fun c19 => ?_)
        · refine lv_iconst (v := 0) hx hb (dAt dX7_showsBy 16 rfl) (by decide) ?_
          exact hf19 c19
        · refine lv_iconst (v := 1) hx hb (dAt dX7_showsBy 14 rfl) (by decide) ?_
          refine lv_goto (tgt := 27) hx hb (dAt dX7_showsBy 15 rfl) (by decide) ?_
          exact ht19 c19
set_option maxHeartbeats 4000000 in
set_option maxRecDepth 100000 in
theorem kX7_showsBy (l : Launch) (E : wE) (hE : wM E) (x1 : Int32) (σ : Mem) (Q : Int32 → Mem → Prop) (h : wX7_showsBy x1 σ Q) : Met l yX7_showsBy (Cond.code yX7_showsBy cX7_showsBy 4 (some .int) :: TB) rX7_showsBy (wPc E σ [.ref (gE E 0), .int x1]) (wQi E Q) 0 0 (wA E) := by
  refine wMet (by decide) hE.2.2 (Nat.le_of_ble_eq_true rfl) ?_
  intro p e s m args below meth c ls C hr hlk hl hw
  have hx := C.1.1
  have hb := C.1.2.1
  replace C : Cx p s m args c cX7_showsBy 4 RX7 E (wA E) := C
  replace hl : lv_has ls 4 [(0, .ref (gE E 0)), (1, .int x1)] := hl
  unfold wX7_showsBy at h
  refine lv_iconst (v := 0) hx hb (dAt dX7_showsBy 0 rfl) (by decide) ?_
  refine lv_istore_n (lv' := [(2, .int (0 : Int32)), (0, .ref (gE E 0)), (1, .int x1)]) hx hb (dAt dX7_showsBy 1 rfl) rfl hl (by decide) rfl (fun ls hl => ?_)
  refine lv_iconst (v := 0) hx hb (dAt dX7_showsBy 2 rfl) (by decide) ?_
  refine lv_istore_n (lv' := [(3, .int (0 : Int32)), (2, .int (0 : Int32)), (0, .ref (gE E 0)), (1, .int x1)]) hx hb (dAt dX7_showsBy 3 rfl) rfl hl (by decide) rfl (fun ls hl => ?_)
  obtain ⟨n4, h⟩ := h
  exact kX7_showsBy_4 hE C hr hlk n4 x1 (0 : Int32) (0 : Int32) σ  _ _ _ hw (lv_sub hl [2, 3, 1, 0] rfl) h
def tX7_shows : List (Nat × Instr × Nat) := [(0, .aload_n 0, 1), (1, .invokevirtual 219, 3), (4, .iload_n 1, 1), (5, .i2l, 1), (6, .lconst 0, 1), (7, .ldc2_w 236, 3), (10, .invokestatic 88, 3), (13, .ifCond .eq 11, 3), (16, .aload_n 0, 1), (17, .iload_n 1, 1), (18, .invokevirtual 238, 3), (21, .goto 5, 3), (24, .bipush (-2), 2), (26, .ireturn, 1)]
theorem dX7_shows : dOk cX7_shows tX7_shows = true := by decide +kernel
abbrev rX7_shows : Room := { frames := 7, cells := 0, slots := 0, locals := 159 }
def wX7_shows (x1 : Int32) (σ : Mem) (Q : Int32 → Mem → Prop) : Prop := (wX7_find  σ (fun σ1 => (wX7_in ((x1).toInt64) (0 : Int64) (9 : Int64) σ1 (fun r10 σ10 => (((r10 = 0) → (Q (-2 : Int32) σ10)) ∧ ((¬ r10 = 0) → (wX7_showsBy x1 σ10 (fun r18 σ18 => (Q r18 σ18)))))))))
set_option maxHeartbeats 4000000 in
set_option maxRecDepth 100000 in
theorem kX7_shows (l : Launch) (E : wE) (hE : wM E) (x1 : Int32) (σ : Mem) (Q : Int32 → Mem → Prop) (h : wX7_shows x1 σ Q) : Met l yX7_shows (Cond.code yX7_shows cX7_shows 2 (some .int) :: TB) rX7_shows (wPc E σ [.ref (gE E 0), .int x1]) (wQi E Q) 0 0 (wA E) := by
  refine wMet (by decide) hE.2.2 (Nat.le_of_ble_eq_true rfl) ?_
  intro p e s m args below meth c ls C hr hlk hl hw
  have hx := C.1.1
  have hb := C.1.2.1
  replace C : Cx p s m args c cX7_shows 2 RX7 E (wA E) := C
  replace hl : lv_has ls 2 [(0, .ref (gE E 0)), (1, .int x1)] := hl
  unfold wX7_shows at h
  refine lv_aload_n hx hb (dAt dX7_shows 0 rfl) rfl (lv_at hl 0 rfl) ?_
  refine x_callv C hw (x_runV (As := []) (rest := []) C hw (kX7_find l E hE  σ _ h) mtX7_find lk_X7_219 (hE.1 0) (nM hE (by decide)) rfl ⟨by decide, by decide⟩ ⟨rfl, rfl⟩ rfl hl.1 rfl (Nat.le_of_ble_eq_true rfl) (dAt dX7_shows 1 rfl) ⟨Nat.zero_le _, Nat.zero_le _⟩) (fun σ1 H locs h hw => ?_)
  refine lv_iload_n hx hb (dAt dX7_shows 2 rfl) rfl (lv_at hl 1 rfl) ?_
  refine lv_i2l hx hb (dAt dX7_shows 3 rfl) rfl ?_
  refine lv_lconst (v := 0) hx hb (dAt dX7_shows 4 rfl) (by decide) ?_
  refine lv_ldc2 (v := 9) hx hb C.1.2.2.2.1 (C.1.2.2.2.2 _ ck_X7_236) (dAt dX7_shows 5 rfl) ?_
  refine x_calli C hw (x_runS (As := [.long ((x1).toInt64), .long (0 : Int64), .long (9 : Int64)]) (rest := []) C hw (kX7_in l E hE ((x1).toInt64) (0 : Int64) (9 : Int64) σ1 _ h) mtX7_in lk_X7_88 ⟨by decide, by decide⟩ ⟨rfl, rfl⟩ rfl hl.1 rfl (Nat.le_of_ble_eq_true rfl) (dAt dX7_shows 6 rfl) ⟨Nat.zero_le _, Nat.zero_le _⟩) (fun r10 σ10 H locs h hw => ?_)
  refine lv_if_eq (tgt := 24) hx hb (dAt dX7_shows 7 rfl) (by decide) (fun c13 => ?_) (fun c13 => ?_)
  · replace h := h.1 c13
    refine lv_bipush (v := -2) hx hb (dAt dX7_shows 12 rfl) (by decide) ?_
    exact x_iret C hw hr hlk h (dAt dX7_shows 13 rfl)
  · replace h := h.2 c13
    refine lv_aload_n hx hb (dAt dX7_shows 8 rfl) rfl (lv_at hl 0 rfl) ?_
    refine lv_iload_n hx hb (dAt dX7_shows 9 rfl) rfl (lv_at hl 1 rfl) ?_
    refine x_calli C hw (x_runV (As := [.int x1]) (rest := []) C hw (kX7_showsBy l E hE x1 σ10 _ h) mtX7_showsBy lk_X7_238 (hE.1 0) (nM hE (by decide)) rfl ⟨by decide, by decide⟩ ⟨rfl, rfl⟩ rfl hl.1 rfl (Nat.le_of_ble_eq_true rfl) (dAt dX7_shows 10 rfl) ⟨Nat.zero_le _, Nat.zero_le _⟩) (fun r18 σ18 H locs h hw => ?_)
    refine lv_goto (tgt := 26) hx hb (dAt dX7_shows 11 rfl) (by decide) ?_
    exact x_iret C hw hr hlk h (dAt dX7_shows 13 rfl)
def tX7_allMet : List (Nat × Instr × Nat) := [(0, .iconst 0, 1), (1, .istore_n 1, 1), (2, .iconst 0, 1), (3, .istore_n 2, 1), (4, .iload_n 2, 1), (5, .bipush 24, 2), (7, .if_icmp .ge 18, 3), (10, .iload_n 1, 1), (11, .aload_n 0, 1), (12, .getfield 73, 3), (15, .iload_n 2, 1), (16, .iaload, 1), (17, .iadd, 1), (18, .istore_n 1, 1), (19, .iinc 2 1, 3), (22, .goto (-18), 3), (25, .iload_n 1, 1), (26, .ireturn, 1)]
theorem dX7_allMet : dOk cX7_allMet tX7_allMet = true := by decide +kernel
abbrev rX7_allMet : Room := { frames := 0, cells := 0, slots := 0, locals := 0 }
def wX7_allMet_4 (Q : Int32 → Mem → Prop) : Nat → Int32 → Int32 → Mem → Prop
  | 0, _, _, _ => False
  | n + 1, x1, x2, σ => ((((24 : Int32) ≤ x2) → (Q x1 σ)) ∧ ((¬ (24 : Int32) ≤ x2) → (vp_in x2 24 ∧ (∀ x1_18 : Int32, x1_18 = (x1 + (σ 22 (x2).toNatClampNeg)) → (wX7_allMet_4 Q n x1_18 (x2 + (1 : Int32)) σ)))))
def wX7_allMet (σ : Mem) (Q : Int32 → Mem → Prop) : Prop := (∃ N4, wX7_allMet_4 Q N4 (0 : Int32) (0 : Int32) σ)
set_option maxHeartbeats 4000000 in
set_option maxRecDepth 100000 in
theorem kX7_allMet_4 {p : Program} {l : Launch} {e : Env} {s : State} {m : MethodId} {args : Array Value} {below : List Frame} {meth : Method} {c : Code} {E : wE} (hE : wM E) (C : Cx p s m args c cX7_allMet 3 RX7 E (wA E)) (hr : meth.sig.returnType = (some .int)) (hlk : meth.locks = false) {Q : Int32 → Mem → Prop} : ∀ (n : Nat) (x1 : Int32) (x2 : Int32) (σ : Mem) (H : Heap) (locs : List Loc) (ls : Array Slot), wd E (wA E) s σ H locs → lv_has ls 3 [(0, .ref (gE E 0)), (1, .int x1), (2, .int x2)] → wX7_allMet_4 Q n x1 x2 σ → W p l e rX7_allMet s m args below meth c H locs 0 0 (MQ below (wQi E Q) args s 0 0 (wA E)) (F0 m 4 ls []) := by
  have hx := C.1.1
  have hb := C.1.2.1
  intro n
  induction n with
  | zero =>
    intro x1 x2 σ  H locs ls hw hl h
    exact h.elim
  | succ n ih =>
    intro x1 x2 σ  H locs ls hw hl h
    rw [wX7_allMet_4] at h
    refine lv_iload_n hx hb (dAt dX7_allMet 4 rfl) rfl (lv_at hl 2 rfl) ?_
    refine lv_bipush (v := 24) hx hb (dAt dX7_allMet 5 rfl) (by decide) ?_
    refine lv_icmp_ge (tgt := 25) hx hb (dAt dX7_allMet 6 rfl) (by decide) (fun c7 => ?_) (fun c7 => ?_)
    · replace h := h.1 c7
      refine lv_iload_n hx hb (dAt dX7_allMet 16 rfl) rfl (lv_at hl 1 rfl) ?_
      exact x_iret C hw hr hlk h (dAt dX7_allMet 17 rfl)
    · replace h := h.2 c7
      refine lv_iload_n hx hb (dAt dX7_allMet 7 rfl) rfl (lv_at hl 1 rfl) ?_
      refine lv_aload_n hx hb (dAt dX7_allMet 8 rfl) rfl (lv_at hl 0 rfl) ?_
      refine x_getr C hw fl_X7_73 (hE.1 0) (nM hE (by decide)) rfl (dAt dX7_allMet 9 rfl) ?_
      refine lv_iload_n hx hb (dAt dX7_allMet 10 rfl) rfl (lv_at hl 2 rfl) ?_
      obtain ⟨z16, h⟩ := h
      refine x_ild C hw (hE.1 22) (nM hE (by decide)) z16 rfl (dAt dX7_allMet 11 rfl) ?_
      refine lv_iadd hx hb (dAt dX7_allMet 12 rfl) ?_
      refine lv_topi (fun x1_18 ex1_18 => ?_)
      replace h := h x1_18 ex1_18
      refine lv_istore_n (lv' := [(1, .int x1_18), (0, .ref (gE E 0)), (2, .int x2)]) hx hb (dAt dX7_allMet 13 rfl) rfl hl (by decide) rfl (fun ls hl => ?_)
      refine lv_iinc (v := (x2 + (1 : Int32))) (lv' := [(2, .int (x2 + (1 : Int32))), (1, .int x1_18), (0, .ref (gE E 0))]) hx hb (dAt dX7_allMet 14 rfl) hl (k := 2) rfl rfl (by decide) rfl (fun ls hl => ?_)
      refine lv_goto (tgt := 4) hx hb (dAt dX7_allMet 15 rfl) (by decide) ?_
      exact ih x1_18 (x2 + (1 : Int32)) σ  _ _ _ hw (lv_sub hl [2, 1, 0] rfl) h
set_option maxHeartbeats 4000000 in
set_option maxRecDepth 100000 in
theorem kX7_allMet (l : Launch) (E : wE) (hE : wM E) (σ : Mem) (Q : Int32 → Mem → Prop) (h : wX7_allMet  σ Q) : Met l yX7_allMet (Cond.code yX7_allMet cX7_allMet 3 (some .int) :: TB) rX7_allMet (wPc E σ [.ref (gE E 0)]) (wQi E Q) 0 0 (wA E) := by
  refine wMet (by decide) hE.2.2 (Nat.le_of_ble_eq_true rfl) ?_
  intro p e s m args below meth c ls C hr hlk hl hw
  have hx := C.1.1
  have hb := C.1.2.1
  replace C : Cx p s m args c cX7_allMet 3 RX7 E (wA E) := C
  replace hl : lv_has ls 3 [(0, .ref (gE E 0))] := hl
  unfold wX7_allMet at h
  refine lv_iconst (v := 0) hx hb (dAt dX7_allMet 0 rfl) (by decide) ?_
  refine lv_istore_n (lv' := [(1, .int (0 : Int32)), (0, .ref (gE E 0))]) hx hb (dAt dX7_allMet 1 rfl) rfl hl (by decide) rfl (fun ls hl => ?_)
  refine lv_iconst (v := 0) hx hb (dAt dX7_allMet 2 rfl) (by decide) ?_
  refine lv_istore_n (lv' := [(2, .int (0 : Int32)), (1, .int (0 : Int32)), (0, .ref (gE E 0))]) hx hb (dAt dX7_allMet 3 rfl) rfl hl (by decide) rfl (fun ls hl => ?_)
  obtain ⟨n4, h⟩ := h
  exact kX7_allMet_4 hE C hr hlk n4 (0 : Int32) (0 : Int32) σ  _ _ _ hw (lv_sub hl [2, 1, 0] rfl) h
def tX7_sumBy : List (Nat × Instr × Nat) := [(0, .iload_n 1, 1), (1, .ifCond .ne 10, 3), (4, .aload_n 0, 1), (5, .invokevirtual 241, 3), (8, .goto 19, 3), (11, .iload_n 1, 1), (12, .iconst 1, 1), (13, .if_icmp .ne 10, 3), (16, .aload_n 0, 1), (17, .getfield 188, 3), (20, .goto 7, 3), (23, .aload_n 0, 1), (24, .getfield 181, 3), (27, .ireturn, 1)]
theorem dX7_sumBy : dOk cX7_sumBy tX7_sumBy = true := by decide +kernel
abbrev rX7_sumBy : Room := { frames := 1, cells := 0, slots := 0, locals := 22 }
def wX7_sumBy (x1 : Int32) (σ : Mem) (Q : Int32 → Mem → Prop) : Prop := (((¬ x1 = 0) → (Q (if x1 = (1 : Int32) then (σ 0 26) else (σ 0 27)) σ)) ∧ ((x1 = 0) → (wX7_allMet  σ (fun r5 σ5 => (Q r5 σ5)))))
set_option maxHeartbeats 4000000 in
set_option maxRecDepth 100000 in
theorem kX7_sumBy (l : Launch) (E : wE) (hE : wM E) (x1 : Int32) (σ : Mem) (Q : Int32 → Mem → Prop) (h : wX7_sumBy x1 σ Q) : Met l yX7_sumBy (Cond.code yX7_sumBy cX7_sumBy 2 (some .int) :: TB) rX7_sumBy (wPc E σ [.ref (gE E 0), .int x1]) (wQi E Q) 0 0 (wA E) := by
  refine wMet (by decide) hE.2.2 (Nat.le_of_ble_eq_true rfl) ?_
  intro p e s m args below meth c ls C hr hlk hl hw
  have hx := C.1.1
  have hb := C.1.2.1
  replace C : Cx p s m args c cX7_sumBy 2 RX7 E (wA E) := C
  replace hl : lv_has ls 2 [(0, .ref (gE E 0)), (1, .int x1)] := hl
  unfold wX7_sumBy at h
  refine lv_iload_n hx hb (dAt dX7_sumBy 0 rfl) rfl (lv_at hl 1 rfl) ?_
  refine lv_if_ne (tgt := 11) hx hb (dAt dX7_sumBy 1 rfl) (by decide) (fun c1 => ?_) (fun c1 => ?_)
  · replace h := h.1 c1
    refine lv_iload_n hx hb (dAt dX7_sumBy 5 rfl) rfl (lv_at hl 1 rfl) ?_
    refine lv_iconst (v := 1) hx hb (dAt dX7_sumBy 6 rfl) (by decide) ?_
    refine x_dia (ls := ls) (pcJ := 27) (cnd := x1 = (1 : Int32)) (a := (σ 0 26)) (b := (σ 0 27)) ([]) ?_ (fun ht13 hf13 => ?_)
    · exact x_iret C hw hr hlk h (dAt dX7_sumBy 13 rfl)
    · refine lv_icmp_ne (tgt := 23) hx hb (dAt dX7_sumBy 7 rfl) (by decide) (fun c13 => ?_) (fun c13 => ?_)
      · refine lv_aload_n hx hb (dAt dX7_sumBy 11 rfl) rfl (lv_at hl 0 rfl) ?_
        refine x_geti C hw fl_X7_181 (hE.1 0) (nM hE (by decide)) rfl (dAt dX7_sumBy 12 rfl) ?_
        exact hf13 c13
      · refine lv_aload_n hx hb (dAt dX7_sumBy 8 rfl) rfl (lv_at hl 0 rfl) ?_
        refine x_geti C hw fl_X7_188 (hE.1 0) (nM hE (by decide)) rfl (dAt dX7_sumBy 9 rfl) ?_
        refine lv_goto (tgt := 27) hx hb (dAt dX7_sumBy 10 rfl) (by decide) ?_
        exact ht13 c13
  · replace h := h.2 c1
    refine lv_aload_n hx hb (dAt dX7_sumBy 2 rfl) rfl (lv_at hl 0 rfl) ?_
    refine x_calli C hw (x_runV (As := []) (rest := []) C hw (kX7_allMet l E hE  σ _ h) mtX7_allMet lk_X7_241 (hE.1 0) (nM hE (by decide)) rfl ⟨by decide, by decide⟩ ⟨rfl, rfl⟩ rfl hl.1 rfl (Nat.le_of_ble_eq_true rfl) (dAt dX7_sumBy 3 rfl) ⟨Nat.zero_le _, Nat.zero_le _⟩) (fun r5 σ5 H locs h hw => ?_)
    refine lv_goto (tgt := 27) hx hb (dAt dX7_sumBy 4 rfl) (by decide) ?_
    exact x_iret C hw hr hlk h (dAt dX7_sumBy 13 rfl)
def tX7_sum : List (Nat × Instr × Nat) := [(0, .aload_n 0, 1), (1, .invokevirtual 219, 3), (4, .iload_n 1, 1), (5, .i2l, 1), (6, .lconst 0, 1), (7, .ldc2_w 101, 3), (10, .invokestatic 88, 3), (13, .ifCond .eq 11, 3), (16, .aload_n 0, 1), (17, .iload_n 1, 1), (18, .invokevirtual 244, 3), (21, .goto 5, 3), (24, .bipush (-2), 2), (26, .ireturn, 1)]
theorem dX7_sum : dOk cX7_sum tX7_sum = true := by decide +kernel
abbrev rX7_sum : Room := { frames := 7, cells := 0, slots := 0, locals := 159 }
def wX7_sum (x1 : Int32) (σ : Mem) (Q : Int32 → Mem → Prop) : Prop := (wX7_find  σ (fun σ1 => (wX7_in ((x1).toInt64) (0 : Int64) (2 : Int64) σ1 (fun r10 σ10 => (((r10 = 0) → (Q (-2 : Int32) σ10)) ∧ ((¬ r10 = 0) → (wX7_sumBy x1 σ10 (fun r18 σ18 => (Q r18 σ18)))))))))
set_option maxHeartbeats 4000000 in
set_option maxRecDepth 100000 in
theorem kX7_sum (l : Launch) (E : wE) (hE : wM E) (x1 : Int32) (σ : Mem) (Q : Int32 → Mem → Prop) (h : wX7_sum x1 σ Q) : Met l yX7_sum (Cond.code yX7_sum cX7_sum 2 (some .int) :: TB) rX7_sum (wPc E σ [.ref (gE E 0), .int x1]) (wQi E Q) 0 0 (wA E) := by
  refine wMet (by decide) hE.2.2 (Nat.le_of_ble_eq_true rfl) ?_
  intro p e s m args below meth c ls C hr hlk hl hw
  have hx := C.1.1
  have hb := C.1.2.1
  replace C : Cx p s m args c cX7_sum 2 RX7 E (wA E) := C
  replace hl : lv_has ls 2 [(0, .ref (gE E 0)), (1, .int x1)] := hl
  unfold wX7_sum at h
  refine lv_aload_n hx hb (dAt dX7_sum 0 rfl) rfl (lv_at hl 0 rfl) ?_
  refine x_callv C hw (x_runV (As := []) (rest := []) C hw (kX7_find l E hE  σ _ h) mtX7_find lk_X7_219 (hE.1 0) (nM hE (by decide)) rfl ⟨by decide, by decide⟩ ⟨rfl, rfl⟩ rfl hl.1 rfl (Nat.le_of_ble_eq_true rfl) (dAt dX7_sum 1 rfl) ⟨Nat.zero_le _, Nat.zero_le _⟩) (fun σ1 H locs h hw => ?_)
  refine lv_iload_n hx hb (dAt dX7_sum 2 rfl) rfl (lv_at hl 1 rfl) ?_
  refine lv_i2l hx hb (dAt dX7_sum 3 rfl) rfl ?_
  refine lv_lconst (v := 0) hx hb (dAt dX7_sum 4 rfl) (by decide) ?_
  refine lv_ldc2 (v := 2) hx hb C.1.2.2.2.1 (C.1.2.2.2.2 _ ck_X7_101) (dAt dX7_sum 5 rfl) ?_
  refine x_calli C hw (x_runS (As := [.long ((x1).toInt64), .long (0 : Int64), .long (2 : Int64)]) (rest := []) C hw (kX7_in l E hE ((x1).toInt64) (0 : Int64) (2 : Int64) σ1 _ h) mtX7_in lk_X7_88 ⟨by decide, by decide⟩ ⟨rfl, rfl⟩ rfl hl.1 rfl (Nat.le_of_ble_eq_true rfl) (dAt dX7_sum 6 rfl) ⟨Nat.zero_le _, Nat.zero_le _⟩) (fun r10 σ10 H locs h hw => ?_)
  refine lv_if_eq (tgt := 24) hx hb (dAt dX7_sum 7 rfl) (by decide) (fun c13 => ?_) (fun c13 => ?_)
  · replace h := h.1 c13
    refine lv_bipush (v := -2) hx hb (dAt dX7_sum 12 rfl) (by decide) ?_
    exact x_iret C hw hr hlk h (dAt dX7_sum 13 rfl)
  · replace h := h.2 c13
    refine lv_aload_n hx hb (dAt dX7_sum 8 rfl) rfl (lv_at hl 0 rfl) ?_
    refine lv_iload_n hx hb (dAt dX7_sum 9 rfl) rfl (lv_at hl 1 rfl) ?_
    refine x_calli C hw (x_runV (As := [.int x1]) (rest := []) C hw (kX7_sumBy l E hE x1 σ10 _ h) mtX7_sumBy lk_X7_244 (hE.1 0) (nM hE (by decide)) rfl ⟨by decide, by decide⟩ ⟨rfl, rfl⟩ rfl hl.1 rfl (Nat.le_of_ble_eq_true rfl) (dAt dX7_sum 10 rfl) ⟨Nat.zero_le _, Nat.zero_le _⟩) (fun r18 σ18 H locs h hw => ?_)
    refine lv_goto (tgt := 26) hx hb (dAt dX7_sum 11 rfl) (by decide) ?_
    exact x_iret C hw hr hlk h (dAt dX7_sum 13 rfl)
def tX7_runBy : List (Nat × Instr × Nat) := [(0, .iconst 0, 1), (1, .istore_n 2, 1), (2, .iconst (-1), 1), (3, .istore_n 3, 1), (4, .iconst 0, 1), (5, .istore 4, 2), (7, .iconst 0, 1), (8, .istore 5, 2), (10, .iload 5, 2), (12, .aload_n 0, 1), (13, .getfield 178, 3), (16, .if_icmp .ge 66, 3), (19, .iload 5, 2), (21, .ifCond .le 27, 3), (24, .aload_n 0, 1), (25, .iload 5, 2), (27, .invokevirtual 233, 3), (30, .aload_n 0, 1), (31, .iload 5, 2), (33, .iconst 1, 1), (34, .isub, 1), (35, .invokevirtual 233, 3), (38, .if_icmp .ne 10, 3), (41, .iload 4, 2), (43, .iconst 1, 1), (44, .iadd, 1), (45, .goto 4, 3), (48, .iconst 1, 1), (49, .istore 4, 2), (51, .iload 4, 2), (53, .iload_n 2, 1), (54, .if_icmp .le 13, 3), (57, .iload 5, 2), (59, .iload 4, 2), (61, .isub, 1), (62, .iconst 1, 1), (63, .iadd, 1), (64, .goto 4, 3), (67, .iload_n 3, 1), (68, .istore_n 3, 1), (69, .iload 4, 2), (71, .iload_n 2, 1), (72, .invokestatic 247, 3), (75, .istore_n 2, 1), (76, .iinc 5 1, 3), (79, .goto (-69), 3), (82, .iload_n 1, 1), (83, .ifCond .ne 7, 3), (86, .iload_n 2, 1), (87, .goto 4, 3), (90, .iload_n 3, 1), (91, .ireturn, 1)]
theorem dX7_runBy : dOk cX7_runBy tX7_runBy = true := by decide +kernel
abbrev rX7_runBy : Room := { frames := 1, cells := 0, slots := 0, locals := 21 }
def wX7_runBy_82 (Q : Int32 → Mem → Prop) (x1 : Int32) (x2 : Int32) (x3 : Int32) (σ : Mem) : Prop := (Q (if x1 = 0 then x2 else x3) σ)
def wX7_runBy_49 (K10 : Int32 → Int32 → Int32 → Int32 → Int32 → Mem → Prop) (Q : Int32 → Mem → Prop) (x1 : Int32) (x2 : Int32) (x3 : Int32) (x5 : Int32) (y0 : Int32) (σ : Mem) : Prop := (∀ x3_68 : Int32, x3_68 = (if y0 ≤ x2 then x3 else ((x5 - y0) + (1 : Int32))) → (wX7_greater y0 x2 σ (fun r72 σ72 => (K10 x1 r72 x3_68 y0 (x5 + (1 : Int32)) σ72))))
def wX7_runBy_10 (Q : Int32 → Mem → Prop) : Nat → Int32 → Int32 → Int32 → Int32 → Int32 → Mem → Prop
  | 0, _, _, _, _, _, _ => False
  | n + 1, x1, x2, x3, x4, x5, σ => ((((σ 0 20) ≤ x5) → (wX7_runBy_82 Q x1 x2 x3 σ)) ∧ ((¬ (σ 0 20) ≤ x5) → (((x5 ≤ 0) → (wX7_runBy_49 (fun x1 x2 x3 x4 x5 ρ => wX7_runBy_10 Q n x1 x2 x3 x4 x5 ρ) Q x1 x2 x3 x5 (1 : Int32) σ)) ∧ ((¬ x5 ≤ 0) → (wX7_colourOf x5 σ (fun r27 σ27 => (wX7_colourOf (x5 - (1 : Int32)) σ27 (fun r35 σ35 => (((¬ r27 = r35) → (wX7_runBy_49 (fun x1 x2 x3 x4 x5 ρ => wX7_runBy_10 Q n x1 x2 x3 x4 x5 ρ) Q x1 x2 x3 x5 (1 : Int32) σ35)) ∧ ((r27 = r35) → (wX7_runBy_49 (fun x1 x2 x3 x4 x5 ρ => wX7_runBy_10 Q n x1 x2 x3 x4 x5 ρ) Q x1 x2 x3 x5 (x4 + (1 : Int32)) σ35)))))))))))
def wX7_runBy (x1 : Int32) (σ : Mem) (Q : Int32 → Mem → Prop) : Prop := (∃ N10, wX7_runBy_10 Q N10 x1 (0 : Int32) (-1 : Int32) (0 : Int32) (0 : Int32) σ)
set_option maxHeartbeats 4000000 in
set_option maxRecDepth 100000 in
theorem kX7_runBy_82 {p : Program} {l : Launch} {e : Env} {s : State} {m : MethodId} {args : Array Value} {below : List Frame} {meth : Method} {c : Code} {E : wE} (hE : wM E) (C : Cx p s m args c cX7_runBy 6 RX7 E (wA E)) (hr : meth.sig.returnType = (some .int)) (hlk : meth.locks = false) {Q : Int32 → Mem → Prop} : ∀ (x1 : Int32) (x2 : Int32) (x3 : Int32) (σ : Mem) (H : Heap) (locs : List Loc) (ls : Array Slot), wd E (wA E) s σ H locs → lv_has ls 6 [(1, .int x1), (2, .int x2), (3, .int x3)] → wX7_runBy_82 Q x1 x2 x3 σ → W p l e rX7_runBy s m args below meth c H locs 0 0 (MQ below (wQi E Q) args s 0 0 (wA E)) (F0 m 82 ls []) := by
  have hx := C.1.1
  have hb := C.1.2.1
  intro x1 x2 x3 σ  H locs ls hw hl h
  unfold wX7_runBy_82 at h
  refine lv_iload_n hx hb (dAt dX7_runBy 46 rfl) rfl (lv_at hl 0 rfl) ?_
  refine x_dia (ls := ls) (pcJ := 91) (cnd := x1 = 0) (a := x2) (b := x3) ([]) ?_ (fun ht83 hf83 => ?_)
  · exact x_iret C hw hr hlk h (dAt dX7_runBy 51 rfl)
  · refine lv_if_ne (tgt := 90) hx hb (dAt dX7_runBy 47 rfl) (by decide) (fun c83 => ?_) (fun c83 => ?_)
    · refine lv_iload_n hx hb (dAt dX7_runBy 50 rfl) rfl (lv_at hl 2 rfl) ?_
      exact hf83 c83
    · refine lv_iload_n hx hb (dAt dX7_runBy 48 rfl) rfl (lv_at hl 1 rfl) ?_
      refine lv_goto (tgt := 91) hx hb (dAt dX7_runBy 49 rfl) (by decide) ?_
      exact ht83 c83
set_option maxHeartbeats 4000000 in
set_option maxRecDepth 100000 in
theorem kX7_runBy_49 {p : Program} {l : Launch} {e : Env} {s : State} {m : MethodId} {args : Array Value} {below : List Frame} {meth : Method} {c : Code} {E : wE} (hE : wM E) (C : Cx p s m args c cX7_runBy 6 RX7 E (wA E)) (hr : meth.sig.returnType = (some .int)) (hlk : meth.locks = false) {Q : Int32 → Mem → Prop} {K10 : Int32 → Int32 → Int32 → Int32 → Int32 → Mem → Prop} (hK10 : ∀ (x1 : Int32) (x2 : Int32) (x3 : Int32) (x4 : Int32) (x5 : Int32) (σ : Mem) (H : Heap) (locs : List Loc) (ls : Array Slot), wd E (wA E) s σ H locs → lv_has ls 6 [(0, .ref (gE E 0)), (1, .int x1), (2, .int x2), (3, .int x3), (4, .int x4), (5, .int x5)] → K10 x1 x2 x3 x4 x5 σ → W p l e rX7_runBy s m args below meth c H locs 0 0 (MQ below (wQi E Q) args s 0 0 (wA E)) (F0 m 10 ls [])) : ∀ (x1 : Int32) (x2 : Int32) (x3 : Int32) (x5 : Int32) (y0 : Int32) (σ : Mem) (H : Heap) (locs : List Loc) (ls : Array Slot), wd E (wA E) s σ H locs → lv_has ls 6 [(0, .ref (gE E 0)), (1, .int x1), (2, .int x2), (3, .int x3), (5, .int x5)] → wX7_runBy_49 K10 Q x1 x2 x3 x5 y0 σ → W p l e rX7_runBy s m args below meth c H locs 0 0 (MQ below (wQi E Q) args s 0 0 (wA E)) (F0 m 49 ls [.int y0]) := by
  have hx := C.1.1
  have hb := C.1.2.1
  intro x1 x2 x3 x5 y0 σ  H locs ls hw hl h
  unfold wX7_runBy_49 at h
  refine lv_istore (lv' := [(4, .int y0), (0, .ref (gE E 0)), (1, .int x1), (2, .int x2), (3, .int x3), (5, .int x5)]) hx hb (dAt dX7_runBy 28 rfl) hl (by decide) rfl (fun ls hl => ?_)
  refine lv_iload hx hb (dAt dX7_runBy 29 rfl) (lv_at hl 0 rfl) ?_
  refine lv_iload_n hx hb (dAt dX7_runBy 30 rfl) rfl (lv_at hl 3 rfl) ?_
  refine x_dia (ls := ls) (pcJ := 68) (cnd := y0 ≤ x2) (a := x3) (b := ((x5 - y0) + (1 : Int32))) ([]) ?_ (fun ht54 hf54 => ?_)
  · refine lv_topi (fun x3_68 ex3_68 => ?_)
    replace h := h x3_68 ex3_68
    refine lv_istore_n (lv' := [(3, .int x3_68), (4, .int y0), (0, .ref (gE E 0)), (1, .int x1), (2, .int x2), (5, .int x5)]) hx hb (dAt dX7_runBy 39 rfl) rfl hl (by decide) rfl (fun ls hl => ?_)
    refine lv_iload hx hb (dAt dX7_runBy 40 rfl) (lv_at hl 1 rfl) ?_
    refine lv_iload_n hx hb (dAt dX7_runBy 41 rfl) rfl (lv_at hl 4 rfl) ?_
    refine x_calli C hw (x_runS (As := [.int y0, .int x2]) (rest := []) C hw (kX7_greater l E hE y0 x2 σ _ h) mtX7_greater lk_X7_247 ⟨by decide, by decide⟩ ⟨rfl, rfl⟩ rfl hl.1 rfl (Nat.le_of_ble_eq_true rfl) (dAt dX7_runBy 42 rfl) ⟨Nat.zero_le _, Nat.zero_le _⟩) (fun r72 σ72 H locs h hw => ?_)
    refine lv_istore_n (lv' := [(2, .int r72), (3, .int x3_68), (4, .int y0), (0, .ref (gE E 0)), (1, .int x1), (5, .int x5)]) hx hb (dAt dX7_runBy 43 rfl) rfl hl (by decide) rfl (fun ls hl => ?_)
    refine lv_iinc (v := (x5 + (1 : Int32))) (lv' := [(5, .int (x5 + (1 : Int32))), (2, .int r72), (3, .int x3_68), (4, .int y0), (0, .ref (gE E 0)), (1, .int x1)]) hx hb (dAt dX7_runBy 44 rfl) hl (k := 5) rfl rfl (by decide) rfl (fun ls hl => ?_)
    refine lv_goto (tgt := 10) hx hb (dAt dX7_runBy 45 rfl) (by decide) ?_
    exact hK10 x1 r72 x3_68 y0 (x5 + (1 : Int32)) σ72  _ _ _ hw (lv_sub hl [4, 5, 1, 2, 3, 0] rfl) h
  · refine lv_icmp_le (tgt := 67) hx hb (dAt dX7_runBy 31 rfl) (by decide) (fun c54 => ?_) (fun c54 => ?_)
    · refine lv_iload_n hx hb (dAt dX7_runBy 38 rfl) rfl (lv_at hl 4 rfl) ?_
      exact ht54 c54
    · refine lv_iload hx hb (dAt dX7_runBy 32 rfl) (lv_at hl 5 rfl) ?_
      refine lv_iload hx hb (dAt dX7_runBy 33 rfl) (lv_at hl 0 rfl) ?_
      refine lv_isub hx hb (dAt dX7_runBy 34 rfl) ?_
      refine lv_iconst (v := 1) hx hb (dAt dX7_runBy 35 rfl) (by decide) ?_
      refine lv_iadd hx hb (dAt dX7_runBy 36 rfl) ?_
      refine lv_goto (tgt := 68) hx hb (dAt dX7_runBy 37 rfl) (by decide) ?_
      exact hf54 c54
set_option maxHeartbeats 4000000 in
set_option maxRecDepth 100000 in
theorem kX7_runBy_10 {p : Program} {l : Launch} {e : Env} {s : State} {m : MethodId} {args : Array Value} {below : List Frame} {meth : Method} {c : Code} {E : wE} (hE : wM E) (C : Cx p s m args c cX7_runBy 6 RX7 E (wA E)) (hr : meth.sig.returnType = (some .int)) (hlk : meth.locks = false) {Q : Int32 → Mem → Prop} : ∀ (n : Nat) (x1 : Int32) (x2 : Int32) (x3 : Int32) (x4 : Int32) (x5 : Int32) (σ : Mem) (H : Heap) (locs : List Loc) (ls : Array Slot), wd E (wA E) s σ H locs → lv_has ls 6 [(0, .ref (gE E 0)), (1, .int x1), (2, .int x2), (3, .int x3), (4, .int x4), (5, .int x5)] → wX7_runBy_10 Q n x1 x2 x3 x4 x5 σ → W p l e rX7_runBy s m args below meth c H locs 0 0 (MQ below (wQi E Q) args s 0 0 (wA E)) (F0 m 10 ls []) := by
  have hx := C.1.1
  have hb := C.1.2.1
  intro n
  induction n with
  | zero =>
    intro x1 x2 x3 x4 x5 σ  H locs ls hw hl h
    exact h.elim
  | succ n ih =>
    intro x1 x2 x3 x4 x5 σ  H locs ls hw hl h
    rw [wX7_runBy_10] at h
    refine lv_iload hx hb (dAt dX7_runBy 8 rfl) (lv_at hl 5 rfl) ?_
    refine lv_aload_n hx hb (dAt dX7_runBy 9 rfl) rfl (lv_at hl 0 rfl) ?_
    refine x_geti C hw fl_X7_178 (hE.1 0) (nM hE (by decide)) rfl (dAt dX7_runBy 10 rfl) ?_
    refine lv_icmp_ge (tgt := 82) hx hb (dAt dX7_runBy 11 rfl) (by decide) (fun c16 => ?_) (fun c16 => ?_)
    · replace h := h.1 c16
      exact kX7_runBy_82 hE C hr hlk x1 x2 x3 σ  _ _ _ hw (lv_sub hl [1, 2, 3] rfl) h
    · replace h := h.2 c16
      refine lv_iload hx hb (dAt dX7_runBy 12 rfl) (lv_at hl 5 rfl) ?_
      refine lv_if_le (tgt := 48) hx hb (dAt dX7_runBy 13 rfl) (by decide) (fun c21 => ?_) (fun c21 => ?_)
      · replace h := h.1 c21
        refine lv_iconst (v := 1) hx hb (dAt dX7_runBy 27 rfl) (by decide) ?_
        exact kX7_runBy_49 hE C hr hlk ih x1 x2 x3 x5 (1 : Int32) σ  _ _ _ hw (lv_sub hl [0, 1, 2, 3, 5] rfl) h
      · replace h := h.2 c21
        refine lv_aload_n hx hb (dAt dX7_runBy 14 rfl) rfl (lv_at hl 0 rfl) ?_
        refine lv_iload hx hb (dAt dX7_runBy 15 rfl) (lv_at hl 5 rfl) ?_
        refine x_calli C hw (x_runV (As := [.int x5]) (rest := []) C hw (kX7_colourOf l E hE x5 σ _ h) mtX7_colourOf lk_X7_233 (hE.1 0) (nM hE (by decide)) rfl ⟨by decide, by decide⟩ ⟨rfl, rfl⟩ rfl hl.1 rfl (Nat.le_of_ble_eq_true rfl) (dAt dX7_runBy 16 rfl) ⟨Nat.zero_le _, Nat.zero_le _⟩) (fun r27 σ27 H locs h hw => ?_)
        refine lv_aload_n hx hb (dAt dX7_runBy 17 rfl) rfl (lv_at hl 0 rfl) ?_
        refine lv_iload hx hb (dAt dX7_runBy 18 rfl) (lv_at hl 5 rfl) ?_
        refine lv_iconst (v := 1) hx hb (dAt dX7_runBy 19 rfl) (by decide) ?_
        refine lv_isub hx hb (dAt dX7_runBy 20 rfl) ?_
        refine x_calli C hw (x_runV (As := [.int (x5 - (1 : Int32))]) (rest := [.int r27]) C hw (kX7_colourOf l E hE (x5 - (1 : Int32)) σ27 _ h) mtX7_colourOf lk_X7_233 (hE.1 0) (nM hE (by decide)) rfl ⟨by decide, by decide⟩ ⟨rfl, rfl⟩ rfl hl.1 rfl (Nat.le_of_ble_eq_true rfl) (dAt dX7_runBy 21 rfl) ⟨Nat.zero_le _, Nat.zero_le _⟩) (fun r35 σ35 H locs h hw => ?_)
        refine lv_icmp_ne (tgt := 48) hx hb (dAt dX7_runBy 22 rfl) (by decide) (fun c38 => ?_) (fun c38 => ?_)
        · replace h := h.1 c38
          refine lv_iconst (v := 1) hx hb (dAt dX7_runBy 27 rfl) (by decide) ?_
          exact kX7_runBy_49 hE C hr hlk ih x1 x2 x3 x5 (1 : Int32) σ35  _ _ _ hw (lv_sub hl [0, 1, 2, 3, 5] rfl) h
        · replace h := h.2 c38
          refine lv_iload hx hb (dAt dX7_runBy 23 rfl) (lv_at hl 4 rfl) ?_
          refine lv_iconst (v := 1) hx hb (dAt dX7_runBy 24 rfl) (by decide) ?_
          refine lv_iadd hx hb (dAt dX7_runBy 25 rfl) ?_
          refine lv_goto (tgt := 49) hx hb (dAt dX7_runBy 26 rfl) (by decide) ?_
          exact kX7_runBy_49 hE C hr hlk ih x1 x2 x3 x5 (x4 + (1 : Int32)) σ35  _ _ _ hw (lv_sub hl [0, 1, 2, 3, 5] rfl) h
set_option maxHeartbeats 4000000 in
set_option maxRecDepth 100000 in
theorem kX7_runBy (l : Launch) (E : wE) (hE : wM E) (x1 : Int32) (σ : Mem) (Q : Int32 → Mem → Prop) (h : wX7_runBy x1 σ Q) : Met l yX7_runBy (Cond.code yX7_runBy cX7_runBy 6 (some .int) :: TB) rX7_runBy (wPc E σ [.ref (gE E 0), .int x1]) (wQi E Q) 0 0 (wA E) := by
  refine wMet (by decide) hE.2.2 (Nat.le_of_ble_eq_true rfl) ?_
  intro p e s m args below meth c ls C hr hlk hl hw
  have hx := C.1.1
  have hb := C.1.2.1
  replace C : Cx p s m args c cX7_runBy 6 RX7 E (wA E) := C
  replace hl : lv_has ls 6 [(0, .ref (gE E 0)), (1, .int x1)] := hl
  unfold wX7_runBy at h
  refine lv_iconst (v := 0) hx hb (dAt dX7_runBy 0 rfl) (by decide) ?_
  refine lv_istore_n (lv' := [(2, .int (0 : Int32)), (0, .ref (gE E 0)), (1, .int x1)]) hx hb (dAt dX7_runBy 1 rfl) rfl hl (by decide) rfl (fun ls hl => ?_)
  refine lv_iconst (v := -1) hx hb (dAt dX7_runBy 2 rfl) (by decide) ?_
  refine lv_istore_n (lv' := [(3, .int (-1 : Int32)), (2, .int (0 : Int32)), (0, .ref (gE E 0)), (1, .int x1)]) hx hb (dAt dX7_runBy 3 rfl) rfl hl (by decide) rfl (fun ls hl => ?_)
  refine lv_iconst (v := 0) hx hb (dAt dX7_runBy 4 rfl) (by decide) ?_
  refine lv_istore (lv' := [(4, .int (0 : Int32)), (3, .int (-1 : Int32)), (2, .int (0 : Int32)), (0, .ref (gE E 0)), (1, .int x1)]) hx hb (dAt dX7_runBy 5 rfl) hl (by decide) rfl (fun ls hl => ?_)
  refine lv_iconst (v := 0) hx hb (dAt dX7_runBy 6 rfl) (by decide) ?_
  refine lv_istore (lv' := [(5, .int (0 : Int32)), (4, .int (0 : Int32)), (3, .int (-1 : Int32)), (2, .int (0 : Int32)), (0, .ref (gE E 0)), (1, .int x1)]) hx hb (dAt dX7_runBy 7 rfl) hl (by decide) rfl (fun ls hl => ?_)
  obtain ⟨n10, h⟩ := h
  exact kX7_runBy_10 hE C hr hlk n10 x1 (0 : Int32) (-1 : Int32) (0 : Int32) (0 : Int32) σ  _ _ _ hw (lv_sub hl [4, 5, 3, 2, 1, 0] rfl) h
def tX7_run : List (Nat × Instr × Nat) := [(0, .aload_n 0, 1), (1, .invokevirtual 219, 3), (4, .iload_n 1, 1), (5, .invokestatic 116, 3), (8, .ifCond .eq 11, 3), (11, .aload_n 0, 1), (12, .iload_n 1, 1), (13, .invokevirtual 250, 3), (16, .goto 5, 3), (19, .bipush (-2), 2), (21, .ireturn, 1)]
theorem dX7_run : dOk cX7_run tX7_run = true := by decide +kernel
abbrev rX7_run : Room := { frames := 7, cells := 0, slots := 0, locals := 159 }
def wX7_run (x1 : Int32) (σ : Mem) (Q : Int32 → Mem → Prop) : Prop := (wX7_find  σ (fun σ1 => (wX7_isTwo x1 σ1 (fun r5 σ5 => (((r5 = 0) → (Q (-2 : Int32) σ5)) ∧ ((¬ r5 = 0) → (wX7_runBy x1 σ5 (fun r13 σ13 => (Q r13 σ13)))))))))
set_option maxHeartbeats 4000000 in
set_option maxRecDepth 100000 in
theorem kX7_run (l : Launch) (E : wE) (hE : wM E) (x1 : Int32) (σ : Mem) (Q : Int32 → Mem → Prop) (h : wX7_run x1 σ Q) : Met l yX7_run (Cond.code yX7_run cX7_run 2 (some .int) :: TB) rX7_run (wPc E σ [.ref (gE E 0), .int x1]) (wQi E Q) 0 0 (wA E) := by
  refine wMet (by decide) hE.2.2 (Nat.le_of_ble_eq_true rfl) ?_
  intro p e s m args below meth c ls C hr hlk hl hw
  have hx := C.1.1
  have hb := C.1.2.1
  replace C : Cx p s m args c cX7_run 2 RX7 E (wA E) := C
  replace hl : lv_has ls 2 [(0, .ref (gE E 0)), (1, .int x1)] := hl
  unfold wX7_run at h
  refine lv_aload_n hx hb (dAt dX7_run 0 rfl) rfl (lv_at hl 0 rfl) ?_
  refine x_callv C hw (x_runV (As := []) (rest := []) C hw (kX7_find l E hE  σ _ h) mtX7_find lk_X7_219 (hE.1 0) (nM hE (by decide)) rfl ⟨by decide, by decide⟩ ⟨rfl, rfl⟩ rfl hl.1 rfl (Nat.le_of_ble_eq_true rfl) (dAt dX7_run 1 rfl) ⟨Nat.zero_le _, Nat.zero_le _⟩) (fun σ1 H locs h hw => ?_)
  refine lv_iload_n hx hb (dAt dX7_run 2 rfl) rfl (lv_at hl 1 rfl) ?_
  refine x_calli C hw (x_runS (As := [.int x1]) (rest := []) C hw (kX7_isTwo l E hE x1 σ1 _ h) mtX7_isTwo lk_X7_116 ⟨by decide, by decide⟩ ⟨rfl, rfl⟩ rfl hl.1 rfl (Nat.le_of_ble_eq_true rfl) (dAt dX7_run 3 rfl) ⟨Nat.zero_le _, Nat.zero_le _⟩) (fun r5 σ5 H locs h hw => ?_)
  refine lv_if_eq (tgt := 19) hx hb (dAt dX7_run 4 rfl) (by decide) (fun c8 => ?_) (fun c8 => ?_)
  · replace h := h.1 c8
    refine lv_bipush (v := -2) hx hb (dAt dX7_run 9 rfl) (by decide) ?_
    exact x_iret C hw hr hlk h (dAt dX7_run 10 rfl)
  · replace h := h.2 c8
    refine lv_aload_n hx hb (dAt dX7_run 5 rfl) rfl (lv_at hl 0 rfl) ?_
    refine lv_iload_n hx hb (dAt dX7_run 6 rfl) rfl (lv_at hl 1 rfl) ?_
    refine x_calli C hw (x_runV (As := [.int x1]) (rest := []) C hw (kX7_runBy l E hE x1 σ5 _ h) mtX7_runBy lk_X7_250 (hE.1 0) (nM hE (by decide)) rfl ⟨by decide, by decide⟩ ⟨rfl, rfl⟩ rfl hl.1 rfl (Nat.le_of_ble_eq_true rfl) (dAt dX7_run 7 rfl) ⟨Nat.zero_le _, Nat.zero_le _⟩) (fun r13 σ13 H locs h hw => ?_)
    refine lv_goto (tgt := 21) hx hb (dAt dX7_run 8 rfl) (by decide) ?_
    exact x_iret C hw hr hlk h (dAt dX7_run 10 rfl)
def tX7_bareNow : List (Nat × Instr × Nat) := [(0, .iconst (-1), 1), (1, .istore_n 1, 1), (2, .iconst 0, 1), (3, .istore_n 2, 1), (4, .iload_n 2, 1), (5, .bipush 24, 2), (7, .if_icmp .ge 24, 3), (10, .aload_n 0, 1), (11, .getfield 70, 3), (14, .iload_n 2, 1), (15, .iaload, 1), (16, .ifCond .ne 7, 3), (19, .iload_n 2, 1), (20, .goto 4, 3), (23, .iload_n 1, 1), (24, .istore_n 1, 1), (25, .iinc 2 1, 3), (28, .goto (-24), 3), (31, .iload_n 1, 1), (32, .ireturn, 1)]
theorem dX7_bareNow : dOk cX7_bareNow tX7_bareNow = true := by decide +kernel
abbrev rX7_bareNow : Room := { frames := 0, cells := 0, slots := 0, locals := 0 }
def wX7_bareNow_4 (Q : Int32 → Mem → Prop) : Nat → Int32 → Int32 → Mem → Prop
  | 0, _, _, _ => False
  | n + 1, x1, x2, σ => ((((24 : Int32) ≤ x2) → (Q x1 σ)) ∧ ((¬ (24 : Int32) ≤ x2) → (vp_in x2 24 ∧ (∀ x1_24 : Int32, x1_24 = (if (σ 21 (x2).toNatClampNeg) = 0 then x2 else x1) → (wX7_bareNow_4 Q n x1_24 (x2 + (1 : Int32)) σ)))))
def wX7_bareNow (σ : Mem) (Q : Int32 → Mem → Prop) : Prop := (∃ N4, wX7_bareNow_4 Q N4 (-1 : Int32) (0 : Int32) σ)
set_option maxHeartbeats 4000000 in
set_option maxRecDepth 100000 in
theorem kX7_bareNow_4 {p : Program} {l : Launch} {e : Env} {s : State} {m : MethodId} {args : Array Value} {below : List Frame} {meth : Method} {c : Code} {E : wE} (hE : wM E) (C : Cx p s m args c cX7_bareNow 3 RX7 E (wA E)) (hr : meth.sig.returnType = (some .int)) (hlk : meth.locks = false) {Q : Int32 → Mem → Prop} : ∀ (n : Nat) (x1 : Int32) (x2 : Int32) (σ : Mem) (H : Heap) (locs : List Loc) (ls : Array Slot), wd E (wA E) s σ H locs → lv_has ls 3 [(0, .ref (gE E 0)), (1, .int x1), (2, .int x2)] → wX7_bareNow_4 Q n x1 x2 σ → W p l e rX7_bareNow s m args below meth c H locs 0 0 (MQ below (wQi E Q) args s 0 0 (wA E)) (F0 m 4 ls []) := by
  have hx := C.1.1
  have hb := C.1.2.1
  intro n
  induction n with
  | zero =>
    intro x1 x2 σ  H locs ls hw hl h
    exact h.elim
  | succ n ih =>
    intro x1 x2 σ  H locs ls hw hl h
    rw [wX7_bareNow_4] at h
    refine lv_iload_n hx hb (dAt dX7_bareNow 4 rfl) rfl (lv_at hl 2 rfl) ?_
    refine lv_bipush (v := 24) hx hb (dAt dX7_bareNow 5 rfl) (by decide) ?_
    refine lv_icmp_ge (tgt := 31) hx hb (dAt dX7_bareNow 6 rfl) (by decide) (fun c7 => ?_) (fun c7 => ?_)
    · replace h := h.1 c7
      refine lv_iload_n hx hb (dAt dX7_bareNow 18 rfl) rfl (lv_at hl 1 rfl) ?_
      exact x_iret C hw hr hlk h (dAt dX7_bareNow 19 rfl)
    · replace h := h.2 c7
      refine lv_aload_n hx hb (dAt dX7_bareNow 7 rfl) rfl (lv_at hl 0 rfl) ?_
      refine x_getr C hw fl_X7_70 (hE.1 0) (nM hE (by decide)) rfl (dAt dX7_bareNow 8 rfl) ?_
      refine lv_iload_n hx hb (dAt dX7_bareNow 9 rfl) rfl (lv_at hl 2 rfl) ?_
      obtain ⟨z15, h⟩ := h
      refine x_ild C hw (hE.1 21) (nM hE (by decide)) z15 rfl (dAt dX7_bareNow 10 rfl) ?_
      refine x_dia (ls := ls) (pcJ := 24) (cnd := (σ 21 (x2).toNatClampNeg) = 0) (a := x2) (b := x1) ([]) ?_ (fun ht16 hf16 => ?_)
      · refine lv_topi (fun x1_24 ex1_24 => ?_)
        replace h := h x1_24 ex1_24
        refine lv_istore_n (lv' := [(1, .int x1_24), (0, .ref (gE E 0)), (2, .int x2)]) hx hb (dAt dX7_bareNow 15 rfl) rfl hl (by decide) rfl (fun ls hl => ?_)
        refine lv_iinc (v := (x2 + (1 : Int32))) (lv' := [(2, .int (x2 + (1 : Int32))), (1, .int x1_24), (0, .ref (gE E 0))]) hx hb (dAt dX7_bareNow 16 rfl) hl (k := 2) rfl rfl (by decide) rfl (fun ls hl => ?_)
        refine lv_goto (tgt := 4) hx hb (dAt dX7_bareNow 17 rfl) (by decide) ?_
        exact ih x1_24 (x2 + (1 : Int32)) σ  _ _ _ hw (lv_sub hl [2, 1, 0] rfl) h
      · refine lv_if_ne (tgt := 23) hx hb (dAt dX7_bareNow 11 rfl) (by decide) (fun c16 => ?_) (fun c16 => ?_)
        · refine lv_iload_n hx hb (dAt dX7_bareNow 14 rfl) rfl (lv_at hl 1 rfl) ?_
          exact hf16 c16
        · refine lv_iload_n hx hb (dAt dX7_bareNow 12 rfl) rfl (lv_at hl 2 rfl) ?_
          refine lv_goto (tgt := 24) hx hb (dAt dX7_bareNow 13 rfl) (by decide) ?_
          exact ht16 c16
set_option maxHeartbeats 4000000 in
set_option maxRecDepth 100000 in
theorem kX7_bareNow (l : Launch) (E : wE) (hE : wM E) (σ : Mem) (Q : Int32 → Mem → Prop) (h : wX7_bareNow  σ Q) : Met l yX7_bareNow (Cond.code yX7_bareNow cX7_bareNow 3 (some .int) :: TB) rX7_bareNow (wPc E σ [.ref (gE E 0)]) (wQi E Q) 0 0 (wA E) := by
  refine wMet (by decide) hE.2.2 (Nat.le_of_ble_eq_true rfl) ?_
  intro p e s m args below meth c ls C hr hlk hl hw
  have hx := C.1.1
  have hb := C.1.2.1
  replace C : Cx p s m args c cX7_bareNow 3 RX7 E (wA E) := C
  replace hl : lv_has ls 3 [(0, .ref (gE E 0))] := hl
  unfold wX7_bareNow at h
  refine lv_iconst (v := -1) hx hb (dAt dX7_bareNow 0 rfl) (by decide) ?_
  refine lv_istore_n (lv' := [(1, .int (-1 : Int32)), (0, .ref (gE E 0))]) hx hb (dAt dX7_bareNow 1 rfl) rfl hl (by decide) rfl (fun ls hl => ?_)
  refine lv_iconst (v := 0) hx hb (dAt dX7_bareNow 2 rfl) (by decide) ?_
  refine lv_istore_n (lv' := [(2, .int (0 : Int32)), (1, .int (-1 : Int32)), (0, .ref (gE E 0))]) hx hb (dAt dX7_bareNow 3 rfl) rfl hl (by decide) rfl (fun ls hl => ?_)
  obtain ⟨n4, h⟩ := h
  exact kX7_bareNow_4 hE C hr hlk n4 (-1 : Int32) (0 : Int32) σ  _ _ _ hw (lv_sub hl [2, 1, 0] rfl) h
def tX7_bare : List (Nat × Instr × Nat) := [(0, .aload_n 0, 1), (1, .invokevirtual 219, 3), (4, .aload_n 0, 1), (5, .invokevirtual 253, 3), (8, .ireturn, 1)]
theorem dX7_bare : dOk cX7_bare tX7_bare = true := by decide +kernel
abbrev rX7_bare : Room := { frames := 7, cells := 0, slots := 0, locals := 159 }
def wX7_bare (σ : Mem) (Q : Int32 → Mem → Prop) : Prop := (wX7_find  σ (fun σ1 => (wX7_bareNow  σ1 (fun r5 σ5 => (Q r5 σ5)))))
set_option maxHeartbeats 4000000 in
set_option maxRecDepth 100000 in
theorem kX7_bare (l : Launch) (E : wE) (hE : wM E) (σ : Mem) (Q : Int32 → Mem → Prop) (h : wX7_bare  σ Q) : Met l yX7_bare (Cond.code yX7_bare cX7_bare 1 (some .int) :: TB) rX7_bare (wPc E σ [.ref (gE E 0)]) (wQi E Q) 0 0 (wA E) := by
  refine wMet (by decide) hE.2.2 (Nat.le_of_ble_eq_true rfl) ?_
  intro p e s m args below meth c ls C hr hlk hl hw
  have hx := C.1.1
  have hb := C.1.2.1
  replace C : Cx p s m args c cX7_bare 1 RX7 E (wA E) := C
  replace hl : lv_has ls 1 [(0, .ref (gE E 0))] := hl
  unfold wX7_bare at h
  refine lv_aload_n hx hb (dAt dX7_bare 0 rfl) rfl (lv_at hl 0 rfl) ?_
  refine x_callv C hw (x_runV (As := []) (rest := []) C hw (kX7_find l E hE  σ _ h) mtX7_find lk_X7_219 (hE.1 0) (nM hE (by decide)) rfl ⟨by decide, by decide⟩ ⟨rfl, rfl⟩ rfl hl.1 rfl (Nat.le_of_ble_eq_true rfl) (dAt dX7_bare 1 rfl) ⟨Nat.zero_le _, Nat.zero_le _⟩) (fun σ1 H locs h hw => ?_)
  refine lv_aload_n hx hb (dAt dX7_bare 2 rfl) rfl (lv_at hl 0 rfl) ?_
  refine x_calli C hw (x_runV (As := []) (rest := []) C hw (kX7_bareNow l E hE  σ1 _ h) mtX7_bareNow lk_X7_253 (hE.1 0) (nM hE (by decide)) rfl ⟨by decide, by decide⟩ ⟨rfl, rfl⟩ rfl hl.1 rfl (Nat.le_of_ble_eq_true rfl) (dAt dX7_bare 3 rfl) ⟨Nat.zero_le _, Nat.zero_le _⟩) (fun r5 σ5 H locs h hw => ?_)
  exact x_iret C hw hr hlk h (dAt dX7_bare 4 rfl)
def tX7_oversOf : List (Nat × Instr × Nat) := [(0, .iconst 0, 1), (1, .istore_n 2, 1), (2, .iconst 0, 1), (3, .istore_n 3, 1), (4, .iload_n 3, 1), (5, .aload_n 0, 1), (6, .getfield 178, 3), (9, .if_icmp .ge 27, 3), (12, .iload_n 2, 1), (13, .aload_n 0, 1), (14, .getfield 49, 3), (17, .iload_n 3, 1), (18, .iaload, 1), (19, .iload_n 1, 1), (20, .if_icmp .ne 7, 3), (23, .iconst 1, 1), (24, .goto 4, 3), (27, .iconst 0, 1), (28, .iadd, 1), (29, .istore_n 2, 1), (30, .iinc 3 1, 3), (33, .goto (-29), 3), (36, .iload_n 2, 1), (37, .ireturn, 1)]
theorem dX7_oversOf : dOk cX7_oversOf tX7_oversOf = true := by decide +kernel
abbrev rX7_oversOf : Room := { frames := 0, cells := 0, slots := 0, locals := 0 }
def wX7_oversOf_4 (Q : Int32 → Mem → Prop) : Nat → Int32 → Int32 → Int32 → Mem → Prop
  | 0, _, _, _, _ => False
  | n + 1, x1, x2, x3, σ => ((((σ 0 20) ≤ x3) → (Q x2 σ)) ∧ ((¬ (σ 0 20) ≤ x3) → (vp_in x3 120 ∧ (∀ x2_29 : Int32, x2_29 = (x2 + (if (σ 14 (x3).toNatClampNeg) = x1 then (1 : Int32) else (0 : Int32))) → (wX7_oversOf_4 Q n x1 x2_29 (x3 + (1 : Int32)) σ)))))
def wX7_oversOf (x1 : Int32) (σ : Mem) (Q : Int32 → Mem → Prop) : Prop := (∃ N4, wX7_oversOf_4 Q N4 x1 (0 : Int32) (0 : Int32) σ)
set_option maxHeartbeats 4000000 in
set_option maxRecDepth 100000 in
theorem kX7_oversOf_4 {p : Program} {l : Launch} {e : Env} {s : State} {m : MethodId} {args : Array Value} {below : List Frame} {meth : Method} {c : Code} {E : wE} (hE : wM E) (C : Cx p s m args c cX7_oversOf 4 RX7 E (wA E)) (hr : meth.sig.returnType = (some .int)) (hlk : meth.locks = false) {Q : Int32 → Mem → Prop} : ∀ (n : Nat) (x1 : Int32) (x2 : Int32) (x3 : Int32) (σ : Mem) (H : Heap) (locs : List Loc) (ls : Array Slot), wd E (wA E) s σ H locs → lv_has ls 4 [(0, .ref (gE E 0)), (1, .int x1), (2, .int x2), (3, .int x3)] → wX7_oversOf_4 Q n x1 x2 x3 σ → W p l e rX7_oversOf s m args below meth c H locs 0 0 (MQ below (wQi E Q) args s 0 0 (wA E)) (F0 m 4 ls []) := by
  have hx := C.1.1
  have hb := C.1.2.1
  intro n
  induction n with
  | zero =>
    intro x1 x2 x3 σ  H locs ls hw hl h
    exact h.elim
  | succ n ih =>
    intro x1 x2 x3 σ  H locs ls hw hl h
    rw [wX7_oversOf_4] at h
    refine lv_iload_n hx hb (dAt dX7_oversOf 4 rfl) rfl (lv_at hl 3 rfl) ?_
    refine lv_aload_n hx hb (dAt dX7_oversOf 5 rfl) rfl (lv_at hl 0 rfl) ?_
    refine x_geti C hw fl_X7_178 (hE.1 0) (nM hE (by decide)) rfl (dAt dX7_oversOf 6 rfl) ?_
    refine lv_icmp_ge (tgt := 36) hx hb (dAt dX7_oversOf 7 rfl) (by decide) (fun c9 => ?_) (fun c9 => ?_)
    · replace h := h.1 c9
      refine lv_iload_n hx hb (dAt dX7_oversOf 22 rfl) rfl (lv_at hl 2 rfl) ?_
      exact x_iret C hw hr hlk h (dAt dX7_oversOf 23 rfl)
    · replace h := h.2 c9
      refine lv_iload_n hx hb (dAt dX7_oversOf 8 rfl) rfl (lv_at hl 2 rfl) ?_
      refine lv_aload_n hx hb (dAt dX7_oversOf 9 rfl) rfl (lv_at hl 0 rfl) ?_
      refine x_getr C hw fl_X7_49 (hE.1 0) (nM hE (by decide)) rfl (dAt dX7_oversOf 10 rfl) ?_
      refine lv_iload_n hx hb (dAt dX7_oversOf 11 rfl) rfl (lv_at hl 3 rfl) ?_
      obtain ⟨z18, h⟩ := h
      refine x_ild C hw (hE.1 14) (nM hE (by decide)) z18 rfl (dAt dX7_oversOf 12 rfl) ?_
      refine lv_iload_n hx hb (dAt dX7_oversOf 13 rfl) rfl (lv_at hl 1 rfl) ?_
      refine x_dia (ls := ls) (pcJ := 28) (cnd := (σ 14 (x3).toNatClampNeg) = x1) (a := (1 : Int32)) (b := (0 : Int32)) ([.int x2]) ?_ (fun ht20 hf20 => ?_)
      · refine lv_iadd hx hb (dAt dX7_oversOf 18 rfl) ?_
        refine lv_topi (fun x2_29 ex2_29 => ?_)
        replace h := h x2_29 ex2_29
        refine lv_istore_n (lv' := [(2, .int x2_29), (0, .ref (gE E 0)), (1, .int x1), (3, .int x3)]) hx hb (dAt dX7_oversOf 19 rfl) rfl hl (by decide) rfl (fun ls hl => ?_)
        refine lv_iinc (v := (x3 + (1 : Int32))) (lv' := [(3, .int (x3 + (1 : Int32))), (2, .int x2_29), (0, .ref (gE E 0)), (1, .int x1)]) hx hb (dAt dX7_oversOf 20 rfl) hl (k := 3) rfl rfl (by decide) rfl (fun ls hl => ?_)
        refine lv_goto (tgt := 4) hx hb (dAt dX7_oversOf 21 rfl) (by decide) ?_
        exact ih x1 x2_29 (x3 + (1 : Int32)) σ  _ _ _ hw (lv_sub hl [2, 3, 1, 0] rfl) h
      · refine lv_icmp_ne (tgt := 27) hx hb (dAt dX7_oversOf 14 rfl) (by decide) (fun c20 => ?_) (fun c20 => ?_)
        · refine lv_iconst (v := 0) hx hb (dAt dX7_oversOf 17 rfl) (by decide) ?_
          exact hf20 c20
        · refine lv_iconst (v := 1) hx hb (dAt dX7_oversOf 15 rfl) (by decide) ?_
          refine lv_goto (tgt := 28) hx hb (dAt dX7_oversOf 16 rfl) (by decide) ?_
          exact ht20 c20
set_option maxHeartbeats 4000000 in
set_option maxRecDepth 100000 in
theorem kX7_oversOf (l : Launch) (E : wE) (hE : wM E) (x1 : Int32) (σ : Mem) (Q : Int32 → Mem → Prop) (h : wX7_oversOf x1 σ Q) : Met l yX7_oversOf (Cond.code yX7_oversOf cX7_oversOf 4 (some .int) :: TB) rX7_oversOf (wPc E σ [.ref (gE E 0), .int x1]) (wQi E Q) 0 0 (wA E) := by
  refine wMet (by decide) hE.2.2 (Nat.le_of_ble_eq_true rfl) ?_
  intro p e s m args below meth c ls C hr hlk hl hw
  have hx := C.1.1
  have hb := C.1.2.1
  replace C : Cx p s m args c cX7_oversOf 4 RX7 E (wA E) := C
  replace hl : lv_has ls 4 [(0, .ref (gE E 0)), (1, .int x1)] := hl
  unfold wX7_oversOf at h
  refine lv_iconst (v := 0) hx hb (dAt dX7_oversOf 0 rfl) (by decide) ?_
  refine lv_istore_n (lv' := [(2, .int (0 : Int32)), (0, .ref (gE E 0)), (1, .int x1)]) hx hb (dAt dX7_oversOf 1 rfl) rfl hl (by decide) rfl (fun ls hl => ?_)
  refine lv_iconst (v := 0) hx hb (dAt dX7_oversOf 2 rfl) (by decide) ?_
  refine lv_istore_n (lv' := [(3, .int (0 : Int32)), (2, .int (0 : Int32)), (0, .ref (gE E 0)), (1, .int x1)]) hx hb (dAt dX7_oversOf 3 rfl) rfl hl (by decide) rfl (fun ls hl => ?_)
  obtain ⟨n4, h⟩ := h
  exact kX7_oversOf_4 hE C hr hlk n4 x1 (0 : Int32) (0 : Int32) σ  _ _ _ hw (lv_sub hl [2, 3, 1, 0] rfl) h
def tX7_topNow : List (Nat × Instr × Nat) := [(0, .iconst (-1), 1), (1, .istore_n 1, 1), (2, .iconst 0, 1), (3, .istore_n 2, 1), (4, .iconst 0, 1), (5, .istore_n 3, 1), (6, .iload_n 3, 1), (7, .aload_n 0, 1), (8, .getfield 129, 3), (11, .if_icmp .ge 35, 3), (14, .aload_n 0, 1), (15, .iload_n 3, 1), (16, .invokevirtual 256, 3), (19, .istore 4, 2), (21, .iload 4, 2), (23, .iload_n 2, 1), (24, .if_icmp .le 7, 3), (27, .iload_n 3, 1), (28, .goto 4, 3), (31, .iload_n 1, 1), (32, .istore_n 1, 1), (33, .iload 4, 2), (35, .iload_n 2, 1), (36, .invokestatic 247, 3), (39, .istore_n 2, 1), (40, .iinc 3 1, 3), (43, .goto (-37), 3), (46, .iload_n 1, 1), (47, .ireturn, 1)]
theorem dX7_topNow : dOk cX7_topNow tX7_topNow = true := by decide +kernel
abbrev rX7_topNow : Room := { frames := 1, cells := 0, slots := 0, locals := 23 }
def wX7_topNow_6 (Q : Int32 → Mem → Prop) : Nat → Int32 → Int32 → Int32 → Mem → Prop
  | 0, _, _, _, _ => False
  | n + 1, x1, x2, x3, σ => ((((σ 0 7) ≤ x3) → (Q x1 σ)) ∧ ((¬ (σ 0 7) ≤ x3) → (wX7_oversOf x3 σ (fun r16 σ16 => (∀ x1_32 : Int32, x1_32 = (if r16 ≤ x2 then x1 else x3) → (wX7_greater r16 x2 σ16 (fun r36 σ36 => (wX7_topNow_6 Q n x1_32 r36 (x3 + (1 : Int32)) σ36))))))))
def wX7_topNow (σ : Mem) (Q : Int32 → Mem → Prop) : Prop := (∃ N6, wX7_topNow_6 Q N6 (-1 : Int32) (0 : Int32) (0 : Int32) σ)
set_option maxHeartbeats 4000000 in
set_option maxRecDepth 100000 in
theorem kX7_topNow_6 {p : Program} {l : Launch} {e : Env} {s : State} {m : MethodId} {args : Array Value} {below : List Frame} {meth : Method} {c : Code} {E : wE} (hE : wM E) (C : Cx p s m args c cX7_topNow 5 RX7 E (wA E)) (hr : meth.sig.returnType = (some .int)) (hlk : meth.locks = false) {Q : Int32 → Mem → Prop} : ∀ (n : Nat) (x1 : Int32) (x2 : Int32) (x3 : Int32) (σ : Mem) (H : Heap) (locs : List Loc) (ls : Array Slot), wd E (wA E) s σ H locs → lv_has ls 5 [(0, .ref (gE E 0)), (1, .int x1), (2, .int x2), (3, .int x3)] → wX7_topNow_6 Q n x1 x2 x3 σ → W p l e rX7_topNow s m args below meth c H locs 0 0 (MQ below (wQi E Q) args s 0 0 (wA E)) (F0 m 6 ls []) := by
  have hx := C.1.1
  have hb := C.1.2.1
  intro n
  induction n with
  | zero =>
    intro x1 x2 x3 σ  H locs ls hw hl h
    exact h.elim
  | succ n ih =>
    intro x1 x2 x3 σ  H locs ls hw hl h
    rw [wX7_topNow_6] at h
    refine lv_iload_n hx hb (dAt dX7_topNow 6 rfl) rfl (lv_at hl 3 rfl) ?_
    refine lv_aload_n hx hb (dAt dX7_topNow 7 rfl) rfl (lv_at hl 0 rfl) ?_
    refine x_geti C hw fl_X7_129 (hE.1 0) (nM hE (by decide)) rfl (dAt dX7_topNow 8 rfl) ?_
    refine lv_icmp_ge (tgt := 46) hx hb (dAt dX7_topNow 9 rfl) (by decide) (fun c11 => ?_) (fun c11 => ?_)
    · replace h := h.1 c11
      refine lv_iload_n hx hb (dAt dX7_topNow 27 rfl) rfl (lv_at hl 1 rfl) ?_
      exact x_iret C hw hr hlk h (dAt dX7_topNow 28 rfl)
    · replace h := h.2 c11
      refine lv_aload_n hx hb (dAt dX7_topNow 10 rfl) rfl (lv_at hl 0 rfl) ?_
      refine lv_iload_n hx hb (dAt dX7_topNow 11 rfl) rfl (lv_at hl 3 rfl) ?_
      refine x_calli C hw (x_runV (As := [.int x3]) (rest := []) C hw (kX7_oversOf l E hE x3 σ _ h) mtX7_oversOf lk_X7_256 (hE.1 0) (nM hE (by decide)) rfl ⟨by decide, by decide⟩ ⟨rfl, rfl⟩ rfl hl.1 rfl (Nat.le_of_ble_eq_true rfl) (dAt dX7_topNow 12 rfl) ⟨Nat.zero_le _, Nat.zero_le _⟩) (fun r16 σ16 H locs h hw => ?_)
      refine lv_istore (lv' := [(4, .int r16), (0, .ref (gE E 0)), (1, .int x1), (2, .int x2), (3, .int x3)]) hx hb (dAt dX7_topNow 13 rfl) hl (by decide) rfl (fun ls hl => ?_)
      refine lv_iload hx hb (dAt dX7_topNow 14 rfl) (lv_at hl 0 rfl) ?_
      refine lv_iload_n hx hb (dAt dX7_topNow 15 rfl) rfl (lv_at hl 3 rfl) ?_
      refine x_dia (ls := ls) (pcJ := 32) (cnd := r16 ≤ x2) (a := x1) (b := x3) ([]) ?_ (fun ht24 hf24 => ?_)
      · refine lv_topi (fun x1_32 ex1_32 => ?_)
        replace h := h x1_32 ex1_32
        refine lv_istore_n (lv' := [(1, .int x1_32), (4, .int r16), (0, .ref (gE E 0)), (2, .int x2), (3, .int x3)]) hx hb (dAt dX7_topNow 20 rfl) rfl hl (by decide) rfl (fun ls hl => ?_)
        refine lv_iload hx hb (dAt dX7_topNow 21 rfl) (lv_at hl 1 rfl) ?_
        refine lv_iload_n hx hb (dAt dX7_topNow 22 rfl) rfl (lv_at hl 3 rfl) ?_
        refine x_calli C hw (x_runS (As := [.int r16, .int x2]) (rest := []) C hw (kX7_greater l E hE r16 x2 σ16 _ h) mtX7_greater lk_X7_247 ⟨by decide, by decide⟩ ⟨rfl, rfl⟩ rfl hl.1 rfl (Nat.le_of_ble_eq_true rfl) (dAt dX7_topNow 23 rfl) ⟨Nat.zero_le _, Nat.zero_le _⟩) (fun r36 σ36 H locs h hw => ?_)
        refine lv_istore_n (lv' := [(2, .int r36), (1, .int x1_32), (4, .int r16), (0, .ref (gE E 0)), (3, .int x3)]) hx hb (dAt dX7_topNow 24 rfl) rfl hl (by decide) rfl (fun ls hl => ?_)
        refine lv_iinc (v := (x3 + (1 : Int32))) (lv' := [(3, .int (x3 + (1 : Int32))), (2, .int r36), (1, .int x1_32), (4, .int r16), (0, .ref (gE E 0))]) hx hb (dAt dX7_topNow 25 rfl) hl (k := 4) rfl rfl (by decide) rfl (fun ls hl => ?_)
        refine lv_goto (tgt := 6) hx hb (dAt dX7_topNow 26 rfl) (by decide) ?_
        exact ih x1_32 r36 (x3 + (1 : Int32)) σ36  _ _ _ hw (lv_sub hl [4, 2, 1, 0] rfl) h
      · refine lv_icmp_le (tgt := 31) hx hb (dAt dX7_topNow 16 rfl) (by decide) (fun c24 => ?_) (fun c24 => ?_)
        · refine lv_iload_n hx hb (dAt dX7_topNow 19 rfl) rfl (lv_at hl 2 rfl) ?_
          exact ht24 c24
        · refine lv_iload_n hx hb (dAt dX7_topNow 17 rfl) rfl (lv_at hl 4 rfl) ?_
          refine lv_goto (tgt := 32) hx hb (dAt dX7_topNow 18 rfl) (by decide) ?_
          exact hf24 c24
set_option maxHeartbeats 4000000 in
set_option maxRecDepth 100000 in
theorem kX7_topNow (l : Launch) (E : wE) (hE : wM E) (σ : Mem) (Q : Int32 → Mem → Prop) (h : wX7_topNow  σ Q) : Met l yX7_topNow (Cond.code yX7_topNow cX7_topNow 5 (some .int) :: TB) rX7_topNow (wPc E σ [.ref (gE E 0)]) (wQi E Q) 0 0 (wA E) := by
  refine wMet (by decide) hE.2.2 (Nat.le_of_ble_eq_true rfl) ?_
  intro p e s m args below meth c ls C hr hlk hl hw
  have hx := C.1.1
  have hb := C.1.2.1
  replace C : Cx p s m args c cX7_topNow 5 RX7 E (wA E) := C
  replace hl : lv_has ls 5 [(0, .ref (gE E 0))] := hl
  unfold wX7_topNow at h
  refine lv_iconst (v := -1) hx hb (dAt dX7_topNow 0 rfl) (by decide) ?_
  refine lv_istore_n (lv' := [(1, .int (-1 : Int32)), (0, .ref (gE E 0))]) hx hb (dAt dX7_topNow 1 rfl) rfl hl (by decide) rfl (fun ls hl => ?_)
  refine lv_iconst (v := 0) hx hb (dAt dX7_topNow 2 rfl) (by decide) ?_
  refine lv_istore_n (lv' := [(2, .int (0 : Int32)), (1, .int (-1 : Int32)), (0, .ref (gE E 0))]) hx hb (dAt dX7_topNow 3 rfl) rfl hl (by decide) rfl (fun ls hl => ?_)
  refine lv_iconst (v := 0) hx hb (dAt dX7_topNow 4 rfl) (by decide) ?_
  refine lv_istore_n (lv' := [(3, .int (0 : Int32)), (2, .int (0 : Int32)), (1, .int (-1 : Int32)), (0, .ref (gE E 0))]) hx hb (dAt dX7_topNow 5 rfl) rfl hl (by decide) rfl (fun ls hl => ?_)
  obtain ⟨n6, h⟩ := h
  exact kX7_topNow_6 hE C hr hlk n6 (-1 : Int32) (0 : Int32) (0 : Int32) σ  _ _ _ hw (lv_sub hl [3, 2, 1, 0] rfl) h
