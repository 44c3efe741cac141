def tX6_spare : List (Nat × Instr × Nat) := [(0, .iload_n 1, 1), (1, .iconst (-1), 1), (2, .if_icmp .lt 8, 3), (5, .iload_n 1, 1), (6, .iconst 1, 1), (7, .if_icmp .le 6, 3), (10, .bipush (-2), 2), (12, .ireturn, 1), (13, .aload_n 0, 1), (14, .getfield 28, 3), (17, .getfield 217, 3), (20, .istore_n 2, 1), (21, .aload_n 0, 1), (22, .iload_n 2, 1), (23, .invokevirtual 220, 3), (26, .bipush 23, 2), (28, .invokestatic 213, 3), (31, .ifCond .eq 14, 3), (34, .iload_n 1, 1), (35, .iconst (-1), 1), (36, .if_icmp .ne 7, 3), (39, .iconst 0, 1), (40, .goto 4, 3), (43, .iconst (-1), 1), (44, .ireturn, 1), (45, .iconst 0, 1), (46, .istore_n 3, 1), (47, .iload_n 3, 1), (48, .aload_n 0, 1), (49, .getfield 21, 3), (52, .getfield 115, 3), (55, .if_icmp .ge 51, 3), (58, .iload_n 2, 1), (59, .iconst 1, 1), (60, .iload_n 3, 1), (61, .ishl, 1), (62, .iconst (-1), 1), (63, .ixor, 1), (64, .iand, 1), (65, .istore 4, 2), (67, .aload_n 0, 1), (68, .iload 4, 2), (70, .invokevirtual 220, 3), (73, .bipush 23, 2), (75, .invokestatic 213, 3), (78, .ifCond .eq 22, 3), (81, .iload_n 1, 1), (82, .iconst (-1), 1), (83, .if_icmp .ne 7, 3), (86, .iconst 1, 1), (87, .goto 12, 3), (90, .iload_n 1, 1), (91, .ifCond .ne 7, 3), (94, .iload_n 3, 1), (95, .goto 4, 3), (98, .iconst (-1), 1), (99, .ireturn, 1), (100, .iinc 3 1, 3), (103, .goto (-56), 3), (106, .iconst 0, 1), (107, .istore_n 3, 1), (108, .iload_n 3, 1), (109, .aload_n 0, 1), (110, .getfield 21, 3), (113, .getfield 115, 3), (116, .if_icmp .ge 82, 3), (119, .iload_n 3, 1), (120, .iconst 1, 1), (121, .iadd, 1), (122, .istore 4, 2), (124, .iload 4, 2), (126, .aload_n 0, 1), (127, .getfield 21, 3), (130, .getfield 115, 3), (133, .if_icmp .ge 59, 3), (136, .iload_n 2, 1), (137, .iconst 1, 1), (138, .iload_n 3, 1), (139, .ishl, 1), (140, .iconst (-1), 1), (141, .ixor, 1), (142, .iand, 1), (143, .iconst 1, 1), (144, .iload 4, 2), (146, .ishl, 1), (147, .iconst (-1), 1), (148, .ixor, 1), (149, .iand, 1), (150, .istore 5, 2), (152, .aload_n 0, 1), (153, .iload 5, 2), (155, .invokevirtual 220, 3), (158, .bipush 23, 2), (160, .invokestatic 213, 3), (163, .ifCond .eq 23, 3), (166, .iload_n 1, 1), (167, .iconst (-1), 1), (168, .if_icmp .ne 7, 3), (171, .iconst 2, 1), (172, .goto 13, 3), (175, .iload_n 1, 1), (176, .ifCond .ne 7, 3), (179, .iload_n 3, 1), (180, .goto 5, 3), (183, .iload 4, 2), (185, .ireturn, 1), (186, .iinc 4 1, 3), (189, .goto (-65), 3), (192, .iinc 3 1, 3), (195, .goto (-87), 3), (198, .iconst (-1), 1), (199, .ireturn, 1)]
theorem dX6_spare : dOk cX6_spare tX6_spare = true := by decide +kernel
abbrev rX6_spare : Room := { frames := 4, cells := 0, slots := 0, locals := 115 }
def wX6_spare_166 (Q : Int32 → Mem → Prop) (x1 : Int32) (x3 : Int32) (x4 : Int32) (σ : Mem) : Prop := (Q (if x1 = (-1 : Int32) then (2 : Int32) else (if x1 = 0 then x3 else x4)) σ)
def wX6_spare_124 (K108 : Int32 → Int32 → Int32 → Mem → Prop) (Q : Int32 → Mem → Prop) : Nat → Int32 → Int32 → Int32 → Int32 → Mem → Prop
  | 0, _, _, _, _, _ => False
  | n + 1, x1, x2, x3, x4, σ => ((((σ 6 3) ≤ x4) → (K108 x1 x2 (x3 + (1 : Int32)) σ)) ∧ ((¬ (σ 6 3) ≤ x4) → (∀ x5_150 : Int32, x5_150 = ((x2 &&& (((1 : Int32) <<< (x3 &&& 31)) ^^^ (-1 : Int32))) &&& (((1 : Int32) <<< (x4 &&& 31)) ^^^ (-1 : Int32))) → (wX6_bareBeatsWith x5_150 σ (fun r155 σ155 => (wX6_has r155 (23 : Int32) σ155 (fun r160 σ160 => (((r160 = 0) → (wX6_spare_124 K108 Q n x1 x2 x3 (x4 + (1 : Int32)) σ160)) ∧ ((¬ r160 = 0) → (wX6_spare_166 Q x1 x3 x4 σ160))))))))))
def wX6_spare_108 (Q : Int32 → Mem → Prop) : Nat → Int32 → Int32 → Int32 → Mem → Prop
  | 0, _, _, _, _ => False
  | n + 1, x1, x2, x3, σ => ((((σ 6 3) ≤ x3) → (Q (-1 : Int32) σ)) ∧ ((¬ (σ 6 3) ≤ x3) → (∀ x4_122 : Int32, x4_122 = (x3 + (1 : Int32)) → (∃ N124, wX6_spare_124 (fun x1 x2 x3 ρ => wX6_spare_108 Q n x1 x2 x3 ρ) Q N124 x1 x2 x3 x4_122 σ))))
def wX6_spare_81 (Q : Int32 → Mem → Prop) (x1 : Int32) (x3 : Int32) (σ : Mem) : Prop := (Q (if x1 = (-1 : Int32) then (1 : Int32) else (if x1 = 0 then x3 else (-1 : Int32))) σ)
def wX6_spare_47 (Q : Int32 → Mem → Prop) : Nat → Int32 → Int32 → Int32 → Mem → Prop
  | 0, _, _, _, _ => False
  | n + 1, x1, x2, x3, σ => ((((σ 6 3) ≤ x3) → (∃ N108, wX6_spare_108 Q N108 x1 x2 (0 : Int32) σ)) ∧ ((¬ (σ 6 3) ≤ x3) → (∀ x4_65 : Int32, x4_65 = (x2 &&& (((1 : Int32) <<< (x3 &&& 31)) ^^^ (-1 : Int32))) → (wX6_bareBeatsWith x4_65 σ (fun r70 σ70 => (wX6_has r70 (23 : Int32) σ70 (fun r75 σ75 => (((r75 = 0) → (wX6_spare_47 Q n x1 x2 (x3 + (1 : Int32)) σ75)) ∧ ((¬ r75 = 0) → (wX6_spare_81 Q x1 x3 σ75))))))))))
def wX6_spare (x1 : Int32) (σ : Mem) (Q : Int32 → Mem → Prop) : Prop := (((x1 < (-1 : Int32)) → (Q (-2 : Int32) σ)) ∧ ((¬ x1 < (-1 : Int32)) → (((x1 ≤ (1 : Int32)) → (∀ x2_20 : Int32, x2_20 = (σ 10 6) → (wX6_bareBeatsWith x2_20 σ (fun r23 σ23 => (wX6_has r23 (23 : Int32) σ23 (fun r28 σ28 => (((r28 = 0) → (∃ N47, wX6_spare_47 Q N47 x1 x2_20 (0 : Int32) σ28)) ∧ ((¬ r28 = 0) → (Q (if x1 = (-1 : Int32) then (0 : Int32) else (-1 : Int32)) σ28))))))))) ∧ ((¬ x1 ≤ (1 : Int32)) → (Q (-2 : Int32) σ)))))
set_option maxHeartbeats 4000000 in
set_option maxRecDepth 100000 in
theorem kX6_spare_166 {p : Program} {l : Launch} {e : Env} {s : State} {m : MethodId} {args : Array Value} {below : List Frame} {meth : Method} {c : Code} {E : wE} (hE : wX E) (C : Cx p s m args c cX6_spare 6 RX6 E (wA E)) (hr : meth.sig.returnType = (some .int)) (hlk : meth.locks = false) {Q : Int32 → Mem → Prop} : ∀ (x1 : Int32) (x3 : Int32) (x4 : Int32) (σ : Mem) (H : Heap) (locs : List Loc) (ls : Array Slot), wd E (wA E) s σ H locs → lv_has ls 6 [(1, .int x1), (3, .int x3), (4, .int x4)] → wX6_spare_166 Q x1 x3 x4 σ → W p l e rX6_spare s m args below meth c H locs 0 0 (MQ below (wQi E Q) args s 0 0 (wA E)) (F0 m 166 ls []) := by
  have hx := C.1.1
  have hb := C.1.2.1
  intro x1 x3 x4 σ  H locs ls hw hl h
  unfold wX6_spare_166 at h
  refine lv_iload_n hx hb (dAt dX6_spare 95 rfl) rfl (lv_at hl 0 rfl) ?_
  refine lv_iconst (v := -1) hx hb (dAt dX6_spare 96 rfl) (by decide) ?_
  refine x_dia (ls := ls) (pcJ := 185) (cnd := x1 = (-1 : Int32)) (a := (2 : Int32)) (b := (if x1 = 0 then x3 else x4)) ([]) ?_ (fun ht168 hf168 => ?_)
  · exact x_iret C hw hr hlk h (dAt dX6_spare 105 rfl)
  · refine lv_icmp_ne (tgt := 175) hx hb (dAt dX6_spare 97 rfl) (by decide) (fun c168 => ?_) (fun c168 => ?_)
    · refine lv_iload_n hx hb (dAt dX6_spare 100 rfl) rfl (lv_at hl 0 rfl) ?_
      refine x_dia (ls := ls) _ (hf168 c168) (fun ht168_168t hf168_168t => ?_)
      refine lv_if_ne (tgt := 183) hx hb (dAt dX6_spare 101 rfl) (by decide) (fun c176 => ?_) (fun c176 => ?_)
      · refine lv_iload hx hb (dAt dX6_spare 104 rfl) (lv_at hl 2 rfl) ?_
        exact hf168_168t c176
      · refine lv_iload_n hx hb (dAt dX6_spare 102 rfl) rfl (lv_at hl 1 rfl) ?_
        refine lv_goto (tgt := 185) hx hb (dAt dX6_spare 103 rfl) (by decide) ?_
        exact ht168_168t c176
    · refine lv_iconst (v := 2) hx hb (dAt dX6_spare 98 rfl) (by decide) ?_
      refine lv_goto (tgt := 185) hx hb (dAt dX6_spare 99 rfl) (by decide) ?_
      exact ht168 c168
set_option maxHeartbeats 4000000 in
set_option maxRecDepth 100000 in
theorem kX6_spare_124 {p : Program} {l : Launch} {e : Env} {s : State} {m : MethodId} {args : Array Value} {below : List Frame} {meth : Method} {c : Code} {E : wE} (hE : wX E) (C : Cx p s m args c cX6_spare 6 RX6 E (wA E)) (hr : meth.sig.returnType = (some .int)) (hlk : meth.locks = false) {Q : Int32 → Mem → Prop} {K108 : Int32 → Int32 → Int32 → Mem → Prop} (hK108 : ∀ (x1 : Int32) (x2 : Int32) (x3 : Int32) (σ : Mem) (H : Heap) (locs : List Loc) (ls : Array Slot), wd E (wA E) s σ H locs → lv_has ls 6 [(0, .ref (gE E 0)), (1, .int x1), (2, .int x2), (3, .int x3)] → K108 x1 x2 x3 σ → W p l e rX6_spare s m args below meth c H locs 0 0 (MQ below (wQi E Q) args s 0 0 (wA E)) (F0 m 108 ls [])) : ∀ (n : Nat) (x1 : Int32) (x2 : Int32) (x3 : Int32) (x4 : Int32) (σ : Mem) (H : Heap) (locs : List Loc) (ls : Array Slot), wd E (wA E) s σ H locs → lv_has ls 6 [(0, .ref (gE E 0)), (1, .int x1), (2, .int x2), (3, .int x3), (4, .int x4)] → wX6_spare_124 K108 Q n x1 x2 x3 x4 σ → W p l e rX6_spare s m args below meth c H locs 0 0 (MQ below (wQi E Q) args s 0 0 (wA E)) (F0 m 124 ls []) := by
  have hx := C.1.1
  have hb := C.1.2.1
  intro n
  induction n with
  | zero =>
    intro x1 x2 x3 x4 σ  H locs ls hw hl h
    exact h.elim
  | succ n ih =>
    intro x1 x2 x3 x4 σ  H locs ls hw hl h
    rw [wX6_spare_124] at h
    refine lv_iload hx hb (dAt dX6_spare 70 rfl) (lv_at hl 4 rfl) ?_
    refine lv_aload_n hx hb (dAt dX6_spare 71 rfl) rfl (lv_at hl 0 rfl) ?_
    refine x_getr C hw fl_X6_21 (hE.1 0) (nX hE (by decide)) rfl (dAt dX6_spare 72 rfl) ?_
    refine x_getiN C hw fl_X6_115 (hE.1 6) (nX hE (by decide)) rfl (dAt dX6_spare 73 rfl) ?_
    refine lv_icmp_ge (tgt := 192) hx hb (dAt dX6_spare 74 rfl) (by decide) (fun c133 => ?_) (fun c133 => ?_)
    · replace h := h.1 c133
      refine lv_iinc (v := (x3 + (1 : Int32))) (lv' := [(3, .int (x3 + (1 : Int32))), (0, .ref (gE E 0)), (1, .int x1), (2, .int x2), (4, .int x4)]) hx hb (dAt dX6_spare 108 rfl) hl (k := 3) rfl rfl (by decide) rfl (fun ls hl => ?_)
      refine lv_goto (tgt := 108) hx hb (dAt dX6_spare 109 rfl) (by decide) ?_
      exact hK108 x1 x2 (x3 + (1 : Int32)) σ  _ _ _ hw (lv_sub hl [1, 2, 3, 0] rfl) h
    · replace h := h.2 c133
      refine lv_iload_n hx hb (dAt dX6_spare 75 rfl) rfl (lv_at hl 2 rfl) ?_
      refine lv_iconst (v := 1) hx hb (dAt dX6_spare 76 rfl) (by decide) ?_
      refine lv_iload_n hx hb (dAt dX6_spare 77 rfl) rfl (lv_at hl 3 rfl) ?_
      refine lv_ishl hx hb (dAt dX6_spare 78 rfl) ?_
      refine lv_iconst (v := -1) hx hb (dAt dX6_spare 79 rfl) (by decide) ?_
      refine lv_ixor hx hb (dAt dX6_spare 80 rfl) ?_
      refine lv_iand hx hb (dAt dX6_spare 81 rfl) ?_
      refine lv_iconst (v := 1) hx hb (dAt dX6_spare 82 rfl) (by decide) ?_
      refine lv_iload hx hb (dAt dX6_spare 83 rfl) (lv_at hl 4 rfl) ?_
      refine lv_ishl hx hb (dAt dX6_spare 84 rfl) ?_
      refine lv_iconst (v := -1) hx hb (dAt dX6_spare 85 rfl) (by decide) ?_
      refine lv_ixor hx hb (dAt dX6_spare 86 rfl) ?_
      refine lv_iand hx hb (dAt dX6_spare 87 rfl) ?_
      refine lv_topi (fun x5_150 ex5_150 => ?_)
      replace h := h x5_150 ex5_150
      refine lv_istore (lv' := [(5, .int x5_150), (0, .ref (gE E 0)), (1, .int x1), (2, .int x2), (3, .int x3), (4, .int x4)]) hx hb (dAt dX6_spare 88 rfl) hl (by decide) rfl (fun ls hl => ?_)
      refine lv_aload_n hx hb (dAt dX6_spare 89 rfl) rfl (lv_at hl 1 rfl) ?_
      refine lv_iload hx hb (dAt dX6_spare 90 rfl) (lv_at hl 0 rfl) ?_
      refine x_calli C hw (x_runV (As := [.int x5_150]) (rest := []) C hw (kX6_bareBeatsWith l E hE x5_150 σ _ h) mtX6_bareBeatsWith lk_X6_220 (hE.1 0) (nX hE (by decide)) rfl ⟨by decide, by decide⟩ ⟨rfl, rfl⟩ rfl hl.1 rfl (Nat.le_of_ble_eq_true rfl) (dAt dX6_spare 91 rfl) ⟨Nat.zero_le _, Nat.zero_le _⟩) (fun r155 σ155 H locs h hw => ?_)
      refine lv_bipush (v := 23) hx hb (dAt dX6_spare 92 rfl) (by decide) ?_
      refine x_calli C hw (x_runS (As := [.int r155, .int (23 : Int32)]) (rest := []) C hw (kX6_has l E hE r155 (23 : Int32) σ155 _ h) mtX6_has lk_X6_213 ⟨by decide, by decide⟩ ⟨rfl, rfl⟩ rfl hl.1 rfl (Nat.le_of_ble_eq_true rfl) (dAt dX6_spare 93 rfl) ⟨Nat.zero_le _, Nat.zero_le _⟩) (fun r160 σ160 H locs h hw => ?_)
      refine lv_if_eq (tgt := 186) hx hb (dAt dX6_spare 94 rfl) (by decide) (fun c163 => ?_) (fun c163 => ?_)
      · replace h := h.1 c163
        refine lv_iinc (v := (x4 + (1 : Int32))) (lv' := [(4, .int (x4 + (1 : Int32))), (5, .int x5_150), (0, .ref (gE E 0)), (1, .int x1), (2, .int x2), (3, .int x3)]) hx hb (dAt dX6_spare 106 rfl) hl (k := 5) rfl rfl (by decide) rfl (fun ls hl => ?_)
        refine lv_goto (tgt := 124) hx hb (dAt dX6_spare 107 rfl) (by decide) ?_
        exact ih x1 x2 x3 (x4 + (1 : Int32)) σ160  _ _ _ hw (lv_sub hl [2, 3, 4, 5, 0] rfl) h
      · replace h := h.2 c163
        exact kX6_spare_166 hE C hr hlk x1 x3 x4 σ160  _ _ _ hw (lv_sub hl [2, 4, 5] rfl) h
set_option maxHeartbeats 4000000 in
set_option maxRecDepth 100000 in
theorem kX6_spare_108 {p : Program} {l : Launch} {e : Env} {s : State} {m : MethodId} {args : Array Value} {below : List Frame} {meth : Method} {c : Code} {E : wE} (hE : wX E) (C : Cx p s m args c cX6_spare 6 RX6 E (wA E)) (hr : meth.sig.returnType = (some .int)) (hlk : meth.locks = false) {Q : Int32 → Mem → Prop} : ∀ (n : Nat) (x1 : Int32) (x2 : Int32) (x3 : Int32) (σ : Mem) (H : Heap) (locs : List Loc) (ls : Array Slot), wd E (wA E) s σ H locs → lv_has ls 6 [(0, .ref (gE E 0)), (1, .int x1), (2, .int x2), (3, .int x3)] → wX6_spare_108 Q n x1 x2 x3 σ → W p l e rX6_spare s m args below meth c H locs 0 0 (MQ below (wQi E Q) args s 0 0 (wA E)) (F0 m 108 ls []) := by
  have hx := C.1.1
  have hb := C.1.2.1
  intro n
  induction n with
  | zero =>
    intro x1 x2 x3 σ  H locs ls hw hl h
    exact h.elim
  | succ n ih =>
    intro x1 x2 x3 σ  H locs ls hw hl h
    rw [wX6_spare_108] at h
    refine lv_iload_n hx hb (dAt dX6_spare 61 rfl) rfl (lv_at hl 3 rfl) ?_
    refine lv_aload_n hx hb (dAt dX6_spare 62 rfl) rfl (lv_at hl 0 rfl) ?_
    refine x_getr C hw fl_X6_21 (hE.1 0) (nX hE (by decide)) rfl (dAt dX6_spare 63 rfl) ?_
    refine x_getiN C hw fl_X6_115 (hE.1 6) (nX hE (by decide)) rfl (dAt dX6_spare 64 rfl) ?_
    refine lv_icmp_ge (tgt := 198) hx hb (dAt dX6_spare 65 rfl) (by decide) (fun c116 => ?_) (fun c116 => ?_)
    · replace h := h.1 c116
      refine lv_iconst (v := -1) hx hb (dAt dX6_spare 110 rfl) (by decide) ?_
      exact x_iret C hw hr hlk h (dAt dX6_spare 111 rfl)
    · replace h := h.2 c116
      refine lv_iload_n hx hb (dAt dX6_spare 66 rfl) rfl (lv_at hl 3 rfl) ?_
      refine lv_iconst (v := 1) hx hb (dAt dX6_spare 67 rfl) (by decide) ?_
      refine lv_iadd hx hb (dAt dX6_spare 68 rfl) ?_
      refine lv_topi (fun x4_122 ex4_122 => ?_)
      replace h := h x4_122 ex4_122
      refine lv_istore (lv' := [(4, .int x4_122), (0, .ref (gE E 0)), (1, .int x1), (2, .int x2), (3, .int x3)]) hx hb (dAt dX6_spare 69 rfl) hl (by decide) rfl (fun ls hl => ?_)
      obtain ⟨n124, h⟩ := h
      exact kX6_spare_124 hE C hr hlk ih n124 x1 x2 x3 x4_122 σ  _ _ _ hw (lv_sub hl [1, 2, 3, 4, 0] rfl) h
set_option maxHeartbeats 4000000 in
set_option maxRecDepth 100000 in
theorem kX6_spare_81 {p : Program} {l : Launch} {e : Env} {s : State} {m : MethodId} {args : Array Value} {below : List Frame} {meth : Method} {c : Code} {E : wE} (hE : wX E) (C : Cx p s m args c cX6_spare 6 RX6 E (wA E)) (hr : meth.sig.returnType = (some .int)) (hlk : meth.locks = false) {Q : Int32 → Mem → Prop} : ∀ (x1 : Int32) (x3 : Int32) (σ : Mem) (H : Heap) (locs : List Loc) (ls : Array Slot), wd E (wA E) s σ H locs → lv_has ls 6 [(1, .int x1), (3, .int x3)] → wX6_spare_81 Q x1 x3 σ → W p l e rX6_spare s m args below meth c H locs 0 0 (MQ below (wQi E Q) args s 0 0 (wA E)) (F0 m 81 ls []) := by
  have hx := C.1.1
  have hb := C.1.2.1
  intro x1 x3 σ  H locs ls hw hl h
  unfold wX6_spare_81 at h
  refine lv_iload_n hx hb (dAt dX6_spare 46 rfl) rfl (lv_at hl 0 rfl) ?_
  refine lv_iconst (v := -1) hx hb (dAt dX6_spare 47 rfl) (by decide) ?_
  refine x_dia (ls := ls) (pcJ := 99) (cnd := x1 = (-1 : Int32)) (a := (1 : Int32)) (b := (if x1 = 0 then x3 else (-1 : Int32))) ([]) ?_ (fun ht83 hf83 => ?_)
  · exact x_iret C hw hr hlk h (dAt dX6_spare 56 rfl)
  · refine lv_icmp_ne (tgt := 90) hx hb (dAt dX6_spare 48 rfl) (by decide) (fun c83 => ?_) (fun c83 => ?_)
    · refine lv_iload_n hx hb (dAt dX6_spare 51 rfl) rfl (lv_at hl 0 rfl) ?_
      refine x_dia (ls := ls) _ (hf83 c83) (fun ht83_83t hf83_83t => ?_)
      refine lv_if_ne (tgt := 98) hx hb (dAt dX6_spare 52 rfl) (by decide) (fun c91 => ?_) (fun c91 => ?_)
      · refine lv_iconst (v := -1) hx hb (dAt dX6_spare 55 rfl) (by decide) ?_
        exact hf83_83t c91
      · refine lv_iload_n hx hb (dAt dX6_spare 53 rfl) rfl (lv_at hl 1 rfl) ?_
        refine lv_goto (tgt := 99) hx hb (dAt dX6_spare 54 rfl) (by decide) ?_
        exact ht83_83t c91
    · refine lv_iconst (v := 1) hx hb (dAt dX6_spare 49 rfl) (by decide) ?_
      refine lv_goto (tgt := 99) hx hb (dAt dX6_spare 50 rfl) (by decide) ?_
      exact ht83 c83
set_option maxHeartbeats 4000000 in
set_option maxRecDepth 100000 in
theorem kX6_spare_47 {p : Program} {l : Launch} {e : Env} {s : State} {m : MethodId} {args : Array Value} {below : List Frame} {meth : Method} {c : Code} {E : wE} (hE : wX E) (C : Cx p s m args c cX6_spare 6 RX6 E (wA E)) (hr : meth.sig.returnType = (some .int)) (hlk : meth.locks = false) {Q : Int32 → Mem → Prop} : ∀ (n : Nat) (x1 : Int32) (x2 : Int32) (x3 : Int32) (σ : Mem) (H : Heap) (locs : List Loc) (ls : Array Slot), wd E (wA E) s σ H locs → lv_has ls 6 [(0, .ref (gE E 0)), (1, .int x1), (2, .int x2), (3, .int x3)] → wX6_spare_47 Q n x1 x2 x3 σ → W p l e rX6_spare s m args below meth c H locs 0 0 (MQ below (wQi E Q) args s 0 0 (wA E)) (F0 m 47 ls []) := by
  have hx := C.1.1
  have hb := C.1.2.1
  intro n
  induction n with
  | zero =>
    intro x1 x2 x3 σ  H locs ls hw hl h
    exact h.elim
  | succ n ih =>
    intro x1 x2 x3 σ  H locs ls hw hl h
    rw [wX6_spare_47] at h
    refine lv_iload_n hx hb (dAt dX6_spare 27 rfl) rfl (lv_at hl 3 rfl) ?_
    refine lv_aload_n hx hb (dAt dX6_spare 28 rfl) rfl (lv_at hl 0 rfl) ?_
    refine x_getr C hw fl_X6_21 (hE.1 0) (nX hE (by decide)) rfl (dAt dX6_spare 29 rfl) ?_
    refine x_getiN C hw fl_X6_115 (hE.1 6) (nX hE (by decide)) rfl (dAt dX6_spare 30 rfl) ?_
    refine lv_icmp_ge (tgt := 106) hx hb (dAt dX6_spare 31 rfl) (by decide) (fun c55 => ?_) (fun c55 => ?_)
    · replace h := h.1 c55
      refine lv_iconst (v := 0) hx hb (dAt dX6_spare 59 rfl) (by decide) ?_
      refine lv_istore_n (lv' := [(3, .int (0 : Int32)), (0, .ref (gE E 0)), (1, .int x1), (2, .int x2)]) hx hb (dAt dX6_spare 60 rfl) rfl hl (by decide) rfl (fun ls hl => ?_)
      obtain ⟨n108, h⟩ := h
      exact kX6_spare_108 hE C hr hlk n108 x1 x2 (0 : Int32) σ  _ _ _ hw (lv_sub hl [1, 2, 3, 0] rfl) h
    · replace h := h.2 c55
      refine lv_iload_n hx hb (dAt dX6_spare 32 rfl) rfl (lv_at hl 2 rfl) ?_
      refine lv_iconst (v := 1) hx hb (dAt dX6_spare 33 rfl) (by decide) ?_
      refine lv_iload_n hx hb (dAt dX6_spare 34 rfl) rfl (lv_at hl 3 rfl) ?_
      refine lv_ishl hx hb (dAt dX6_spare 35 rfl) ?_
      refine lv_iconst (v := -1) hx hb (dAt dX6_spare 36 rfl) (by decide) ?_
      refine lv_ixor hx hb (dAt dX6_spare 37 rfl) ?_
      refine lv_iand hx hb (dAt dX6_spare 38 rfl) ?_
      refine lv_topi (fun x4_65 ex4_65 => ?_)
      replace h := h x4_65 ex4_65
      refine lv_istore (lv' := [(4, .int x4_65), (0, .ref (gE E 0)), (1, .int x1), (2, .int x2), (3, .int x3)]) hx hb (dAt dX6_spare 39 rfl) hl (by decide) rfl (fun ls hl => ?_)
      refine lv_aload_n hx hb (dAt dX6_spare 40 rfl) rfl (lv_at hl 1 rfl) ?_
      refine lv_iload hx hb (dAt dX6_spare 41 rfl) (lv_at hl 0 rfl) ?_
      refine x_calli C hw (x_runV (As := [.int x4_65]) (rest := []) C hw (kX6_bareBeatsWith l E hE x4_65 σ _ h) mtX6_bareBeatsWith lk_X6_220 (hE.1 0) (nX hE (by decide)) rfl ⟨by decide, by decide⟩ ⟨rfl, rfl⟩ rfl hl.1 rfl (Nat.le_of_ble_eq_true rfl) (dAt dX6_spare 42 rfl) ⟨Nat.zero_le _, Nat.zero_le _⟩) (fun r70 σ70 H locs h hw => ?_)
      refine lv_bipush (v := 23) hx hb (dAt dX6_spare 43 rfl) (by decide) ?_
      refine x_calli C hw (x_runS (As := [.int r70, .int (23 : Int32)]) (rest := []) C hw (kX6_has l E hE r70 (23 : Int32) σ70 _ h) mtX6_has lk_X6_213 ⟨by decide, by decide⟩ ⟨rfl, rfl⟩ rfl hl.1 rfl (Nat.le_of_ble_eq_true rfl) (dAt dX6_spare 44 rfl) ⟨Nat.zero_le _, Nat.zero_le _⟩) (fun r75 σ75 H locs h hw => ?_)
      refine lv_if_eq (tgt := 100) hx hb (dAt dX6_spare 45 rfl) (by decide) (fun c78 => ?_) (fun c78 => ?_)
      · replace h := h.1 c78
        refine lv_iinc (v := (x3 + (1 : Int32))) (lv' := [(3, .int (x3 + (1 : Int32))), (4, .int x4_65), (0, .ref (gE E 0)), (1, .int x1), (2, .int x2)]) hx hb (dAt dX6_spare 57 rfl) hl (k := 4) rfl rfl (by decide) rfl (fun ls hl => ?_)
        refine lv_goto (tgt := 47) hx hb (dAt dX6_spare 58 rfl) (by decide) ?_
        exact ih x1 x2 (x3 + (1 : Int32)) σ75  _ _ _ hw (lv_sub hl [2, 3, 4, 0] rfl) h
      · replace h := h.2 c78
        exact kX6_spare_81 hE C hr hlk x1 x3 σ75  _ _ _ hw (lv_sub hl [2, 4] rfl) h
set_option maxHeartbeats 4000000 in
set_option maxRecDepth 100000 in
theorem kX6_spare (l : Launch) (E : wE) (hE : wX E) (x1 : Int32) (σ : Mem) (Q : Int32 → Mem → Prop) (h : wX6_spare x1 σ Q) : Met l yX6_spare (Cond.code yX6_spare cX6_spare 6 (some .int) :: TB) rX6_spare (wPc E σ [.ref (gE E 0), .int x1]) (wQi E Q) 0 0 (wA E) := by
  refine wMet (by decide) hE.2.2 (Nat.le_of_ble_eq_true rfl) ?_
  intro p e s m args below meth c ls C hr hlk hl hw
  have hx := C.1.1
  have hb := C.1.2.1
  replace C : Cx p s m args c cX6_spare 6 RX6 E (wA E) := C
  replace hl : lv_has ls 6 [(0, .ref (gE E 0)), (1, .int x1)] := hl
  unfold wX6_spare at h
  refine lv_iload_n hx hb (dAt dX6_spare 0 rfl) rfl (lv_at hl 1 rfl) ?_
  refine lv_iconst (v := -1) hx hb (dAt dX6_spare 1 rfl) (by decide) ?_
  refine lv_icmp_lt (tgt := 10) hx hb (dAt dX6_spare 2 rfl) (by decide) (fun c2 => ?_) (fun c2 => ?_)
  · replace h := h.1 c2
    refine lv_bipush (v := -2) hx hb (dAt dX6_spare 6 rfl) (by decide) ?_
    exact x_iret C hw hr hlk h (dAt dX6_spare 7 rfl)
  · replace h := h.2 c2
    refine lv_iload_n hx hb (dAt dX6_spare 3 rfl) rfl (lv_at hl 1 rfl) ?_
    refine lv_iconst (v := 1) hx hb (dAt dX6_spare 4 rfl) (by decide) ?_
    refine lv_icmp_le (tgt := 13) hx hb (dAt dX6_spare 5 rfl) (by decide) (fun c7 => ?_) (fun c7 => ?_)
    · replace h := h.1 c7
      refine lv_aload_n hx hb (dAt dX6_spare 8 rfl) rfl (lv_at hl 0 rfl) ?_
      refine x_getr C hw fl_X6_28 (hE.1 0) (nX hE (by decide)) rfl (dAt dX6_spare 9 rfl) ?_
      refine x_getiN C hw fl_X6_217 (hE.1 10) (nX hE (by decide)) rfl (dAt dX6_spare 10 rfl) ?_
      refine lv_topi (fun x2_20 ex2_20 => ?_)
      replace h := h x2_20 ex2_20
      refine lv_istore_n (lv' := [(2, .int x2_20), (0, .ref (gE E 0)), (1, .int x1)]) hx hb (dAt dX6_spare 11 rfl) rfl hl (by decide) rfl (fun ls hl => ?_)
      refine lv_aload_n hx hb (dAt dX6_spare 12 rfl) rfl (lv_at hl 1 rfl) ?_
      refine lv_iload_n hx hb (dAt dX6_spare 13 rfl) rfl (lv_at hl 0 rfl) ?_
      refine x_calli C hw (x_runV (As := [.int x2_20]) (rest := []) C hw (kX6_bareBeatsWith l E hE x2_20 σ _ h) mtX6_bareBeatsWith lk_X6_220 (hE.1 0) (nX hE (by decide)) rfl ⟨by decide, by decide⟩ ⟨rfl, rfl⟩ rfl hl.1 rfl (Nat.le_of_ble_eq_true rfl) (dAt dX6_spare 14 rfl) ⟨Nat.zero_le _, Nat.zero_le _⟩) (fun r23 σ23 H locs h hw => ?_)
      refine lv_bipush (v := 23) hx hb (dAt dX6_spare 15 rfl) (by decide) ?_
      refine x_calli C hw (x_runS (As := [.int r23, .int (23 : Int32)]) (rest := []) C hw (kX6_has l E hE r23 (23 : Int32) σ23 _ h) mtX6_has lk_X6_213 ⟨by decide, by decide⟩ ⟨rfl, rfl⟩ rfl hl.1 rfl (Nat.le_of_ble_eq_true rfl) (dAt dX6_spare 16 rfl) ⟨Nat.zero_le _, Nat.zero_le _⟩) (fun r28 σ28 H locs h hw => ?_)
      refine lv_if_eq (tgt := 45) hx hb (dAt dX6_spare 17 rfl) (by decide) (fun c31 => ?_) (fun c31 => ?_)
      · replace h := h.1 c31
        refine lv_iconst (v := 0) hx hb (dAt dX6_spare 25 rfl) (by decide) ?_
        refine lv_istore_n (lv' := [(3, .int (0 : Int32)), (2, .int x2_20), (0, .ref (gE E 0)), (1, .int x1)]) hx hb (dAt dX6_spare 26 rfl) rfl hl (by decide) rfl (fun ls hl => ?_)
        obtain ⟨n47, h⟩ := h
        exact kX6_spare_47 hE C hr hlk n47 x1 x2_20 (0 : Int32) σ28  _ _ _ hw (lv_sub hl [2, 3, 1, 0] rfl) h
      · replace h := h.2 c31
        refine lv_iload_n hx hb (dAt dX6_spare 18 rfl) rfl (lv_at hl 2 rfl) ?_
        refine lv_iconst (v := -1) hx hb (dAt dX6_spare 19 rfl) (by decide) ?_
        refine x_dia (ls := ls) (pcJ := 44) (cnd := x1 = (-1 : Int32)) (a := (0 : Int32)) (b := (-1 : Int32)) ([]) ?_ (fun ht36 hf36 => ?_)
        · exact x_iret C hw hr hlk h (dAt dX6_spare 24 rfl)
        · refine lv_icmp_ne (tgt := 43) hx hb (dAt dX6_spare 20 rfl) (by decide) (fun c36 => ?_) (fun c36 => ?_)
          · refine lv_iconst (v := -1) hx hb (dAt dX6_spare 23 rfl) (by decide) ?_
            exact hf36 c36
          · refine lv_iconst (v := 0) hx hb (dAt dX6_spare 21 rfl) (by decide) ?_
            refine lv_goto (tgt := 44) hx hb (dAt dX6_spare 22 rfl) (by decide) ?_
            exact ht36 c36
    · replace h := h.2 c7
      refine lv_bipush (v := -2) hx hb (dAt dX6_spare 6 rfl) (by decide) ?_
      exact x_iret C hw hr hlk h (dAt dX6_spare 7 rfl)
def tX6_seen : List (Nat × Instr × Nat) := [(0, .iload_n 1, 1), (1, .invokestatic 101, 3), (4, .ifCond .eq 13, 3), (7, .iload_n 2, 1), (8, .ifCond .lt 9, 3), (11, .iload_n 2, 1), (12, .bipush 120, 2), (14, .if_icmp .le 6, 3), (17, .bipush (-2), 2), (19, .ireturn, 1), (20, .aload_n 0, 1), (21, .getfield 48, 3), (24, .getfield 223, 3), (27, .bipush 8, 2), (29, .if_icmp .lt 6, 3), (32, .bipush (-4), 2), (34, .ireturn, 1), (35, .aload_n 0, 1), (36, .getfield 48, 3), (39, .iload_n 1, 1), (40, .iload_n 2, 1), (41, .invokevirtual 224, 3), (44, .aload_n 0, 1), (45, .getfield 48, 3), (48, .getfield 223, 3), (51, .ireturn, 1)]
theorem dX6_seen : dOk cX6_seen tX6_seen = true := by decide +kernel
abbrev rX6_seen : Room := { frames := 1, cells := 0, slots := 0, locals := 22 }
def wX6_seen (x1 : Int32) (x2 : Int32) (σ : Mem) (Q : Int32 → Mem → Prop) : Prop := (wX6_isBeat x1 σ (fun r1 σ1 => (((r1 = 0) → (Q (-2 : Int32) σ1)) ∧ ((¬ r1 = 0) → (((x2 < 0) → (Q (-2 : Int32) σ1)) ∧ ((¬ x2 < 0) → (((x2 ≤ (120 : Int32)) → ((((σ1 50 2) < (8 : Int32)) → (wX2_put x1 x2 σ1 (fun σ41 => (Q (σ41 50 2) σ41)))) ∧ ((¬ (σ1 50 2) < (8 : Int32)) → (Q (-4 : Int32) σ1)))) ∧ ((¬ x2 ≤ (120 : Int32)) → (Q (-2 : Int32) σ1)))))))))
set_option maxHeartbeats 4000000 in
set_option maxRecDepth 100000 in
theorem kX6_seen (l : Launch) (E : wE) (hE : wX E) (x1 : Int32) (x2 : Int32) (σ : Mem) (Q : Int32 → Mem → Prop) (h : wX6_seen x1 x2 σ Q) : Met l yX6_seen (Cond.code yX6_seen cX6_seen 3 (some .int) :: TB) rX6_seen (wPc E σ [.ref (gE E 0), .int x1, .int x2]) (wQi E Q) 0 0 (wA E) := by
  refine wMet (by decide) hE.2.2 (Nat.le_of_ble_eq_true rfl) ?_
  intro p e s m args below meth c ls C hr hlk hl hw
  have hx := C.1.1
  have hb := C.1.2.1
  replace C : Cx p s m args c cX6_seen 3 RX6 E (wA E) := C
  replace hl : lv_has ls 3 [(0, .ref (gE E 0)), (1, .int x1), (2, .int x2)] := hl
  unfold wX6_seen at h
  refine lv_iload_n hx hb (dAt dX6_seen 0 rfl) rfl (lv_at hl 1 rfl) ?_
  refine x_calli C hw (x_runS (As := [.int x1]) (rest := []) C hw (kX6_isBeat l E hE x1 σ _ h) mtX6_isBeat lk_X6_101 ⟨by decide, by decide⟩ ⟨rfl, rfl⟩ rfl hl.1 rfl (Nat.le_of_ble_eq_true rfl) (dAt dX6_seen 1 rfl) ⟨Nat.zero_le _, Nat.zero_le _⟩) (fun r1 σ1 H locs h hw => ?_)
  refine lv_if_eq (tgt := 17) hx hb (dAt dX6_seen 2 rfl) (by decide) (fun c4 => ?_) (fun c4 => ?_)
  · replace h := h.1 c4
    refine lv_bipush (v := -2) hx hb (dAt dX6_seen 8 rfl) (by decide) ?_
    exact x_iret C hw hr hlk h (dAt dX6_seen 9 rfl)
  · replace h := h.2 c4
    refine lv_iload_n hx hb (dAt dX6_seen 3 rfl) rfl (lv_at hl 2 rfl) ?_
    refine lv_if_lt (tgt := 17) hx hb (dAt dX6_seen 4 rfl) (by decide) (fun c8 => ?_) (fun c8 => ?_)
    · replace h := h.1 c8
      refine lv_bipush (v := -2) hx hb (dAt dX6_seen 8 rfl) (by decide) ?_
      exact x_iret C hw hr hlk h (dAt dX6_seen 9 rfl)
    · replace h := h.2 c8
      refine lv_iload_n hx hb (dAt dX6_seen 5 rfl) rfl (lv_at hl 2 rfl) ?_
      refine lv_bipush (v := 120) hx hb (dAt dX6_seen 6 rfl) (by decide) ?_
      refine lv_icmp_le (tgt := 20) hx hb (dAt dX6_seen 7 rfl) (by decide) (fun c14 => ?_) (fun c14 => ?_)
      · replace h := h.1 c14
        refine lv_aload_n hx hb (dAt dX6_seen 10 rfl) rfl (lv_at hl 0 rfl) ?_
        refine x_getr C hw fl_X6_48 (hE.1 0) (nX hE (by decide)) rfl (dAt dX6_seen 11 rfl) ?_
        refine x_getiN C hw fl_X6_223 (hE.1 50) (nX hE (by decide)) rfl (dAt dX6_seen 12 rfl) ?_
        refine lv_bipush (v := 8) hx hb (dAt dX6_seen 13 rfl) (by decide) ?_
        refine lv_icmp_lt (tgt := 35) hx hb (dAt dX6_seen 14 rfl) (by decide) (fun c29 => ?_) (fun c29 => ?_)
        · replace h := h.1 c29
          refine lv_aload_n hx hb (dAt dX6_seen 17 rfl) rfl (lv_at hl 0 rfl) ?_
          refine x_getr C hw fl_X6_48 (hE.1 0) (nX hE (by decide)) rfl (dAt dX6_seen 18 rfl) ?_
          refine lv_iload_n hx hb (dAt dX6_seen 19 rfl) rfl (lv_at hl 1 rfl) ?_
          refine lv_iload_n hx hb (dAt dX6_seen 20 rfl) rfl (lv_at hl 2 rfl) ?_
          refine x_callv C hw (x_runVN (As := [.int x1, .int x2]) (rest := []) C hw (kX2_put l E hE x1 x2 σ1 _ h) mtX2_put lk_X6_224 (hE.1 50) (nX hE (by decide)) rfl ⟨by decide, by decide⟩ ⟨rfl, rfl⟩ rfl hl.1 rfl (Nat.le_of_ble_eq_true rfl) (dAt dX6_seen 21 rfl) ⟨Nat.zero_le _, Nat.zero_le _⟩) (fun σ41 H locs h hw => ?_)
          refine lv_aload_n hx hb (dAt dX6_seen 22 rfl) rfl (lv_at hl 0 rfl) ?_
          refine x_getr C hw fl_X6_48 (hE.1 0) (nX hE (by decide)) rfl (dAt dX6_seen 23 rfl) ?_
          refine x_getiN C hw fl_X6_223 (hE.1 50) (nX hE (by decide)) rfl (dAt dX6_seen 24 rfl) ?_
          exact x_iret C hw hr hlk h (dAt dX6_seen 25 rfl)
        · replace h := h.2 c29
          refine lv_bipush (v := -4) hx hb (dAt dX6_seen 15 rfl) (by decide) ?_
          exact x_iret C hw hr hlk h (dAt dX6_seen 16 rfl)
      · replace h := h.2 c14
        refine lv_bipush (v := -2) hx hb (dAt dX6_seen 8 rfl) (by decide) ?_
        exact x_iret C hw hr hlk h (dAt dX6_seen 9 rfl)
def tX6_forget : List (Nat × Instr × Nat) := [(0, .aload_n 0, 1), (1, .getfield 48, 3), (4, .getfield 223, 3), (7, .istore_n 1, 1), (8, .aload_n 0, 1), (9, .getfield 48, 3), (12, .iconst 0, 1), (13, .putfield 223, 3), (16, .iload_n 1, 1), (17, .ireturn, 1)]
theorem dX6_forget : dOk cX6_forget tX6_forget = true := by decide +kernel
abbrev rX6_forget : Room := { frames := 0, cells := 0, slots := 0, locals := 0 }
def wX6_forget (σ : Mem) (Q : Int32 → Mem → Prop) : Prop := (∀ x1_7 : Int32, x1_7 = (σ 50 2) → (∀ σ13 : Mem, σ13 = um σ 50 2 (0 : Int32) → (Q x1_7 σ13)))
set_option maxHeartbeats 4000000 in
set_option maxRecDepth 100000 in
theorem kX6_forget (l : Launch) (E : wE) (hE : wX E) (σ : Mem) (Q : Int32 → Mem → Prop) (h : wX6_forget  σ Q) : Met l yX6_forget (Cond.code yX6_forget cX6_forget 2 (some .int) :: TB) rX6_forget (wPc E σ [.ref (gE E 0)]) (wQi E Q) 0 0 (wA E) := by
  refine wMet (by decide) hE.2.2 (Nat.le_of_ble_eq_true rfl) ?_
  intro p e s m args below meth c ls C hr hlk hl hw
  have hx := C.1.1
  have hb := C.1.2.1
  replace C : Cx p s m args c cX6_forget 2 RX6 E (wA E) := C
  replace hl : lv_has ls 2 [(0, .ref (gE E 0))] := hl
  unfold wX6_forget at h
  refine lv_aload_n hx hb (dAt dX6_forget 0 rfl) rfl (lv_at hl 0 rfl) ?_
  refine x_getr C hw fl_X6_48 (hE.1 0) (nX hE (by decide)) rfl (dAt dX6_forget 1 rfl) ?_
  refine x_getiN C hw fl_X6_223 (hE.1 50) (nX hE (by decide)) rfl (dAt dX6_forget 2 rfl) ?_
  refine lv_topi (fun x1_7 ex1_7 => ?_)
  replace h := h x1_7 ex1_7
  refine lv_istore_n (lv' := [(1, .int x1_7), (0, .ref (gE E 0))]) hx hb (dAt dX6_forget 3 rfl) rfl hl (by decide) rfl (fun ls hl => ?_)
  refine lv_aload_n hx hb (dAt dX6_forget 4 rfl) rfl (lv_at hl 1 rfl) ?_
  refine x_getr C hw fl_X6_48 (hE.1 0) (nX hE (by decide)) rfl (dAt dX6_forget 5 rfl) ?_
  refine lv_iconst (v := 0) hx hb (dAt dX6_forget 6 rfl) (by decide) ?_
  refine x_pfN C hw fl_X6_223 (hE.1 50) (nX hE (by decide)) rfl rfl rfl (dAt dX6_forget 7 rfl) (fun σ13 H locs eσ13 hw => ?_)
  replace h := h σ13 eσ13
  refine lv_iload_n hx hb (dAt dX6_forget 8 rfl) rfl (lv_at hl 0 rfl) ?_
  exact x_iret C hw hr hlk h (dAt dX6_forget 9 rfl)
def tX6_never : List (Nat × Instr × Nat) := [(0, .aload_n 0, 1), (1, .getfield 32, 3), (4, .aload_n 0, 1), (5, .getfield 28, 3), (8, .invokevirtual 202, 3), (11, .iconst 0, 1), (12, .istore_n 1, 1), (13, .iconst 0, 1), (14, .istore_n 2, 1), (15, .iload_n 2, 1), (16, .aload_n 0, 1), (17, .getfield 21, 3), (20, .getfield 115, 3), (23, .if_icmp .ge 68, 3), (26, .aload_n 0, 1), (27, .getfield 32, 3), (30, .aload_n 0, 1), (31, .getfield 28, 3), (34, .getfield 217, 3), (37, .iconst 1, 1), (38, .iload_n 2, 1), (39, .ishl, 1), (40, .iconst (-1), 1), (41, .ixor, 1), (42, .iand, 1), (43, .putfield 217, 3), (46, .aload_n 0, 1), (47, .getfield 42, 3), (50, .aload_n 0, 1), (51, .getfield 32, 3), (54, .aload_n 0, 1), (55, .getfield 21, 3), (58, .invokevirtual 206, 3), (61, .aload_n 0, 1), (62, .getfield 48, 3), (65, .aload_n 0, 1), (66, .getfield 42, 3), (69, .getfield 161, 3), (72, .iconst 0, 1), (73, .invokevirtual 227, 3), (76, .ifCond .eq 9, 3), (79, .iload_n 1, 1), (80, .iconst 1, 1), (81, .iload_n 2, 1), (82, .ishl, 1), (83, .ior, 1), (84, .istore_n 1, 1), (85, .iinc 2 1, 3), (88, .goto (-73), 3), (91, .iload_n 1, 1), (92, .ireturn, 1)]
theorem dX6_never : dOk cX6_never tX6_never = true := by decide +kernel
abbrev rX6_never : Room := { frames := 3, cells := 0, slots := 0, locals := 94 }
def wX6_never_15 (Q : Int32 → Mem → Prop) : Nat → Int32 → Int32 → Mem → Prop
  | 0, _, _, _ => False
  | n + 1, x1, x2, σ => ((((σ 6 3) ≤ x2) → (Q x1 σ)) ∧ ((¬ (σ 6 3) ≤ x2) → (∀ σ43 : Mem, σ43 = um σ 15 6 ((σ 10 6) &&& (((1 : Int32) <<< (x2 &&& 31)) ^^^ (-1 : Int32))) → (wX0_play 35 15 σ43 (fun σ58 => (wX2_comesOut 44 24 (0 : Int32) σ58 (fun r73 σ73 => (((r73 = 0) → (wX6_never_15 Q n x1 (x2 + (1 : Int32)) σ73)) ∧ ((¬ r73 = 0) → (∀ x1_84 : Int32, x1_84 = (x1 ||| ((1 : Int32) <<< (x2 &&& 31))) → (wX6_never_15 Q n x1_84 (x2 + (1 : Int32)) σ73)))))))))))
def wX6_never (σ : Mem) (Q : Int32 → Mem → Prop) : Prop := (wX3_become 15 10 σ (fun σ8 => (∃ N15, wX6_never_15 Q N15 (0 : Int32) (0 : Int32) σ8)))
set_option maxHeartbeats 4000000 in
set_option maxRecDepth 100000 in
theorem kX6_never_15 {p : Program} {l : Launch} {e : Env} {s : State} {m : MethodId} {args : Array Value} {below : List Frame} {meth : Method} {c : Code} {E : wE} (hE : wX E) (C : Cx p s m args c cX6_never 3 RX6 E (wA E)) (hr : meth.sig.returnType = (some .int)) (hlk : meth.locks = false) {Q : Int32 → Mem → Prop} : ∀ (n : Nat) (x1 : Int32) (x2 : Int32) (σ : Mem) (H : Heap) (locs : List Loc) (ls : Array Slot), wd E (wA E) s σ H locs → lv_has ls 3 [(0, .ref (gE E 0)), (1, .int x1), (2, .int x2)] → wX6_never_15 Q n x1 x2 σ → W p l e rX6_never s m args below meth c H locs 0 0 (MQ below (wQi E Q) args s 0 0 (wA E)) (F0 m 15 ls []) := by
  have hx := C.1.1
  have hb := C.1.2.1
  intro n
  induction n with
  | zero =>
    intro x1 x2 σ  H locs ls hw hl h
    exact h.elim
  | succ n ih =>
    intro x1 x2 σ  H locs ls hw hl h
    rw [wX6_never_15] at h
    refine lv_iload_n hx hb (dAt dX6_never 9 rfl) rfl (lv_at hl 2 rfl) ?_
    refine lv_aload_n hx hb (dAt dX6_never 10 rfl) rfl (lv_at hl 0 rfl) ?_
    refine x_getr C hw fl_X6_21 (hE.1 0) (nX hE (by decide)) rfl (dAt dX6_never 11 rfl) ?_
    refine x_getiN C hw fl_X6_115 (hE.1 6) (nX hE (by decide)) rfl (dAt dX6_never 12 rfl) ?_
    refine lv_icmp_ge (tgt := 91) hx hb (dAt dX6_never 13 rfl) (by decide) (fun c23 => ?_) (fun c23 => ?_)
    · replace h := h.1 c23
      refine lv_iload_n hx hb (dAt dX6_never 49 rfl) rfl (lv_at hl 1 rfl) ?_
      exact x_iret C hw hr hlk h (dAt dX6_never 50 rfl)
    · replace h := h.2 c23
      refine lv_aload_n hx hb (dAt dX6_never 14 rfl) rfl (lv_at hl 0 rfl) ?_
      refine x_getr C hw fl_X6_32 (hE.1 0) (nX hE (by decide)) rfl (dAt dX6_never 15 rfl) ?_
      refine lv_aload_n hx hb (dAt dX6_never 16 rfl) rfl (lv_at hl 0 rfl) ?_
      refine x_getr C hw fl_X6_28 (hE.1 0) (nX hE (by decide)) rfl (dAt dX6_never 17 rfl) ?_
      refine x_getiN C hw fl_X6_217 (hE.1 10) (nX hE (by decide)) rfl (dAt dX6_never 18 rfl) ?_
      refine lv_iconst (v := 1) hx hb (dAt dX6_never 19 rfl) (by decide) ?_
      refine lv_iload_n hx hb (dAt dX6_never 20 rfl) rfl (lv_at hl 2 rfl) ?_
      refine lv_ishl hx hb (dAt dX6_never 21 rfl) ?_
      refine lv_iconst (v := -1) hx hb (dAt dX6_never 22 rfl) (by decide) ?_
      refine lv_ixor hx hb (dAt dX6_never 23 rfl) ?_
      refine lv_iand hx hb (dAt dX6_never 24 rfl) ?_
      refine x_pfN C hw fl_X6_217 (hE.1 15) (nX hE (by decide)) rfl rfl rfl (dAt dX6_never 25 rfl) (fun σ43 H locs eσ43 hw => ?_)
      replace h := h σ43 eσ43
      refine lv_aload_n hx hb (dAt dX6_never 26 rfl) rfl (lv_at hl 0 rfl) ?_
      refine x_getr C hw fl_X6_42 (hE.1 0) (nX hE (by decide)) rfl (dAt dX6_never 27 rfl) ?_
      refine lv_aload_n hx hb (dAt dX6_never 28 rfl) rfl (lv_at hl 0 rfl) ?_
      refine x_getr C hw fl_X6_32 (hE.1 0) (nX hE (by decide)) rfl (dAt dX6_never 29 rfl) ?_
      refine lv_aload_n hx hb (dAt dX6_never 30 rfl) rfl (lv_at hl 0 rfl) ?_
      refine x_getr C hw fl_X6_21 (hE.1 0) (nX hE (by decide)) rfl (dAt dX6_never 31 rfl) ?_
      refine x_callv C hw (x_runVN (As := [.ref (gE E 15), .ref (gE E 6)]) (rest := []) C hw (kX0_play l E hE 35 isD_35 15 isS_15 σ43 _ h) mtX0_play lk_X6_206 (hE.1 35) (nX hE (by decide)) rfl ⟨by decide, by decide⟩ ⟨rfl, rfl⟩ rfl hl.1 rfl (Nat.le_of_ble_eq_true rfl) (dAt dX6_never 32 rfl) ⟨Nat.zero_le _, Nat.zero_le _⟩) (fun σ58 H locs h hw => ?_)
      refine lv_aload_n hx hb (dAt dX6_never 33 rfl) rfl (lv_at hl 0 rfl) ?_
      refine x_getr C hw fl_X6_48 (hE.1 0) (nX hE (by decide)) rfl (dAt dX6_never 34 rfl) ?_
      refine lv_aload_n hx hb (dAt dX6_never 35 rfl) rfl (lv_at hl 0 rfl) ?_
      refine x_getr C hw fl_X6_42 (hE.1 0) (nX hE (by decide)) rfl (dAt dX6_never 36 rfl) ?_
      refine x_getrN C hw fl_X6_161 (hE.1 35) (nX hE (by decide)) rfl (dAt dX6_never 37 rfl) ?_
      refine lv_iconst (v := 0) hx hb (dAt dX6_never 38 rfl) (by decide) ?_
      refine x_calli C hw (x_runVN (As := [.ref (gE E 44), .int (0 : Int32)]) (rest := []) C hw (kX2_comesOut l E hE 44 24 (hE.1 44) (nX hE (by decide)) (0 : Int32) σ58 _ h) mtX2_comesOut lk_X6_227 (hE.1 50) (nX hE (by decide)) rfl ⟨by decide, by decide⟩ ⟨rfl, rfl⟩ rfl hl.1 rfl (Nat.le_of_ble_eq_true rfl) (dAt dX6_never 39 rfl) ⟨Nat.zero_le _, Nat.zero_le _⟩) (fun r73 σ73 H locs h hw => ?_)
      refine lv_if_eq (tgt := 85) hx hb (dAt dX6_never 40 rfl) (by decide) (fun c76 => ?_) (fun c76 => ?_)
      · replace h := h.1 c76
        refine lv_iinc (v := (x2 + (1 : Int32))) (lv' := [(2, .int (x2 + (1 : Int32))), (0, .ref (gE E 0)), (1, .int x1)]) hx hb (dAt dX6_never 47 rfl) hl (k := 2) rfl rfl (by decide) rfl (fun ls hl => ?_)
        refine lv_goto (tgt := 15) hx hb (dAt dX6_never 48 rfl) (by decide) ?_
        exact ih x1 (x2 + (1 : Int32)) σ73  _ _ _ hw (lv_sub hl [1, 2, 0] rfl) h
      · replace h := h.2 c76
        refine lv_iload_n hx hb (dAt dX6_never 41 rfl) rfl (lv_at hl 1 rfl) ?_
        refine lv_iconst (v := 1) hx hb (dAt dX6_never 42 rfl) (by decide) ?_
        refine lv_iload_n hx hb (dAt dX6_never 43 rfl) rfl (lv_at hl 2 rfl) ?_
        refine lv_ishl hx hb (dAt dX6_never 44 rfl) ?_
        refine lv_ior hx hb (dAt dX6_never 45 rfl) ?_
        refine lv_topi (fun x1_84 ex1_84 => ?_)
        replace h := h x1_84 ex1_84
        refine lv_istore_n (lv' := [(1, .int x1_84), (0, .ref (gE E 0)), (2, .int x2)]) hx hb (dAt dX6_never 46 rfl) rfl hl (by decide) rfl (fun ls hl => ?_)
        refine lv_iinc (v := (x2 + (1 : Int32))) (lv' := [(2, .int (x2 + (1 : Int32))), (1, .int x1_84), (0, .ref (gE E 0))]) hx hb (dAt dX6_never 47 rfl) hl (k := 2) rfl rfl (by decide) rfl (fun ls hl => ?_)
        refine lv_goto (tgt := 15) hx hb (dAt dX6_never 48 rfl) (by decide) ?_
        exact ih x1_84 (x2 + (1 : Int32)) σ73  _ _ _ hw (lv_sub hl [2, 1, 0] rfl) h
set_option maxHeartbeats 4000000 in
set_option maxRecDepth 100000 in
theorem kX6_never (l : Launch) (E : wE) (hE : wX E) (σ : Mem) (Q : Int32 → Mem → Prop) (h : wX6_never  σ Q) : Met l yX6_never (Cond.code yX6_never cX6_never 3 (some .int) :: TB) rX6_never (wPc E σ [.ref (gE E 0)]) (wQi E Q) 0 0 (wA E) := by
  refine wMet (by decide) hE.2.2 (Nat.le_of_ble_eq_true rfl) ?_
  intro p e s m args below meth c ls C hr hlk hl hw
  have hx := C.1.1
  have hb := C.1.2.1
  replace C : Cx p s m args c cX6_never 3 RX6 E (wA E) := C
  replace hl : lv_has ls 3 [(0, .ref (gE E 0))] := hl
  unfold wX6_never at h
  refine lv_aload_n hx hb (dAt dX6_never 0 rfl) rfl (lv_at hl 0 rfl) ?_
  refine x_getr C hw fl_X6_32 (hE.1 0) (nX hE (by decide)) rfl (dAt dX6_never 1 rfl) ?_
  refine lv_aload_n hx hb (dAt dX6_never 2 rfl) rfl (lv_at hl 0 rfl) ?_
  refine x_getr C hw fl_X6_28 (hE.1 0) (nX hE (by decide)) rfl (dAt dX6_never 3 rfl) ?_
  refine x_callv C hw (x_runVN (As := [.ref (gE E 10)]) (rest := []) C hw (kX3_become l E hE 15 isS_15 10 isS_10 σ _ h) mtX3_become lk_X6_202 (hE.1 15) (nX hE (by decide)) rfl ⟨by decide, by decide⟩ ⟨rfl, rfl⟩ rfl hl.1 rfl (Nat.le_of_ble_eq_true rfl) (dAt dX6_never 4 rfl) ⟨Nat.zero_le _, Nat.zero_le _⟩) (fun σ8 H locs h hw => ?_)
  refine lv_iconst (v := 0) hx hb (dAt dX6_never 5 rfl) (by decide) ?_
  refine lv_istore_n (lv' := [(1, .int (0 : Int32)), (0, .ref (gE E 0))]) hx hb (dAt dX6_never 6 rfl) rfl hl (by decide) rfl (fun ls hl => ?_)
  refine lv_iconst (v := 0) hx hb (dAt dX6_never 7 rfl) (by decide) ?_
  refine lv_istore_n (lv' := [(2, .int (0 : Int32)), (1, .int (0 : Int32)), (0, .ref (gE E 0))]) hx hb (dAt dX6_never 8 rfl) rfl hl (by decide) rfl (fun ls hl => ?_)
  obtain ⟨n15, h⟩ := h
  exact kX6_never_15 hE C hr hlk n15 (0 : Int32) (0 : Int32) σ8  _ _ _ hw (lv_sub hl [2, 1, 0] rfl) h
def tX6_ways : List (Nat × Instr × Nat) := [(0, .aload_n 0, 1), (1, .iload_n 1, 1), (2, .invokevirtual 89, 3), (5, .ifCond .ne 6, 3), (8, .bipush (-2), 2), (10, .ireturn, 1), (11, .aload_n 0, 1), (12, .getfield 32, 3), (15, .aload_n 0, 1), (16, .getfield 28, 3), (19, .invokevirtual 202, 3), (22, .iconst 0, 1), (23, .istore_n 2, 1), (24, .iconst 0, 1), (25, .istore_n 3, 1), (26, .iload_n 3, 1), (27, .iconst 1, 1), (28, .if_icmp .gt 58, 3), (31, .aload_n 0, 1), (32, .getfield 32, 3), (35, .getfield 95, 3), (38, .iload_n 1, 1), (39, .iload_n 3, 1), (40, .iastore, 1), (41, .aload_n 0, 1), (42, .getfield 42, 3), (45, .aload_n 0, 1), (46, .getfield 32, 3), (49, .aload_n 0, 1), (50, .getfield 21, 3), (53, .invokevirtual 206, 3), (56, .aload_n 0, 1), (57, .getfield 48, 3), (60, .aload_n 0, 1), (61, .getfield 42, 3), (64, .getfield 161, 3), (67, .iconst 0, 1), (68, .invokevirtual 227, 3), (71, .ifCond .eq 9, 3), (74, .iload_n 2, 1), (75, .iconst 1, 1), (76, .iload_n 3, 1), (77, .ishl, 1), (78, .ior, 1), (79, .istore_n 2, 1), (80, .iinc 3 1, 3), (83, .goto (-57), 3), (86, .iload_n 2, 1), (87, .ireturn, 1)]
theorem dX6_ways : dOk cX6_ways tX6_ways = true := by decide +kernel
abbrev rX6_ways : Room := { frames := 3, cells := 0, slots := 0, locals := 94 }
def wX6_ways_26 (Q : Int32 → Mem → Prop) : Nat → Int32 → Int32 → Int32 → Mem → Prop
  | 0, _, _, _, _ => False
  | n + 1, x1, x2, x3, σ => ((((1 : Int32) < x3) → (Q x2 σ)) ∧ ((¬ (1 : Int32) < x3) → (vp_in x1 8 ∧ (∀ σ40 : Mem, σ40 = um σ 17 (x1).toNatClampNeg x3 → (wX0_play 35 15 σ40 (fun σ53 => (wX2_comesOut 44 24 (0 : Int32) σ53 (fun r68 σ68 => (((r68 = 0) → (wX6_ways_26 Q n x1 x2 (x3 + (1 : Int32)) σ68)) ∧ ((¬ r68 = 0) → (∀ x2_79 : Int32, x2_79 = (x2 ||| ((1 : Int32) <<< (x3 &&& 31))) → (wX6_ways_26 Q n x1 x2_79 (x3 + (1 : Int32)) σ68))))))))))))
def wX6_ways (x1 : Int32) (σ : Mem) (Q : Int32 → Mem → Prop) : Prop := (wX6_isDancer x1 σ (fun r2 σ2 => (((¬ r2 = 0) → (wX3_become 15 10 σ2 (fun σ19 => (∃ N26, wX6_ways_26 Q N26 x1 (0 : Int32) (0 : Int32) σ19)))) ∧ ((r2 = 0) → (Q (-2 : Int32) σ2)))))
set_option maxHeartbeats 4000000 in
set_option maxRecDepth 100000 in
theorem kX6_ways_26 {p : Program} {l : Launch} {e : Env} {s : State} {m : MethodId} {args : Array Value} {below : List Frame} {meth : Method} {c : Code} {E : wE} (hE : wX E) (C : Cx p s m args c cX6_ways 4 RX6 E (wA E)) (hr : meth.sig.returnType = (some .int)) (hlk : meth.locks = false) {Q : Int32 → Mem → Prop} : ∀ (n : Nat) (x1 : Int32) (x2 : Int32) (x3 : Int32) (σ : Mem) (H : Heap) (locs : List Loc) (ls : Array Slot), wd E (wA E) s σ H locs → lv_has ls 4 [(0, .ref (gE E 0)), (1, .int x1), (2, .int x2), (3, .int x3)] → wX6_ways_26 Q n x1 x2 x3 σ → W p l e rX6_ways s m args below meth c H locs 0 0 (MQ below (wQi E Q) args s 0 0 (wA E)) (F0 m 26 ls []) := by
  have hx := C.1.1
  have hb := C.1.2.1
  intro n
  induction n with
  | zero =>
    intro x1 x2 x3 σ  H locs ls hw hl h
    exact h.elim
  | succ n ih =>
    intro x1 x2 x3 σ  H locs ls hw hl h
    rw [wX6_ways_26] at h
    refine lv_iload_n hx hb (dAt dX6_ways 15 rfl) rfl (lv_at hl 3 rfl) ?_
    refine lv_iconst (v := 1) hx hb (dAt dX6_ways 16 rfl) (by decide) ?_
    refine lv_icmp_gt (tgt := 86) hx hb (dAt dX6_ways 17 rfl) (by decide) (fun c28 => ?_) (fun c28 => ?_)
    · replace h := h.1 c28
      refine lv_iload_n hx hb (dAt dX6_ways 47 rfl) rfl (lv_at hl 2 rfl) ?_
      exact x_iret C hw hr hlk h (dAt dX6_ways 48 rfl)
    · replace h := h.2 c28
      refine lv_aload_n hx hb (dAt dX6_ways 18 rfl) rfl (lv_at hl 0 rfl) ?_
      refine x_getr C hw fl_X6_32 (hE.1 0) (nX hE (by decide)) rfl (dAt dX6_ways 19 rfl) ?_
      refine x_getrN C hw fl_X6_95 (hE.1 15) (nX hE (by decide)) rfl (dAt dX6_ways 20 rfl) ?_
      refine lv_iload_n hx hb (dAt dX6_ways 21 rfl) rfl (lv_at hl 1 rfl) ?_
      refine lv_iload_n hx hb (dAt dX6_ways 22 rfl) rfl (lv_at hl 3 rfl) ?_
      obtain ⟨z40, h⟩ := h
      refine x_ist C hw (hE.1 17) (nX hE (by decide)) z40 rfl (dAt dX6_ways 23 rfl) (fun σ40 H locs eσ40 hw => ?_)
      replace h := h σ40 eσ40
      refine lv_aload_n hx hb (dAt dX6_ways 24 rfl) rfl (lv_at hl 0 rfl) ?_
      refine x_getr C hw fl_X6_42 (hE.1 0) (nX hE (by decide)) rfl (dAt dX6_ways 25 rfl) ?_
      refine lv_aload_n hx hb (dAt dX6_ways 26 rfl) rfl (lv_at hl 0 rfl) ?_
      refine x_getr C hw fl_X6_32 (hE.1 0) (nX hE (by decide)) rfl (dAt dX6_ways 27 rfl) ?_
      refine lv_aload_n hx hb (dAt dX6_ways 28 rfl) rfl (lv_at hl 0 rfl) ?_
      refine x_getr C hw fl_X6_21 (hE.1 0) (nX hE (by decide)) rfl (dAt dX6_ways 29 rfl) ?_
      refine x_callv C hw (x_runVN (As := [.ref (gE E 15), .ref (gE E 6)]) (rest := []) C hw (kX0_play l E hE 35 isD_35 15 isS_15 σ40 _ h) mtX0_play lk_X6_206 (hE.1 35) (nX hE (by decide)) rfl ⟨by decide, by decide⟩ ⟨rfl, rfl⟩ rfl hl.1 rfl (Nat.le_of_ble_eq_true rfl) (dAt dX6_ways 30 rfl) ⟨Nat.zero_le _, Nat.zero_le _⟩) (fun σ53 H locs h hw => ?_)
      refine lv_aload_n hx hb (dAt dX6_ways 31 rfl) rfl (lv_at hl 0 rfl) ?_
      refine x_getr C hw fl_X6_48 (hE.1 0) (nX hE (by decide)) rfl (dAt dX6_ways 32 rfl) ?_
      refine lv_aload_n hx hb (dAt dX6_ways 33 rfl) rfl (lv_at hl 0 rfl) ?_
      refine x_getr C hw fl_X6_42 (hE.1 0) (nX hE (by decide)) rfl (dAt dX6_ways 34 rfl) ?_
      refine x_getrN C hw fl_X6_161 (hE.1 35) (nX hE (by decide)) rfl (dAt dX6_ways 35 rfl) ?_
      refine lv_iconst (v := 0) hx hb (dAt dX6_ways 36 rfl) (by decide) ?_
      refine x_calli C hw (x_runVN (As := [.ref (gE E 44), .int (0 : Int32)]) (rest := []) C hw (kX2_comesOut l E hE 44 24 (hE.1 44) (nX hE (by decide)) (0 : Int32) σ53 _ h) mtX2_comesOut lk_X6_227 (hE.1 50) (nX hE (by decide)) rfl ⟨by decide, by decide⟩ ⟨rfl, rfl⟩ rfl hl.1 rfl (Nat.le_of_ble_eq_true rfl) (dAt dX6_ways 37 rfl) ⟨Nat.zero_le _, Nat.zero_le _⟩) (fun r68 σ68 H locs h hw => ?_)
      refine lv_if_eq (tgt := 80) hx hb (dAt dX6_ways 38 rfl) (by decide) (fun c71 => ?_) (fun c71 => ?_)
      · replace h := h.1 c71
        refine lv_iinc (v := (x3 + (1 : Int32))) (lv' := [(3, .int (x3 + (1 : Int32))), (0, .ref (gE E 0)), (1, .int x1), (2, .int x2)]) hx hb (dAt dX6_ways 45 rfl) hl (k := 3) rfl rfl (by decide) rfl (fun ls hl => ?_)
        refine lv_goto (tgt := 26) hx hb (dAt dX6_ways 46 rfl) (by decide) ?_
        exact ih x1 x2 (x3 + (1 : Int32)) σ68  _ _ _ hw (lv_sub hl [1, 2, 3, 0] rfl) h
      · replace h := h.2 c71
        refine lv_iload_n hx hb (dAt dX6_ways 39 rfl) rfl (lv_at hl 2 rfl) ?_
        refine lv_iconst (v := 1) hx hb (dAt dX6_ways 40 rfl) (by decide) ?_
        refine lv_iload_n hx hb (dAt dX6_ways 41 rfl) rfl (lv_at hl 3 rfl) ?_
        refine lv_ishl hx hb (dAt dX6_ways 42 rfl) ?_
        refine lv_ior hx hb (dAt dX6_ways 43 rfl) ?_
        refine lv_topi (fun x2_79 ex2_79 => ?_)
        replace h := h x2_79 ex2_79
        refine lv_istore_n (lv' := [(2, .int x2_79), (0, .ref (gE E 0)), (1, .int x1), (3, .int x3)]) hx hb (dAt dX6_ways 44 rfl) rfl hl (by decide) rfl (fun ls hl => ?_)
        refine lv_iinc (v := (x3 + (1 : Int32))) (lv' := [(3, .int (x3 + (1 : Int32))), (2, .int x2_79), (0, .ref (gE E 0)), (1, .int x1)]) hx hb (dAt dX6_ways 45 rfl) hl (k := 3) rfl rfl (by decide) rfl (fun ls hl => ?_)
        refine lv_goto (tgt := 26) hx hb (dAt dX6_ways 46 rfl) (by decide) ?_
        exact ih x1 x2_79 (x3 + (1 : Int32)) σ68  _ _ _ hw (lv_sub hl [2, 3, 1, 0] rfl) h
set_option maxHeartbeats 4000000 in
set_option maxRecDepth 100000 in
theorem kX6_ways (l : Launch) (E : wE) (hE : wX E) (x1 : Int32) (σ : Mem) (Q : Int32 → Mem → Prop) (h : wX6_ways x1 σ Q) : Met l yX6_ways (Cond.code yX6_ways cX6_ways 4 (some .int) :: TB) rX6_ways (wPc E σ [.ref (gE E 0), .int x1]) (wQi E Q) 0 0 (wA E) := by
  refine wMet (by decide) hE.2.2 (Nat.le_of_ble_eq_true rfl) ?_
  intro p e s m args below meth c ls C hr hlk hl hw
  have hx := C.1.1
  have hb := C.1.2.1
  replace C : Cx p s m args c cX6_ways 4 RX6 E (wA E) := C
  replace hl : lv_has ls 4 [(0, .ref (gE E 0)), (1, .int x1)] := hl
  unfold wX6_ways at h
  refine lv_aload_n hx hb (dAt dX6_ways 0 rfl) rfl (lv_at hl 0 rfl) ?_
  refine lv_iload_n hx hb (dAt dX6_ways 1 rfl) rfl (lv_at hl 1 rfl) ?_
  refine x_calli C hw (x_runV (As := [.int x1]) (rest := []) C hw (kX6_isDancer l E hE x1 σ _ h) mtX6_isDancer lk_X6_89 (hE.1 0) (nX hE (by decide)) rfl ⟨by decide, by decide⟩ ⟨rfl, rfl⟩ rfl hl.1 rfl (Nat.le_of_ble_eq_true rfl) (dAt dX6_ways 2 rfl) ⟨Nat.zero_le _, Nat.zero_le _⟩) (fun r2 σ2 H locs h hw => ?_)
  refine lv_if_ne (tgt := 11) hx hb (dAt dX6_ways 3 rfl) (by decide) (fun c5 => ?_) (fun c5 => ?_)
  · replace h := h.1 c5
    refine lv_aload_n hx hb (dAt dX6_ways 6 rfl) rfl (lv_at hl 0 rfl) ?_
    refine x_getr C hw fl_X6_32 (hE.1 0) (nX hE (by decide)) rfl (dAt dX6_ways 7 rfl) ?_
    refine lv_aload_n hx hb (dAt dX6_ways 8 rfl) rfl (lv_at hl 0 rfl) ?_
    refine x_getr C hw fl_X6_28 (hE.1 0) (nX hE (by decide)) rfl (dAt dX6_ways 9 rfl) ?_
    refine x_callv C hw (x_runVN (As := [.ref (gE E 10)]) (rest := []) C hw (kX3_become l E hE 15 isS_15 10 isS_10 σ2 _ h) mtX3_become lk_X6_202 (hE.1 15) (nX hE (by decide)) rfl ⟨by decide, by decide⟩ ⟨rfl, rfl⟩ rfl hl.1 rfl (Nat.le_of_ble_eq_true rfl) (dAt dX6_ways 10 rfl) ⟨Nat.zero_le _, Nat.zero_le _⟩) (fun σ19 H locs h hw => ?_)
    refine lv_iconst (v := 0) hx hb (dAt dX6_ways 11 rfl) (by decide) ?_
    refine lv_istore_n (lv' := [(2, .int (0 : Int32)), (0, .ref (gE E 0)), (1, .int x1)]) hx hb (dAt dX6_ways 12 rfl) rfl hl (by decide) rfl (fun ls hl => ?_)
    refine lv_iconst (v := 0) hx hb (dAt dX6_ways 13 rfl) (by decide) ?_
    refine lv_istore_n (lv' := [(3, .int (0 : Int32)), (2, .int (0 : Int32)), (0, .ref (gE E 0)), (1, .int x1)]) hx hb (dAt dX6_ways 14 rfl) rfl hl (by decide) rfl (fun ls hl => ?_)
    obtain ⟨n26, h⟩ := h
    exact kX6_ways_26 hE C hr hlk n26 x1 (0 : Int32) (0 : Int32) σ19  _ _ _ hw (lv_sub hl [2, 3, 1, 0] rfl) h
  · replace h := h.2 c5
    refine lv_bipush (v := -2) hx hb (dAt dX6_ways 4 rfl) (by decide) ?_
    exact x_iret C hw hr hlk h (dAt dX6_ways 5 rfl)
def tX6_rowOfLength : List (Nat × Instr × Nat) := [(0, .iload_n 0, 1), (1, .iconst 2, 1), (2, .isub, 1), (3, .bipush 24, 2), (5, .imul, 1), (6, .ireturn, 1)]
theorem dX6_rowOfLength : dOk cX6_rowOfLength tX6_rowOfLength = true := by decide +kernel
abbrev rX6_rowOfLength : Room := { frames := 0, cells := 0, slots := 0, locals := 0 }
def wX6_rowOfLength (x0 : Int32) (σ : Mem) (Q : Int32 → Mem → Prop) : Prop := (Q ((x0 - (2 : Int32)) * (24 : Int32)) σ)
set_option maxHeartbeats 4000000 in
set_option maxRecDepth 100000 in
theorem kX6_rowOfLength (l : Launch) (E : wE) (hE : wX E) (x0 : Int32) (σ : Mem) (Q : Int32 → Mem → Prop) (h : wX6_rowOfLength x0 σ Q) : Met l yX6_rowOfLength (Cond.code yX6_rowOfLength cX6_rowOfLength 1 (some .int) :: TB) rX6_rowOfLength (wPc E σ [.int x0]) (wQi E Q) 0 0 (wA E) := by
  refine wMet (by decide) hE.2.2 (Nat.le_of_ble_eq_true rfl) ?_
  intro p e s m args below meth c ls C hr hlk hl hw
  have hx := C.1.1
  have hb := C.1.2.1
  replace C : Cx p s m args c cX6_rowOfLength 1 RX6 E (wA E) := C
  replace hl : lv_has ls 1 [(0, .int x0)] := hl
  unfold wX6_rowOfLength at h
  refine lv_iload_n hx hb (dAt dX6_rowOfLength 0 rfl) rfl (lv_at hl 0 rfl) ?_
  refine lv_iconst (v := 2) hx hb (dAt dX6_rowOfLength 1 rfl) (by decide) ?_
  refine lv_isub hx hb (dAt dX6_rowOfLength 2 rfl) ?_
  refine lv_bipush (v := 24) hx hb (dAt dX6_rowOfLength 3 rfl) (by decide) ?_
  refine lv_imul hx hb (dAt dX6_rowOfLength 4 rfl) ?_
  exact x_iret C hw hr hlk h (dAt dX6_rowOfLength 5 rfl)
def tX6_lengths : List (Nat × Instr × Nat) := [(0, .aload_n 0, 1), (1, .getfield 32, 3), (4, .aload_n 0, 1), (5, .getfield 28, 3), (8, .invokevirtual 202, 3), (11, .iconst 0, 1), (12, .istore_n 1, 1), (13, .iconst 2, 1), (14, .istore_n 2, 1), (15, .iload_n 2, 1), (16, .bipush 30, 2), (18, .if_icmp .gt 84, 3), (21, .aload_n 0, 1), (22, .getfield 231, 3), (25, .ifCond .ne 47, 3), (28, .aload_n 0, 1), (29, .getfield 32, 3), (32, .iload_n 2, 1), (33, .putfield 107, 3), (36, .aload_n 0, 1), (37, .getfield 42, 3), (40, .aload_n 0, 1), (41, .getfield 32, 3), (44, .aload_n 0, 1), (45, .getfield 21, 3), (48, .invokevirtual 206, 3), (51, .aload_n 0, 1), (52, .getfield 42, 3), (55, .getfield 161, 3), (58, .iconst 0, 1), (59, .aload_n 0, 1), (60, .getfield 63, 3), (63, .iload_n 2, 1), (64, .invokestatic 235, 3), (67, .bipush 24, 2), (69, .invokestatic 238, 3), (72, .aload_n 0, 1), (73, .getfield 48, 3), (76, .aload_n 0, 1), (77, .getfield 63, 3), (80, .iload_n 2, 1), (81, .invokestatic 235, 3), (84, .invokevirtual 227, 3), (87, .ifCond .eq 9, 3), (90, .iload_n 1, 1), (91, .iconst 1, 1), (92, .iload_n 2, 1), (93, .ishl, 1), (94, .ior, 1), (95, .istore_n 1, 1), (96, .iinc 2 1, 3), (99, .goto (-84), 3), (102, .aload_n 0, 1), (103, .iconst 1, 1), (104, .putfield 231, 3), (107, .iload_n 1, 1), (108, .ireturn, 1)]
theorem dX6_lengths : dOk cX6_lengths tX6_lengths = true := by decide +kernel
abbrev rX6_lengths : Room := { frames := 3, cells := 0, slots := 0, locals := 94 }
def wX6_lengths_72 (K15 : Int32 → Int32 → Mem → Prop) (Q : Int32 → Mem → Prop) (x1 : Int32) (x2 : Int32) (σ : Mem) : Prop := (wX6_rowOfLength x2 σ (fun r81 σ81 => (wX2_comesOut 63 696 r81 σ81 (fun r84 σ84 => (((r84 = 0) → (K15 x1 (x2 + (1 : Int32)) σ84)) ∧ ((¬ r84 = 0) → (∀ x1_95 : Int32, x1_95 = (x1 ||| ((1 : Int32) <<< (x2 &&& 31))) → (K15 x1_95 (x2 + (1 : Int32)) σ84))))))))
def wX6_lengths_15 (Q : Int32 → Mem → Prop) : Nat → Int32 → Int32 → Mem → Prop
  | 0, _, _, _ => False
  | n + 1, x1, x2, σ => ((((30 : Int32) < x2) → (∀ σ104 : Mem, σ104 = um σ 0 12 (1 : Int32) → (Q x1 σ104))) ∧ ((¬ (30 : Int32) < x2) → (((¬ (σ 0 12) = 0) → (wX6_lengths_72 (fun x1 x2 ρ => wX6_lengths_15 Q n x1 x2 ρ) Q x1 x2 σ)) ∧ (((σ 0 12) = 0) → (∀ σ33 : Mem, σ33 = um σ 15 5 x2 → (wX0_play 35 15 σ33 (fun σ48 => (wX6_rowOfLength x2 σ48 (fun r64 σ64 => (cpOk (0 : Int32) r64 (24 : Int32) 24 696 ∧ ∀ σ69 : Mem, σ69 = cpM σ64 44 63 ((0 : Int32)).toNatClampNeg (r64).toNatClampNeg ((24 : Int32)).toNatClampNeg → (wX6_lengths_72 (fun x1 x2 ρ => wX6_lengths_15 Q n x1 x2 ρ) Q x1 x2 σ69)))))))))))
def wX6_lengths (σ : Mem) (Q : Int32 → Mem → Prop) : Prop := (wX3_become 15 10 σ (fun σ8 => (∃ N15, wX6_lengths_15 Q N15 (0 : Int32) (2 : Int32) σ8)))
set_option maxHeartbeats 4000000 in
set_option maxRecDepth 100000 in
theorem kX6_lengths_72 {p : Program} {l : Launch} {e : Env} {s : State} {m : MethodId} {args : Array Value} {below : List Frame} {meth : Method} {c : Code} {E : wE} (hE : wX E) (C : Cx p s m args c cX6_lengths 3 RX6 E (wA E)) (hr : meth.sig.returnType = (some .int)) (hlk : meth.locks = false) {Q : Int32 → Mem → Prop} {K15 : Int32 → Int32 → Mem → Prop} (hK15 : ∀ (x1 : Int32) (x2 : Int32) (σ : Mem) (H : Heap) (locs : List Loc) (ls : Array Slot), wd E (wA E) s σ H locs → lv_has ls 3 [(0, .ref (gE E 0)), (1, .int x1), (2, .int x2)] → K15 x1 x2 σ → W p l e rX6_lengths s m args below meth c H locs 0 0 (MQ below (wQi E Q) args s 0 0 (wA E)) (F0 m 15 ls [])) : ∀ (x1 : Int32) (x2 : Int32) (σ : Mem) (H : Heap) (locs : List Loc) (ls : Array Slot), wd E (wA E) s σ H locs → lv_has ls 3 [(0, .ref (gE E 0)), (1, .int x1), (2, .int x2)] → wX6_lengths_72 K15 Q x1 x2 σ → W p l e rX6_lengths s m args below meth c H locs 0 0 (MQ below (wQi E Q) args s 0 0 (wA E)) (F0 m 72 ls []) := by
  have hx := C.1.1
  have hb := C.1.2.1
  intro x1 x2 σ  H locs ls hw hl h
  unfold wX6_lengths_72 at h
  refine lv_aload_n hx hb (dAt dX6_lengths 36 rfl) rfl (lv_at hl 0 rfl) ?_
  refine x_getr C hw fl_X6_48 (hE.1 0) (nX hE (by decide)) rfl (dAt dX6_lengths 37 rfl) ?_
  refine lv_aload_n hx hb (dAt dX6_lengths 38 rfl) rfl (lv_at hl 0 rfl) ?_
  refine x_getr C hw fl_X6_63 (hE.1 0) (nX hE (by decide)) rfl (dAt dX6_lengths 39 rfl) ?_
  refine lv_iload_n hx hb (dAt dX6_lengths 40 rfl) rfl (lv_at hl 2 rfl) ?_
  refine x_calli C hw (x_runS (As := [.int x2]) (rest := [.ref (gE E 63), .ref (gE E 50)]) C hw (kX6_rowOfLength l E hE x2 σ _ h) mtX6_rowOfLength lk_X6_235 ⟨by decide, by decide⟩ ⟨rfl, rfl⟩ rfl hl.1 rfl (Nat.le_of_ble_eq_true rfl) (dAt dX6_lengths 41 rfl) ⟨Nat.zero_le _, Nat.zero_le _⟩) (fun r81 σ81 H locs h hw => ?_)
  refine x_calli C hw (x_runVN (As := [.ref (gE E 63), .int r81]) (rest := []) C hw (kX2_comesOut l E hE 63 696 (hE.1 63) (nX hE (by decide)) r81 σ81 _ h) mtX2_comesOut lk_X6_227 (hE.1 50) (nX hE (by decide)) rfl ⟨by decide, by decide⟩ ⟨rfl, rfl⟩ rfl hl.1 rfl (Nat.le_of_ble_eq_true rfl) (dAt dX6_lengths 42 rfl) ⟨Nat.zero_le _, Nat.zero_le _⟩) (fun r84 σ84 H locs h hw => ?_)
  refine lv_if_eq (tgt := 96) hx hb (dAt dX6_lengths 43 rfl) (by decide) (fun c87 => ?_) (fun c87 => ?_)
  · replace h := h.1 c87
    refine lv_iinc (v := (x2 + (1 : Int32))) (lv' := [(2, .int (x2 + (1 : Int32))), (0, .ref (gE E 0)), (1, .int x1)]) hx hb (dAt dX6_lengths 50 rfl) hl (k := 2) rfl rfl (by decide) rfl (fun ls hl => ?_)
    refine lv_goto (tgt := 15) hx hb (dAt dX6_lengths 51 rfl) (by decide) ?_
    exact hK15 x1 (x2 + (1 : Int32)) σ84  _ _ _ hw (lv_sub hl [1, 2, 0] rfl) h
  · replace h := h.2 c87
    refine lv_iload_n hx hb (dAt dX6_lengths 44 rfl) rfl (lv_at hl 1 rfl) ?_
    refine lv_iconst (v := 1) hx hb (dAt dX6_lengths 45 rfl) (by decide) ?_
    refine lv_iload_n hx hb (dAt dX6_lengths 46 rfl) rfl (lv_at hl 2 rfl) ?_
    refine lv_ishl hx hb (dAt dX6_lengths 47 rfl) ?_
    refine lv_ior hx hb (dAt dX6_lengths 48 rfl) ?_
    refine lv_topi (fun x1_95 ex1_95 => ?_)
    replace h := h x1_95 ex1_95
    refine lv_istore_n (lv' := [(1, .int x1_95), (0, .ref (gE E 0)), (2, .int x2)]) hx hb (dAt dX6_lengths 49 rfl) rfl hl (by decide) rfl (fun ls hl => ?_)
    refine lv_iinc (v := (x2 + (1 : Int32))) (lv' := [(2, .int (x2 + (1 : Int32))), (1, .int x1_95), (0, .ref (gE E 0))]) hx hb (dAt dX6_lengths 50 rfl) hl (k := 2) rfl rfl (by decide) rfl (fun ls hl => ?_)
    refine lv_goto (tgt := 15) hx hb (dAt dX6_lengths 51 rfl) (by decide) ?_
    exact hK15 x1_95 (x2 + (1 : Int32)) σ84  _ _ _ hw (lv_sub hl [2, 1, 0] rfl) h
set_option maxHeartbeats 4000000 in
set_option maxRecDepth 100000 in
theorem kX6_lengths_15 {p : Program} {l : Launch} {e : Env} {s : State} {m : MethodId} {args : Array Value} {below : List Frame} {meth : Method} {c : Code} {E : wE} (hE : wX E) (C : Cx p s m args c cX6_lengths 3 RX6 E (wA E)) (hr : meth.sig.returnType = (some .int)) (hlk : meth.locks = false) {Q : Int32 → Mem → Prop} : ∀ (n : Nat) (x1 : Int32) (x2 : Int32) (σ : Mem) (H : Heap) (locs : List Loc) (ls : Array Slot), wd E (wA E) s σ H locs → lv_has ls 3 [(0, .ref (gE E 0)), (1, .int x1), (2, .int x2)] → wX6_lengths_15 Q n x1 x2 σ → W p l e rX6_lengths s m args below meth c H locs 0 0 (MQ below (wQi E Q) args s 0 0 (wA E)) (F0 m 15 ls []) := by
  have hx := C.1.1
  have hb := C.1.2.1
  intro n
  induction n with
  | zero =>
    intro x1 x2 σ  H locs ls hw hl h
    exact h.elim
  | succ n ih =>
    intro x1 x2 σ  H locs ls hw hl h
    rw [wX6_lengths_15] at h
    refine lv_iload_n hx hb (dAt dX6_lengths 9 rfl) rfl (lv_at hl 2 rfl) ?_
    refine lv_bipush (v := 30) hx hb (dAt dX6_lengths 10 rfl) (by decide) ?_
    refine lv_icmp_gt (tgt := 102) hx hb (dAt dX6_lengths 11 rfl) (by decide) (fun c18 => ?_) (fun c18 => ?_)
    · replace h := h.1 c18
      refine lv_aload_n hx hb (dAt dX6_lengths 52 rfl) rfl (lv_at hl 0 rfl) ?_
      refine lv_iconst (v := 1) hx hb (dAt dX6_lengths 53 rfl) (by decide) ?_
      refine x_pf C hw fl_X6_231 (hE.1 0) (nX hE (by decide)) rfl rfl rfl (dAt dX6_lengths 54 rfl) (fun σ104 H locs eσ104 hw => ?_)
      replace h := h σ104 eσ104
      refine lv_iload_n hx hb (dAt dX6_lengths 55 rfl) rfl (lv_at hl 1 rfl) ?_
      exact x_iret C hw hr hlk h (dAt dX6_lengths 56 rfl)
    · replace h := h.2 c18
      refine lv_aload_n hx hb (dAt dX6_lengths 12 rfl) rfl (lv_at hl 0 rfl) ?_
      refine x_geti C hw fl_X6_231 (hE.1 0) (nX hE (by decide)) rfl (dAt dX6_lengths 13 rfl) ?_
      refine lv_if_ne (tgt := 72) hx hb (dAt dX6_lengths 14 rfl) (by decide) (fun c25 => ?_) (fun c25 => ?_)
      · replace h := h.1 c25
        exact kX6_lengths_72 hE C hr hlk ih x1 x2 σ  _ _ _ hw (lv_sub hl [0, 1, 2] rfl) h
      · replace h := h.2 c25
        refine lv_aload_n hx hb (dAt dX6_lengths 15 rfl) rfl (lv_at hl 0 rfl) ?_
        refine x_getr C hw fl_X6_32 (hE.1 0) (nX hE (by decide)) rfl (dAt dX6_lengths 16 rfl) ?_
        refine lv_iload_n hx hb (dAt dX6_lengths 17 rfl) rfl (lv_at hl 2 rfl) ?_
        refine x_pfN C hw fl_X6_107 (hE.1 15) (nX hE (by decide)) rfl rfl rfl (dAt dX6_lengths 18 rfl) (fun σ33 H locs eσ33 hw => ?_)
        replace h := h σ33 eσ33
        refine lv_aload_n hx hb (dAt dX6_lengths 19 rfl) rfl (lv_at hl 0 rfl) ?_
        refine x_getr C hw fl_X6_42 (hE.1 0) (nX hE (by decide)) rfl (dAt dX6_lengths 20 rfl) ?_
        refine lv_aload_n hx hb (dAt dX6_lengths 21 rfl) rfl (lv_at hl 0 rfl) ?_
        refine x_getr C hw fl_X6_32 (hE.1 0) (nX hE (by decide)) rfl (dAt dX6_lengths 22 rfl) ?_
        refine lv_aload_n hx hb (dAt dX6_lengths 23 rfl) rfl (lv_at hl 0 rfl) ?_
        refine x_getr C hw fl_X6_21 (hE.1 0) (nX hE (by decide)) rfl (dAt dX6_lengths 24 rfl) ?_
        refine x_callv C hw (x_runVN (As := [.ref (gE E 15), .ref (gE E 6)]) (rest := []) C hw (kX0_play l E hE 35 isD_35 15 isS_15 σ33 _ h) mtX0_play lk_X6_206 (hE.1 35) (nX hE (by decide)) rfl ⟨by decide, by decide⟩ ⟨rfl, rfl⟩ rfl hl.1 rfl (Nat.le_of_ble_eq_true rfl) (dAt dX6_lengths 25 rfl) ⟨Nat.zero_le _, Nat.zero_le _⟩) (fun σ48 H locs h hw => ?_)
        refine lv_aload_n hx hb (dAt dX6_lengths 26 rfl) rfl (lv_at hl 0 rfl) ?_
        refine x_getr C hw fl_X6_42 (hE.1 0) (nX hE (by decide)) rfl (dAt dX6_lengths 27 rfl) ?_
        refine x_getrN C hw fl_X6_161 (hE.1 35) (nX hE (by decide)) rfl (dAt dX6_lengths 28 rfl) ?_
        refine lv_iconst (v := 0) hx hb (dAt dX6_lengths 29 rfl) (by decide) ?_
        refine lv_aload_n hx hb (dAt dX6_lengths 30 rfl) rfl (lv_at hl 0 rfl) ?_
        refine x_getr C hw fl_X6_63 (hE.1 0) (nX hE (by decide)) rfl (dAt dX6_lengths 31 rfl) ?_
        refine lv_iload_n hx hb (dAt dX6_lengths 32 rfl) rfl (lv_at hl 2 rfl) ?_
        refine x_calli C hw (x_runS (As := [.int x2]) (rest := [.ref (gE E 63), .int (0 : Int32), .ref (gE E 44)]) C hw (kX6_rowOfLength l E hE x2 σ48 _ h) mtX6_rowOfLength lk_X6_235 ⟨by decide, by decide⟩ ⟨rfl, rfl⟩ rfl hl.1 rfl (Nat.le_of_ble_eq_true rfl) (dAt dX6_lengths 33 rfl) ⟨Nat.zero_le _, Nat.zero_le _⟩) (fun r64 σ64 H locs h hw => ?_)
        refine lv_bipush (v := 24) hx hb (dAt dX6_lengths 34 rfl) (by decide) ?_
        obtain ⟨z69, h⟩ := h
        refine x_cp C hw hl.1 lcp_X6_238 (hE.1 44) (nX hE (by decide)) (hE.1 63) (nX hE (by decide)) ncp_1 ncp_2 ncp_3 z69 (Nat.le_of_ble_eq_true rfl) (Nat.le_of_ble_eq_true rfl) (dAt dX6_lengths 35 rfl) (fun σ69 H locs eσ69 hw => ?_)
        replace h := h σ69 eσ69
        exact kX6_lengths_72 hE C hr hlk ih x1 x2 σ69  _ _ _ hw (lv_sub hl [0, 1, 2] rfl) h
set_option maxHeartbeats 4000000 in
set_option maxRecDepth 100000 in
theorem kX6_lengths (l : Launch) (E : wE) (hE : wX E) (σ : Mem) (Q : Int32 → Mem → Prop) (h : wX6_lengths  σ Q) : Met l yX6_lengths (Cond.code yX6_lengths cX6_lengths 3 (some .int) :: TB) rX6_lengths (wPc E σ [.ref (gE E 0)]) (wQi E Q) 0 0 (wA E) := by
  refine wMet (by decide) hE.2.2 (Nat.le_of_ble_eq_true rfl) ?_
  intro p e s m args below meth c ls C hr hlk hl hw
  have hx := C.1.1
  have hb := C.1.2.1
  replace C : Cx p s m args c cX6_lengths 3 RX6 E (wA E) := C
  replace hl : lv_has ls 3 [(0, .ref (gE E 0))] := hl
  unfold wX6_lengths at h
  refine lv_aload_n hx hb (dAt dX6_lengths 0 rfl) rfl (lv_at hl 0 rfl) ?_
  refine x_getr C hw fl_X6_32 (hE.1 0) (nX hE (by decide)) rfl (dAt dX6_lengths 1 rfl) ?_
  refine lv_aload_n hx hb (dAt dX6_lengths 2 rfl) rfl (lv_at hl 0 rfl) ?_
  refine x_getr C hw fl_X6_28 (hE.1 0) (nX hE (by decide)) rfl (dAt dX6_lengths 3 rfl) ?_
  refine x_callv C hw (x_runVN (As := [.ref (gE E 10)]) (rest := []) C hw (kX3_become l E hE 15 isS_15 10 isS_10 σ _ h) mtX3_become lk_X6_202 (hE.1 15) (nX hE (by decide)) rfl ⟨by decide, by decide⟩ ⟨rfl, rfl⟩ rfl hl.1 rfl (Nat.le_of_ble_eq_true rfl) (dAt dX6_lengths 4 rfl) ⟨Nat.zero_le _, Nat.zero_le _⟩) (fun σ8 H locs h hw => ?_)
  refine lv_iconst (v := 0) hx hb (dAt dX6_lengths 5 rfl) (by decide) ?_
  refine lv_istore_n (lv' := [(1, .int (0 : Int32)), (0, .ref (gE E 0))]) hx hb (dAt dX6_lengths 6 rfl) rfl hl (by decide) rfl (fun ls hl => ?_)
  refine lv_iconst (v := 2) hx hb (dAt dX6_lengths 7 rfl) (by decide) ?_
  refine lv_istore_n (lv' := [(2, .int (2 : Int32)), (1, .int (0 : Int32)), (0, .ref (gE E 0))]) hx hb (dAt dX6_lengths 8 rfl) rfl hl (by decide) rfl (fun ls hl => ?_)
  obtain ⟨n15, h⟩ := h
  exact kX6_lengths_15 hE C hr hlk n15 (0 : Int32) (2 : Int32) σ8  _ _ _ hw (lv_sub hl [2, 1, 0] rfl) h
def tX6_greatestGroup : List (Nat × Instr × Nat) := [(0, .aload_n 0, 1), (1, .getfield 66, 3), (4, .iconst 0, 1), (5, .invokestatic 267, 3), (8, .iconst 0, 1), (9, .istore_n 3, 1), (10, .iconst 2, 1), (11, .istore 4, 2), (13, .iload 4, 2), (15, .bipush 30, 2), (17, .if_icmp .gt 58, 3), (20, .iload_n 1, 1), (21, .iload 4, 2), (23, .invokestatic 213, 3), (26, .ifCond .ne 6, 3), (29, .goto 40, 3), (32, .aload_n 0, 1), (33, .getfield 63, 3), (36, .iload 4, 2), (38, .invokestatic 235, 3), (41, .iload_n 2, 1), (42, .iadd, 1), (43, .iaload, 1), (44, .istore 5, 2), (46, .aload_n 0, 1), (47, .getfield 66, 3), (50, .iload 5, 2), (52, .dup2, 1), (53, .iaload, 1), (54, .iconst 1, 1), (55, .iadd, 1), (56, .iastore, 1), (57, .iload_n 3, 1), (58, .aload_n 0, 1), (59, .getfield 66, 3), (62, .iload 5, 2), (64, .iaload, 1), (65, .invokestatic 397, 3), (68, .istore_n 3, 1), (69, .iinc 4 1, 3), (72, .goto (-59), 3), (75, .iload_n 3, 1), (76, .ireturn, 1)]
theorem dX6_greatestGroup : dOk cX6_greatestGroup tX6_greatestGroup = true := by decide +kernel
abbrev rX6_greatestGroup : Room := { frames := 1, cells := 0, slots := 0, locals := 30 }
def wX6_greatestGroup_13 (Q : Int32 → Mem → Prop) : Nat → Int32 → Int32 → Int32 → Int32 → Mem → Prop
  | 0, _, _, _, _, _ => False
  | n + 1, x1, x2, x3, x4, σ => ((((30 : Int32) < x4) → (Q x3 σ)) ∧ ((¬ (30 : Int32) < x4) → (wX6_has x1 x4 σ (fun r23 σ23 => (((¬ r23 = 0) → (wX6_rowOfLength x4 σ23 (fun r38 σ38 => (vp_in (r38 + x2) 696 ∧ (∀ x5_44 : Int32, x5_44 = (σ38 63 ((r38 + x2)).toNatClampNeg) → (vp_in x5_44 121 ∧ (vp_in x5_44 121 ∧ (∀ σ56 : Mem, σ56 = um σ38 64 (x5_44).toNatClampNeg ((σ38 64 (x5_44).toNatClampNeg) + (1 : Int32)) → (vp_in x5_44 121 ∧ (∀ x3_68 : Int32, x3_68 = (if x3 < (σ56 64 (x5_44).toNatClampNeg) then (σ56 64 (x5_44).toNatClampNeg) else x3) → (wX6_greatestGroup_13 Q n x1 x2 x3_68 (x4 + (1 : Int32)) σ56))))))))))) ∧ ((r23 = 0) → (wX6_greatestGroup_13 Q n x1 x2 x3 (x4 + (1 : Int32)) σ23)))))))
def wX6_greatestGroup (x1 : Int32) (x2 : Int32) (σ : Mem) (Q : Int32 → Mem → Prop) : Prop := (wJ7_fill_53178 64 121 (0 : Int32) σ (fun σ5 => (∃ N13, wX6_greatestGroup_13 Q N13 x1 x2 (0 : Int32) (2 : Int32) σ5)))
set_option maxHeartbeats 4000000 in
set_option maxRecDepth 100000 in
theorem kX6_greatestGroup_13 {p : Program} {l : Launch} {e : Env} {s : State} {m : MethodId} {args : Array Value} {below : List Frame} {meth : Method} {c : Code} {E : wE} (hE : wX E) (C : Cx p s m args c cX6_greatestGroup 6 RX6 E (wA E)) (hr : meth.sig.returnType = (some .int)) (hlk : meth.locks = false) {Q : Int32 → Mem → Prop} : ∀ (n : Nat) (x1 : Int32) (x2 : Int32) (x3 : Int32) (x4 : Int32) (σ : Mem) (H : Heap) (locs : List Loc) (ls : Array Slot), wd E (wA E) s σ H locs → lv_has ls 6 [(0, .ref (gE E 0)), (1, .int x1), (2, .int x2), (3, .int x3), (4, .int x4)] → wX6_greatestGroup_13 Q n x1 x2 x3 x4 σ → W p l e rX6_greatestGroup s m args below meth c H locs 0 0 (MQ below (wQi E Q) args s 0 0 (wA E)) (F0 m 13 ls []) := by
  have hx := C.1.1
  have hb := C.1.2.1
  intro n
  induction n with
  | zero =>
    intro x1 x2 x3 x4 σ  H locs ls hw hl h
    exact h.elim
  | succ n ih =>
    intro x1 x2 x3 x4 σ  H locs ls hw hl h
    rw [wX6_greatestGroup_13] at h
    refine lv_iload hx hb (dAt dX6_greatestGroup 8 rfl) (lv_at hl 4 rfl) ?_
    refine lv_bipush (v := 30) hx hb (dAt dX6_greatestGroup 9 rfl) (by decide) ?_
    refine lv_icmp_gt (tgt := 75) hx hb (dAt dX6_greatestGroup 10 rfl) (by decide) (fun c17 => ?_) (fun c17 => ?_)
    · replace h := h.1 c17
      refine lv_iload_n hx hb (dAt dX6_greatestGroup 41 rfl) rfl (lv_at hl 3 rfl) ?_
      exact x_iret C hw hr hlk h (dAt dX6_greatestGroup 42 rfl)
    · replace h := h.2 c17
      refine lv_iload_n hx hb (dAt dX6_greatestGroup 11 rfl) rfl (lv_at hl 1 rfl) ?_
      refine lv_iload hx hb (dAt dX6_greatestGroup 12 rfl) (lv_at hl 4 rfl) ?_
      refine x_calli C hw (x_runS (As := [.int x1, .int x4]) (rest := []) C hw (kX6_has l E hE x1 x4 σ _ h) mtX6_has lk_X6_213 ⟨by decide, by decide⟩ ⟨rfl, rfl⟩ rfl hl.1 rfl (Nat.le_of_ble_eq_true rfl) (dAt dX6_greatestGroup 13 rfl) ⟨Nat.zero_le _, Nat.zero_le _⟩) (fun r23 σ23 H locs h hw => ?_)
      refine lv_if_ne (tgt := 32) hx hb (dAt dX6_greatestGroup 14 rfl) (by decide) (fun c26 => ?_) (fun c26 => ?_)
      · replace h := h.1 c26
        refine lv_aload_n hx hb (dAt dX6_greatestGroup 16 rfl) rfl (lv_at hl 0 rfl) ?_
        refine x_getr C hw fl_X6_63 (hE.1 0) (nX hE (by decide)) rfl (dAt dX6_greatestGroup 17 rfl) ?_
        refine lv_iload hx hb (dAt dX6_greatestGroup 18 rfl) (lv_at hl 4 rfl) ?_
        refine x_calli C hw (x_runS (As := [.int x4]) (rest := [.ref (gE E 63)]) C hw (kX6_rowOfLength l E hE x4 σ23 _ h) mtX6_rowOfLength lk_X6_235 ⟨by decide, by decide⟩ ⟨rfl, rfl⟩ rfl hl.1 rfl (Nat.le_of_ble_eq_true rfl) (dAt dX6_greatestGroup 19 rfl) ⟨Nat.zero_le _, Nat.zero_le _⟩) (fun r38 σ38 H locs h hw => ?_)
        refine lv_iload_n hx hb (dAt dX6_greatestGroup 20 rfl) rfl (lv_at hl 2 rfl) ?_
        refine lv_iadd hx hb (dAt dX6_greatestGroup 21 rfl) ?_
        obtain ⟨z43, h⟩ := h
        refine x_ild C hw (hE.1 63) (nX hE (by decide)) z43 rfl (dAt dX6_greatestGroup 22 rfl) ?_
        refine lv_topi (fun x5_44 ex5_44 => ?_)
        replace h := h x5_44 ex5_44
        refine lv_istore (lv' := [(5, .int x5_44), (0, .ref (gE E 0)), (1, .int x1), (2, .int x2), (3, .int x3), (4, .int x4)]) hx hb (dAt dX6_greatestGroup 23 rfl) hl (by decide) rfl (fun ls hl => ?_)
        refine lv_aload_n hx hb (dAt dX6_greatestGroup 24 rfl) rfl (lv_at hl 1 rfl) ?_
        refine x_getr C hw fl_X6_66 (hE.1 0) (nX hE (by decide)) rfl (dAt dX6_greatestGroup 25 rfl) ?_
        refine lv_iload hx hb (dAt dX6_greatestGroup 26 rfl) (lv_at hl 0 rfl) ?_
        refine lv_dup2_11 hx hb (dAt dX6_greatestGroup 27 rfl) rfl rfl ?_
        obtain ⟨z53, h⟩ := h
        refine x_ild C hw (hE.1 64) (nX hE (by decide)) z53 rfl (dAt dX6_greatestGroup 28 rfl) ?_
        refine lv_iconst (v := 1) hx hb (dAt dX6_greatestGroup 29 rfl) (by decide) ?_
        refine lv_iadd hx hb (dAt dX6_greatestGroup 30 rfl) ?_
        obtain ⟨z56, h⟩ := h
        refine x_ist C hw (hE.1 64) (nX hE (by decide)) z56 rfl (dAt dX6_greatestGroup 31 rfl) (fun σ56 H locs eσ56 hw => ?_)
        replace h := h σ56 eσ56
        refine lv_iload_n hx hb (dAt dX6_greatestGroup 32 rfl) rfl (lv_at hl 4 rfl) ?_
        refine lv_aload_n hx hb (dAt dX6_greatestGroup 33 rfl) rfl (lv_at hl 1 rfl) ?_
        refine x_getr C hw fl_X6_66 (hE.1 0) (nX hE (by decide)) rfl (dAt dX6_greatestGroup 34 rfl) ?_
        refine lv_iload hx hb (dAt dX6_greatestGroup 35 rfl) (lv_at hl 0 rfl) ?_
        obtain ⟨z64, h⟩ := h
        refine x_ild C hw (hE.1 64) (nX hE (by decide)) z64 rfl (dAt dX6_greatestGroup 36 rfl) ?_
        refine va_mmax hx hb (C.1.2.2.1.trans hl.1.symm) C.1.2.2.2.1 (C.1.2.2.2.2 _ lm_X6_397) (C.1.2.2.2.2 _ mmax_1) (C.1.2.2.2.2 _ mini) (C.1.2.2.2.2 _ mmax_2) (Nat.le_of_ble_eq_true rfl) (Nat.le_of_ble_eq_true rfl) (Nat.zero_le _) (Nat.zero_le _) (dAt dX6_greatestGroup 37 rfl) ?_
        refine lv_topi (fun x3_68 ex3_68 => ?_)
        replace h := h x3_68 ex3_68
        refine lv_istore_n (lv' := [(3, .int x3_68), (5, .int x5_44), (0, .ref (gE E 0)), (1, .int x1), (2, .int x2), (4, .int x4)]) hx hb (dAt dX6_greatestGroup 38 rfl) rfl hl (by decide) rfl (fun ls hl => ?_)
        refine lv_iinc (v := (x4 + (1 : Int32))) (lv' := [(4, .int (x4 + (1 : Int32))), (3, .int x3_68), (5, .int x5_44), (0, .ref (gE E 0)), (1, .int x1), (2, .int x2)]) hx hb (dAt dX6_greatestGroup 39 rfl) hl (k := 5) rfl rfl (by decide) rfl (fun ls hl => ?_)
        refine lv_goto (tgt := 13) hx hb (dAt dX6_greatestGroup 40 rfl) (by decide) ?_
        exact ih x1 x2 x3_68 (x4 + (1 : Int32)) σ56  _ _ _ hw (lv_sub hl [3, 4, 5, 1, 0] rfl) h
      · replace h := h.2 c26
        refine lv_goto (tgt := 69) hx hb (dAt dX6_greatestGroup 15 rfl) (by decide) ?_
        refine lv_iinc (v := (x4 + (1 : Int32))) (lv' := [(4, .int (x4 + (1 : Int32))), (0, .ref (gE E 0)), (1, .int x1), (2, .int x2), (3, .int x3)]) hx hb (dAt dX6_greatestGroup 39 rfl) hl (k := 4) rfl rfl (by decide) rfl (fun ls hl => ?_)
        refine lv_goto (tgt := 13) hx hb (dAt dX6_greatestGroup 40 rfl) (by decide) ?_
        exact ih x1 x2 x3 (x4 + (1 : Int32)) σ23  _ _ _ hw (lv_sub hl [1, 2, 3, 4, 0] rfl) h
set_option maxHeartbeats 4000000 in
set_option maxRecDepth 100000 in
theorem kX6_greatestGroup (l : Launch) (E : wE) (hE : wX E) (x1 : Int32) (x2 : Int32) (σ : Mem) (Q : Int32 → Mem → Prop) (h : wX6_greatestGroup x1 x2 σ Q) : Met l yX6_greatestGroup (Cond.code yX6_greatestGroup cX6_greatestGroup 6 (some .int) :: TB) rX6_greatestGroup (wPc E σ [.ref (gE E 0), .int x1, .int x2]) (wQi E Q) 0 0 (wA E) := by
  refine wMet (by decide) hE.2.2 (Nat.le_of_ble_eq_true rfl) ?_
  intro p e s m args below meth c ls C hr hlk hl hw
  have hx := C.1.1
  have hb := C.1.2.1
  replace C : Cx p s m args c cX6_greatestGroup 6 RX6 E (wA E) := C
  replace hl : lv_has ls 6 [(0, .ref (gE E 0)), (1, .int x1), (2, .int x2)] := hl
  unfold wX6_greatestGroup at h
  refine lv_aload_n hx hb (dAt dX6_greatestGroup 0 rfl) rfl (lv_at hl 0 rfl) ?_
  refine x_getr C hw fl_X6_66 (hE.1 0) (nX hE (by decide)) rfl (dAt dX6_greatestGroup 1 rfl) ?_
  refine lv_iconst (v := 0) hx hb (dAt dX6_greatestGroup 2 rfl) (by decide) ?_
  refine x_callv C hw (x_runS (As := [.ref (gE E 64), .int (0 : Int32)]) (rest := []) C hw (kJ7_fill_53178 l E hE.2.2 64 121 (hE.1 64) (nX hE (by decide)) (0 : Int32) σ _ h) mtJ7_fill_53178 lk_X6_267 ⟨by decide, by decide⟩ ⟨rfl, rfl⟩ rfl hl.1 rfl (Nat.le_of_ble_eq_true rfl) (dAt dX6_greatestGroup 3 rfl) ⟨Nat.zero_le _, Nat.zero_le _⟩) (fun σ5 H locs h hw => ?_)
  refine lv_iconst (v := 0) hx hb (dAt dX6_greatestGroup 4 rfl) (by decide) ?_
  refine lv_istore_n (lv' := [(3, .int (0 : Int32)), (0, .ref (gE E 0)), (1, .int x1), (2, .int x2)]) hx hb (dAt dX6_greatestGroup 5 rfl) rfl hl (by decide) rfl (fun ls hl => ?_)
  refine lv_iconst (v := 2) hx hb (dAt dX6_greatestGroup 6 rfl) (by decide) ?_
  refine lv_istore (lv' := [(4, .int (2 : Int32)), (3, .int (0 : Int32)), (0, .ref (gE E 0)), (1, .int x1), (2, .int x2)]) hx hb (dAt dX6_greatestGroup 7 rfl) hl (by decide) rfl (fun ls hl => ?_)
  obtain ⟨n13, h⟩ := h
  exact kX6_greatestGroup_13 hE C hr hlk n13 x1 x2 (0 : Int32) (2 : Int32) σ5  _ _ _ hw (lv_sub hl [2, 3, 4, 1, 0] rfl) h
def tX6_ask : List (Nat × Instr × Nat) := [(0, .aload_n 0, 1), (1, .invokevirtual 244, 3), (4, .istore_n 1, 1), (5, .iconst (-1), 1), (6, .istore_n 2, 1), (7, .bipush 31, 2), (9, .istore_n 3, 1), (10, .iconst 0, 1), (11, .istore 4, 2), (13, .iload 4, 2), (15, .bipush 24, 2), (17, .if_icmp .ge 30, 3), (20, .aload_n 0, 1), (21, .iload_n 1, 1), (22, .iload 4, 2), (24, .invokevirtual 247, 3), (27, .istore 5, 2), (29, .iload 5, 2), (31, .iload_n 3, 1), (32, .if_icmp .ge 9, 3), (35, .iload 5, 2), (37, .istore_n 3, 1), (38, .iload 4, 2), (40, .istore_n 2, 1), (41, .iinc 4 1, 3), (44, .goto (-31), 3), (47, .iload_n 2, 1), (48, .ireturn, 1)]
theorem dX6_ask : dOk cX6_ask tX6_ask = true := by decide +kernel
abbrev rX6_ask : Room := { frames := 4, cells := 0, slots := 0, locals := 116 }
def wX6_ask_13 (Q : Int32 → Mem → Prop) : Nat → Int32 → Int32 → Int32 → Int32 → Mem → Prop
  | 0, _, _, _, _, _ => False
  | n + 1, x1, x2, x3, x4, σ => ((((24 : Int32) ≤ x4) → (Q x2 σ)) ∧ ((¬ (24 : Int32) ≤ x4) → (wX6_greatestGroup x1 x4 σ (fun r24 σ24 => (((x3 ≤ r24) → (wX6_ask_13 Q n x1 x2 x3 (x4 + (1 : Int32)) σ24)) ∧ ((¬ x3 ≤ r24) → (wX6_ask_13 Q n x1 x4 r24 (x4 + (1 : Int32)) σ24)))))))
def wX6_ask (σ : Mem) (Q : Int32 → Mem → Prop) : Prop := (wX6_lengths  σ (fun r1 σ1 => (∃ N13, wX6_ask_13 Q N13 r1 (-1 : Int32) (31 : Int32) (0 : Int32) σ1)))
set_option maxHeartbeats 4000000 in
set_option maxRecDepth 100000 in
theorem kX6_ask_13 {p : Program} {l : Launch} {e : Env} {s : State} {m : MethodId} {args : Array Value} {below : List Frame} {meth : Method} {c : Code} {E : wE} (hE : wX E) (C : Cx p s m args c cX6_ask 6 RX6 E (wA E)) (hr : meth.sig.returnType = (some .int)) (hlk : meth.locks = false) {Q : Int32 → Mem → Prop} : ∀ (n : Nat) (x1 : Int32) (x2 : Int32) (x3 : Int32) (x4 : Int32) (σ : Mem) (H : Heap) (locs : List Loc) (ls : Array Slot), wd E (wA E) s σ H locs → lv_has ls 6 [(0, .ref (gE E 0)), (1, .int x1), (2, .int x2), (3, .int x3), (4, .int x4)] → wX6_ask_13 Q n x1 x2 x3 x4 σ → W p l e rX6_ask s m args below meth c H locs 0 0 (MQ below (wQi E Q) args s 0 0 (wA E)) (F0 m 13 ls []) := by
  have hx := C.1.1
  have hb := C.1.2.1
  intro n
  induction n with
  | zero =>
    intro x1 x2 x3 x4 σ  H locs ls hw hl h
    exact h.elim
  | succ n ih =>
    intro x1 x2 x3 x4 σ  H locs ls hw hl h
    rw [wX6_ask_13] at h
    refine lv_iload hx hb (dAt dX6_ask 9 rfl) (lv_at hl 4 rfl) ?_
    refine lv_bipush (v := 24) hx hb (dAt dX6_ask 10 rfl) (by decide) ?_
    refine lv_icmp_ge (tgt := 47) hx hb (dAt dX6_ask 11 rfl) (by decide) (fun c17 => ?_) (fun c17 => ?_)
    · replace h := h.1 c17
      refine lv_iload_n hx hb (dAt dX6_ask 26 rfl) rfl (lv_at hl 2 rfl) ?_
      exact x_iret C hw hr hlk h (dAt dX6_ask 27 rfl)
    · replace h := h.2 c17
      refine lv_aload_n hx hb (dAt dX6_ask 12 rfl) rfl (lv_at hl 0 rfl) ?_
      refine lv_iload_n hx hb (dAt dX6_ask 13 rfl) rfl (lv_at hl 1 rfl) ?_
      refine lv_iload hx hb (dAt dX6_ask 14 rfl) (lv_at hl 4 rfl) ?_
      refine x_calli C hw (x_runV (As := [.int x1, .int x4]) (rest := []) C hw (kX6_greatestGroup l E hE x1 x4 σ _ h) mtX6_greatestGroup lk_X6_247 (hE.1 0) (nX hE (by decide)) rfl ⟨by decide, by decide⟩ ⟨rfl, rfl⟩ rfl hl.1 rfl (Nat.le_of_ble_eq_true rfl) (dAt dX6_ask 15 rfl) ⟨Nat.zero_le _, Nat.zero_le _⟩) (fun r24 σ24 H locs h hw => ?_)
      refine lv_istore (lv' := [(5, .int r24), (0, .ref (gE E 0)), (1, .int x1), (2, .int x2), (3, .int x3), (4, .int x4)]) hx hb (dAt dX6_ask 16 rfl) hl (by decide) rfl (fun ls hl => ?_)
      refine lv_iload hx hb (dAt dX6_ask 17 rfl) (lv_at hl 0 rfl) ?_
      refine lv_iload_n hx hb (dAt dX6_ask 18 rfl) rfl (lv_at hl 4 rfl) ?_
      refine lv_icmp_ge (tgt := 41) hx hb (dAt dX6_ask 19 rfl) (by decide) (fun c32 => ?_) (fun c32 => ?_)
      · replace h := h.1 c32
        refine lv_iinc (v := (x4 + (1 : Int32))) (lv' := [(4, .int (x4 + (1 : Int32))), (5, .int r24), (0, .ref (gE E 0)), (1, .int x1), (2, .int x2), (3, .int x3)]) hx hb (dAt dX6_ask 24 rfl) hl (k := 5) rfl rfl (by decide) rfl (fun ls hl => ?_)
        refine lv_goto (tgt := 13) hx hb (dAt dX6_ask 25 rfl) (by decide) ?_
        exact ih x1 x2 x3 (x4 + (1 : Int32)) σ24  _ _ _ hw (lv_sub hl [2, 3, 4, 5, 0] rfl) h
      · replace h := h.2 c32
        refine lv_iload hx hb (dAt dX6_ask 20 rfl) (lv_at hl 0 rfl) ?_
        refine lv_istore_n (lv' := [(3, .int r24), (5, .int r24), (0, .ref (gE E 0)), (1, .int x1), (2, .int x2), (4, .int x4)]) hx hb (dAt dX6_ask 21 rfl) rfl hl (by decide) rfl (fun ls hl => ?_)
        refine lv_iload hx hb (dAt dX6_ask 22 rfl) (lv_at hl 5 rfl) ?_
        refine lv_istore_n (lv' := [(2, .int x4), (3, .int r24), (5, .int r24), (0, .ref (gE E 0)), (1, .int x1), (4, .int x4)]) hx hb (dAt dX6_ask 23 rfl) rfl hl (by decide) rfl (fun ls hl => ?_)
        refine lv_iinc (v := (x4 + (1 : Int32))) (lv' := [(4, .int (x4 + (1 : Int32))), (2, .int x4), (3, .int r24), (5, .int r24), (0, .ref (gE E 0)), (1, .int x1)]) hx hb (dAt dX6_ask 24 rfl) hl (k := 5) rfl rfl (by decide) rfl (fun ls hl => ?_)
        refine lv_goto (tgt := 13) hx hb (dAt dX6_ask 25 rfl) (by decide) ?_
        exact ih x1 x4 r24 (x4 + (1 : Int32)) σ24  _ _ _ hw (lv_sub hl [4, 5, 1, 2, 0] rfl) h
set_option maxHeartbeats 4000000 in
set_option maxRecDepth 100000 in
theorem kX6_ask (l : Launch) (E : wE) (hE : wX E) (σ : Mem) (Q : Int32 → Mem → Prop) (h : wX6_ask  σ Q) : Met l yX6_ask (Cond.code yX6_ask cX6_ask 6 (some .int) :: TB) rX6_ask (wPc E σ [.ref (gE E 0)]) (wQi E Q) 0 0 (wA E) := by
  refine wMet (by decide) hE.2.2 (Nat.le_of_ble_eq_true rfl) ?_
  intro p e s m args below meth c ls C hr hlk hl hw
  have hx := C.1.1
  have hb := C.1.2.1
  replace C : Cx p s m args c cX6_ask 6 RX6 E (wA E) := C
  replace hl : lv_has ls 6 [(0, .ref (gE E 0))] := hl
  unfold wX6_ask at h
  refine lv_aload_n hx hb (dAt dX6_ask 0 rfl) rfl (lv_at hl 0 rfl) ?_
  refine x_calli C hw (x_runV (As := []) (rest := []) C hw (kX6_lengths l E hE  σ _ h) mtX6_lengths lk_X6_244 (hE.1 0) (nX hE (by decide)) rfl ⟨by decide, by decide⟩ ⟨rfl, rfl⟩ rfl hl.1 rfl (Nat.le_of_ble_eq_true rfl) (dAt dX6_ask 1 rfl) ⟨Nat.zero_le _, Nat.zero_le _⟩) (fun r1 σ1 H locs h hw => ?_)
  refine lv_istore_n (lv' := [(1, .int r1), (0, .ref (gE E 0))]) hx hb (dAt dX6_ask 2 rfl) rfl hl (by decide) rfl (fun ls hl => ?_)
  refine lv_iconst (v := -1) hx hb (dAt dX6_ask 3 rfl) (by decide) ?_
  refine lv_istore_n (lv' := [(2, .int (-1 : Int32)), (1, .int r1), (0, .ref (gE E 0))]) hx hb (dAt dX6_ask 4 rfl) rfl hl (by decide) rfl (fun ls hl => ?_)
  refine lv_bipush (v := 31) hx hb (dAt dX6_ask 5 rfl) (by decide) ?_
  refine lv_istore_n (lv' := [(3, .int (31 : Int32)), (2, .int (-1 : Int32)), (1, .int r1), (0, .ref (gE E 0))]) hx hb (dAt dX6_ask 6 rfl) rfl hl (by decide) rfl (fun ls hl => ?_)
  refine lv_iconst (v := 0) hx hb (dAt dX6_ask 7 rfl) (by decide) ?_
  refine lv_istore (lv' := [(4, .int (0 : Int32)), (3, .int (31 : Int32)), (2, .int (-1 : Int32)), (1, .int r1), (0, .ref (gE E 0))]) hx hb (dAt dX6_ask 8 rfl) hl (by decide) rfl (fun ls hl => ?_)
  obtain ⟨n13, h⟩ := h
  exact kX6_ask_13 hE C hr hlk n13 r1 (-1 : Int32) (31 : Int32) (0 : Int32) σ1  _ _ _ hw (lv_sub hl [4, 3, 2, 1, 0] rfl) h
def tX6_weightOf : List (Nat × Instr × Nat) := [(0, .lconst 1, 1), (1, .lstore_n 3, 1), (2, .iconst 0, 1), (3, .istore 5, 2), (5, .iload 5, 2), (7, .aload_n 0, 1), (8, .getfield 21, 3), (11, .getfield 115, 3), (14, .if_icmp .ge 31, 3), (17, .lload_n 3, 1), (18, .iload_n 1, 1), (19, .iload 5, 2), (21, .invokestatic 213, 3), (24, .ifCond .eq 8, 3), (27, .iload_n 2, 1), (28, .i2l, 1), (29, .goto 8, 3), (32, .bipush 16, 2), (34, .iload_n 2, 1), (35, .isub, 1), (36, .i2l, 1), (37, .lmul, 1), (38, .lstore_n 3, 1), (39, .iinc 5 1, 3), (42, .goto (-37), 3), (45, .lload_n 3, 1), (46, .lreturn, 1)]
theorem dX6_weightOf : dOk cX6_weightOf tX6_weightOf = true := by decide +kernel
abbrev rX6_weightOf : Room := { frames := 1, cells := 0, slots := 0, locals := 21 }
def wX6_weightOf_5 (Q : Int64 → Mem → Prop) : Nat → Int32 → Int32 → Int64 → Int32 → Mem → Prop
  | 0, _, _, _, _, _ => False
  | n + 1, x1, x2, x3, x5, σ => ((((σ 6 3) ≤ x5) → (Q x3 σ)) ∧ ((¬ (σ 6 3) ≤ x5) → (wX6_has x1 x5 σ (fun r21 σ21 => (((r21 = 0) → (∀ x3_38 : Int64, x3_38 = (x3 * ((((16 : Int32) - x2)).toInt64)) → (wX6_weightOf_5 Q n x1 x2 x3_38 (x5 + (1 : Int32)) σ21))) ∧ ((¬ r21 = 0) → (∀ x3_38 : Int64, x3_38 = (x3 * ((x2).toInt64)) → (wX6_weightOf_5 Q n x1 x2 x3_38 (x5 + (1 : Int32)) σ21))))))))
def wX6_weightOf (x1 : Int32) (x2 : Int32) (σ : Mem) (Q : Int64 → Mem → Prop) : Prop := (∃ N5, wX6_weightOf_5 Q N5 x1 x2 (1 : Int64) (0 : Int32) σ)
set_option maxHeartbeats 4000000 in
set_option maxRecDepth 100000 in
theorem kX6_weightOf_5 {p : Program} {l : Launch} {e : Env} {s : State} {m : MethodId} {args : Array Value} {below : List Frame} {meth : Method} {c : Code} {E : wE} (hE : wX E) (C : Cx p s m args c cX6_weightOf 6 RX6 E (wA E)) (hr : meth.sig.returnType = (some .long)) (hlk : meth.locks = false) {Q : Int64 → Mem → Prop} : ∀ (n : Nat) (x1 : Int32) (x2 : Int32) (x3 : Int64) (x5 : Int32) (σ : Mem) (H : Heap) (locs : List Loc) (ls : Array Slot), wd E (wA E) s σ H locs → lv_has ls 6 [(0, .ref (gE E 0)), (1, .int x1), (2, .int x2), (3, .long x3), (5, .int x5)] → wX6_weightOf_5 Q n x1 x2 x3 x5 σ → W p l e rX6_weightOf s m args below meth c H locs 0 0 (MQ below (wQl E Q) args s 0 0 (wA E)) (F0 m 5 ls []) := by
  have hx := C.1.1
  have hb := C.1.2.1
  intro n
  induction n with
  | zero =>
    intro x1 x2 x3 x5 σ  H locs ls hw hl h
    exact h.elim
  | succ n ih =>
    intro x1 x2 x3 x5 σ  H locs ls hw hl h
    rw [wX6_weightOf_5] at h
    refine lv_iload hx hb (dAt dX6_weightOf 4 rfl) (lv_at hl 4 rfl) ?_
    refine lv_aload_n hx hb (dAt dX6_weightOf 5 rfl) rfl (lv_at hl 0 rfl) ?_
    refine x_getr C hw fl_X6_21 (hE.1 0) (nX hE (by decide)) rfl (dAt dX6_weightOf 6 rfl) ?_
    refine x_getiN C hw fl_X6_115 (hE.1 6) (nX hE (by decide)) rfl (dAt dX6_weightOf 7 rfl) ?_
    refine lv_icmp_ge (tgt := 45) hx hb (dAt dX6_weightOf 8 rfl) (by decide) (fun c14 => ?_) (fun c14 => ?_)
    · replace h := h.1 c14
      refine lv_lload_n hx hb (dAt dX6_weightOf 25 rfl) rfl (lv_at hl 3 rfl) ?_
      exact x_lret C hw hr hlk h (dAt dX6_weightOf 26 rfl)
    · replace h := h.2 c14
      refine lv_lload_n hx hb (dAt dX6_weightOf 9 rfl) rfl (lv_at hl 3 rfl) ?_
      refine lv_iload_n hx hb (dAt dX6_weightOf 10 rfl) rfl (lv_at hl 1 rfl) ?_
      refine lv_iload hx hb (dAt dX6_weightOf 11 rfl) (lv_at hl 4 rfl) ?_
      refine x_calli C hw (x_runS (As := [.int x1, .int x5]) (rest := [.long x3]) C hw (kX6_has l E hE x1 x5 σ _ h) mtX6_has lk_X6_213 ⟨by decide, by decide⟩ ⟨rfl, rfl⟩ rfl hl.1 rfl (Nat.le_of_ble_eq_true rfl) (dAt dX6_weightOf 12 rfl) ⟨Nat.zero_le _, Nat.zero_le _⟩) (fun r21 σ21 H locs h hw => ?_)
      refine lv_if_eq (tgt := 32) hx hb (dAt dX6_weightOf 13 rfl) (by decide) (fun c24 => ?_) (fun c24 => ?_)
      · replace h := h.1 c24
        refine lv_bipush (v := 16) hx hb (dAt dX6_weightOf 17 rfl) (by decide) ?_
        refine lv_iload_n hx hb (dAt dX6_weightOf 18 rfl) rfl (lv_at hl 2 rfl) ?_
        refine lv_isub hx hb (dAt dX6_weightOf 19 rfl) ?_
        refine lv_i2l hx hb (dAt dX6_weightOf 20 rfl) rfl ?_
        refine lv_lmul hx hb (dAt dX6_weightOf 21 rfl) ?_
        refine lv_topl (fun x3_38 ex3_38 => ?_)
        replace h := h x3_38 ex3_38
        refine lv_lstore_n (lv' := [(3, .long x3_38), (0, .ref (gE E 0)), (1, .int x1), (2, .int x2), (5, .int x5)]) hx hb (dAt dX6_weightOf 22 rfl) rfl hl (by decide) rfl (fun ls hl => ?_)
        refine lv_iinc (v := (x5 + (1 : Int32))) (lv' := [(5, .int (x5 + (1 : Int32))), (3, .long x3_38), (0, .ref (gE E 0)), (1, .int x1), (2, .int x2)]) hx hb (dAt dX6_weightOf 23 rfl) hl (k := 4) rfl rfl (by decide) rfl (fun ls hl => ?_)
        refine lv_goto (tgt := 5) hx hb (dAt dX6_weightOf 24 rfl) (by decide) ?_
        exact ih x1 x2 x3_38 (x5 + (1 : Int32)) σ21  _ _ _ hw (lv_sub hl [2, 3, 4, 1, 0] rfl) h
      · replace h := h.2 c24
        refine lv_iload_n hx hb (dAt dX6_weightOf 14 rfl) rfl (lv_at hl 2 rfl) ?_
        refine lv_i2l hx hb (dAt dX6_weightOf 15 rfl) rfl ?_
        refine lv_goto (tgt := 37) hx hb (dAt dX6_weightOf 16 rfl) (by decide) ?_
        refine lv_lmul hx hb (dAt dX6_weightOf 21 rfl) ?_
        refine lv_topl (fun x3_38 ex3_38 => ?_)
        replace h := h x3_38 ex3_38
        refine lv_lstore_n (lv' := [(3, .long x3_38), (0, .ref (gE E 0)), (1, .int x1), (2, .int x2), (5, .int x5)]) hx hb (dAt dX6_weightOf 22 rfl) rfl hl (by decide) rfl (fun ls hl => ?_)
        refine lv_iinc (v := (x5 + (1 : Int32))) (lv' := [(5, .int (x5 + (1 : Int32))), (3, .long x3_38), (0, .ref (gE E 0)), (1, .int x1), (2, .int x2)]) hx hb (dAt dX6_weightOf 23 rfl) hl (k := 4) rfl rfl (by decide) rfl (fun ls hl => ?_)
        refine lv_goto (tgt := 5) hx hb (dAt dX6_weightOf 24 rfl) (by decide) ?_
        exact ih x1 x2 x3_38 (x5 + (1 : Int32)) σ21  _ _ _ hw (lv_sub hl [2, 3, 4, 1, 0] rfl) h
set_option maxHeartbeats 4000000 in
set_option maxRecDepth 100000 in
theorem kX6_weightOf (l : Launch) (E : wE) (hE : wX E) (x1 : Int32) (x2 : Int32) (σ : Mem) (Q : Int64 → Mem → Prop) (h : wX6_weightOf x1 x2 σ Q) : Met l yX6_weightOf (Cond.code yX6_weightOf cX6_weightOf 6 (some .long) :: TB) rX6_weightOf (wPc E σ [.ref (gE E 0), .int x1, .int x2]) (wQl E Q) 0 0 (wA E) := by
  refine wMet (by decide) hE.2.2 (Nat.le_of_ble_eq_true rfl) ?_
  intro p e s m args below meth c ls C hr hlk hl hw
  have hx := C.1.1
  have hb := C.1.2.1
  replace C : Cx p s m args c cX6_weightOf 6 RX6 E (wA E) := C
  replace hl : lv_has ls 6 [(0, .ref (gE E 0)), (1, .int x1), (2, .int x2)] := hl
  unfold wX6_weightOf at h
  refine lv_lconst (v := 1) hx hb (dAt dX6_weightOf 0 rfl) (by decide) ?_
  refine lv_lstore_n (lv' := [(3, .long (1 : Int64)), (0, .ref (gE E 0)), (1, .int x1), (2, .int x2)]) hx hb (dAt dX6_weightOf 1 rfl) rfl hl (by decide) rfl (fun ls hl => ?_)
  refine lv_iconst (v := 0) hx hb (dAt dX6_weightOf 2 rfl) (by decide) ?_
  refine lv_istore (lv' := [(5, .int (0 : Int32)), (3, .long (1 : Int64)), (0, .ref (gE E 0)), (1, .int x1), (2, .int x2)]) hx hb (dAt dX6_weightOf 3 rfl) hl (by decide) rfl (fun ls hl => ?_)
  obtain ⟨n5, h⟩ := h
  exact kX6_weightOf_5 hE C hr hlk n5 x1 x2 (1 : Int64) (0 : Int32) σ  _ _ _ hw (lv_sub hl [2, 3, 4, 1, 0] rfl) h
def tX6_greatestDivisor : List (Nat × Instr × Nat) := [(0, .lload_n 0, 1), (1, .lstore 4, 2), (3, .lload_n 2, 1), (4, .lstore 6, 2), (6, .iconst 0, 1), (7, .istore 8, 2), (9, .iload 8, 2), (11, .sipush 200, 3), (14, .if_icmp .ge 31, 3), (17, .lload 6, 2), (19, .lconst 0, 1), (20, .lcmp, 1), (21, .ifCond .eq 24, 3), (24, .lload 4, 2), (26, .lload 6, 2), (28, .lrem, 1), (29, .lstore 9, 2), (31, .lload 6, 2), (33, .lstore 4, 2), (35, .lload 9, 2), (37, .lstore 6, 2), (39, .iinc 8 1, 3), (42, .goto (-33), 3), (45, .lload 4, 2), (47, .lreturn, 1)]
theorem dX6_greatestDivisor : dOk cX6_greatestDivisor tX6_greatestDivisor = true := by decide +kernel
abbrev rX6_greatestDivisor : Room := { frames := 0, cells := 0, slots := 0, locals := 0 }
def wX6_greatestDivisor_9 (Q : Int64 → Mem → Prop) : Nat → Int64 → Int64 → Int32 → Mem → Prop
  | 0, _, _, _, _ => False
  | n + 1, x4, x6, x8, σ => ((((200 : Int32) ≤ x8) → (Q x4 σ)) ∧ ((¬ (200 : Int32) ≤ x8) → (((x6 = (0 : Int64)) → (Q x4 σ)) ∧ ((¬ x6 = (0 : Int64)) → (¬ x6 = 0 ∧ (∀ x9_29 : Int64, x9_29 = (x4 - x4 / x6 * x6) → (wX6_greatestDivisor_9 Q n x6 x9_29 (x8 + (1 : Int32)) σ)))))))
def wX6_greatestDivisor (x0 : Int64) (x2 : Int64) (σ : Mem) (Q : Int64 → Mem → Prop) : Prop := (∃ N9, wX6_greatestDivisor_9 Q N9 x0 x2 (0 : Int32) σ)
set_option maxHeartbeats 4000000 in
set_option maxRecDepth 100000 in
theorem kX6_greatestDivisor_9 {p : Program} {l : Launch} {e : Env} {s : State} {m : MethodId} {args : Array Value} {below : List Frame} {meth : Method} {c : Code} {E : wE} (hE : wX E) (C : Cx p s m args c cX6_greatestDivisor 11 RX6 E (wA E)) (hr : meth.sig.returnType = (some .long)) (hlk : meth.locks = false) {Q : Int64 → Mem → Prop} : ∀ (n : Nat) (x4 : Int64) (x6 : Int64) (x8 : Int32) (σ : Mem) (H : Heap) (locs : List Loc) (ls : Array Slot), wd E (wA E) s σ H locs → lv_has ls 11 [(4, .long x4), (6, .long x6), (8, .int x8)] → wX6_greatestDivisor_9 Q n x4 x6 x8 σ → W p l e rX6_greatestDivisor s m args below meth c H locs 0 0 (MQ below (wQl E Q) args s 0 0 (wA E)) (F0 m 9 ls []) := by
  have hx := C.1.1
  have hb := C.1.2.1
  intro n
  induction n with
  | zero =>
    intro x4 x6 x8 σ  H locs ls hw hl h
    exact h.elim
  | succ n ih =>
    intro x4 x6 x8 σ  H locs ls hw hl h
    rw [wX6_greatestDivisor_9] at h
    refine lv_iload hx hb (dAt dX6_greatestDivisor 6 rfl) (lv_at hl 2 rfl) ?_
    refine lv_sipush (v := 200) hx hb (dAt dX6_greatestDivisor 7 rfl) (by decide) ?_
    refine lv_icmp_ge (tgt := 45) hx hb (dAt dX6_greatestDivisor 8 rfl) (by decide) (fun c14 => ?_) (fun c14 => ?_)
    · replace h := h.1 c14
      refine lv_lload hx hb (dAt dX6_greatestDivisor 23 rfl) (lv_at hl 0 rfl) ?_
      exact x_lret C hw hr hlk h (dAt dX6_greatestDivisor 24 rfl)
    · replace h := h.2 c14
      refine lv_lload hx hb (dAt dX6_greatestDivisor 9 rfl) (lv_at hl 1 rfl) ?_
      refine lv_lconst (v := 0) hx hb (dAt dX6_greatestDivisor 10 rfl) (by decide) ?_
      refine W.lcmp hx hb (dAt dX6_greatestDivisor 11 rfl) ?_
      refine lv_if_eq (tgt := 45) hx hb (dAt dX6_greatestDivisor 12 rfl) (by decide) (fun c21 => ?_) (fun c21 => ?_)
      · replace h := h.1 ((lg_cmp_eq _ _).mp c21)
        refine lv_lload hx hb (dAt dX6_greatestDivisor 23 rfl) (lv_at hl 0 rfl) ?_
        exact x_lret C hw hr hlk h (dAt dX6_greatestDivisor 24 rfl)
      · replace h := h.2 (fun z => c21 ((lg_cmp_eq _ _).mpr z))
        refine lv_lload hx hb (dAt dX6_greatestDivisor 13 rfl) (lv_at hl 0 rfl) ?_
        refine lv_lload hx hb (dAt dX6_greatestDivisor 14 rfl) (lv_at hl 1 rfl) ?_
        obtain ⟨z28, h⟩ := h
        refine lv_lrem hx hb (dAt dX6_greatestDivisor 15 rfl) z28 ?_
        refine lv_topl (fun x9_29 ex9_29 => ?_)
        replace h := h x9_29 ex9_29
        refine lv_lstore (lv' := [(9, .long x9_29), (4, .long x4), (6, .long x6), (8, .int x8)]) hx hb (dAt dX6_greatestDivisor 16 rfl) hl (by decide) rfl (fun ls hl => ?_)
        refine lv_lload hx hb (dAt dX6_greatestDivisor 17 rfl) (lv_at hl 2 rfl) ?_
        refine lv_lstore (lv' := [(4, .long x6), (9, .long x9_29), (6, .long x6), (8, .int x8)]) hx hb (dAt dX6_greatestDivisor 18 rfl) hl (by decide) rfl (fun ls hl => ?_)
        refine lv_lload hx hb (dAt dX6_greatestDivisor 19 rfl) (lv_at hl 1 rfl) ?_
        refine lv_lstore (lv' := [(6, .long x9_29), (4, .long x6), (9, .long x9_29), (8, .int x8)]) hx hb (dAt dX6_greatestDivisor 20 rfl) hl (by decide) rfl (fun ls hl => ?_)
        refine lv_iinc (v := (x8 + (1 : Int32))) (lv' := [(8, .int (x8 + (1 : Int32))), (6, .long x9_29), (4, .long x6), (9, .long x9_29)]) hx hb (dAt dX6_greatestDivisor 21 rfl) hl (k := 3) rfl rfl (by decide) rfl (fun ls hl => ?_)
        refine lv_goto (tgt := 9) hx hb (dAt dX6_greatestDivisor 22 rfl) (by decide) ?_
        exact ih x6 x9_29 (x8 + (1 : Int32)) σ  _ _ _ hw (lv_sub hl [2, 1, 0] rfl) h
set_option maxHeartbeats 4000000 in
set_option maxRecDepth 100000 in
theorem kX6_greatestDivisor (l : Launch) (E : wE) (hE : wX E) (x0 : Int64) (x2 : Int64) (σ : Mem) (Q : Int64 → Mem → Prop) (h : wX6_greatestDivisor x0 x2 σ Q) : Met l yX6_greatestDivisor (Cond.code yX6_greatestDivisor cX6_greatestDivisor 11 (some .long) :: TB) rX6_greatestDivisor (wPc E σ [.long x0, .long x2]) (wQl E Q) 0 0 (wA E) := by
  refine wMet (by decide) hE.2.2 (Nat.le_of_ble_eq_true rfl) ?_
  intro p e s m args below meth c ls C hr hlk hl hw
  have hx := C.1.1
  have hb := C.1.2.1
  replace C : Cx p s m args c cX6_greatestDivisor 11 RX6 E (wA E) := C
  replace hl : lv_has ls 11 [(0, .long x0), (2, .long x2)] := hl
  unfold wX6_greatestDivisor at h
  refine lv_lload_n hx hb (dAt dX6_greatestDivisor 0 rfl) rfl (lv_at hl 0 rfl) ?_
  refine lv_lstore (lv' := [(4, .long x0), (0, .long x0), (2, .long x2)]) hx hb (dAt dX6_greatestDivisor 1 rfl) hl (by decide) rfl (fun ls hl => ?_)
  refine lv_lload_n hx hb (dAt dX6_greatestDivisor 2 rfl) rfl (lv_at hl 2 rfl) ?_
  refine lv_lstore (lv' := [(6, .long x2), (4, .long x0), (0, .long x0), (2, .long x2)]) hx hb (dAt dX6_greatestDivisor 3 rfl) hl (by decide) rfl (fun ls hl => ?_)
  refine lv_iconst (v := 0) hx hb (dAt dX6_greatestDivisor 4 rfl) (by decide) ?_
  refine lv_istore (lv' := [(8, .int (0 : Int32)), (6, .long x2), (4, .long x0), (0, .long x0), (2, .long x2)]) hx hb (dAt dX6_greatestDivisor 5 rfl) hl (by decide) rfl (fun ls hl => ?_)
  obtain ⟨n9, h⟩ := h
  exact kX6_greatestDivisor_9 hE C hr hlk n9 x0 x2 (0 : Int32) σ  _ _ _ hw (lv_sub hl [2, 1, 0] rfl) h
def tX6_chance : List (Nat × Instr × Nat) := [(0, .iload_n 1, 1), (1, .ifCond .lt 23, 3), (4, .iload_n 1, 1), (5, .bipush 16, 2), (7, .if_icmp .gt 17, 3), (10, .iload_n 2, 1), (11, .invokestatic 101, 3), (14, .ifCond .eq 10, 3), (17, .iload_n 3, 1), (18, .invokestatic 158, 3), (21, .ifCond .ne 7, 3), (24, .ldc2_w 251, 3), (27, .lreturn, 1), (28, .lconst 0, 1), (29, .lstore 4, 2), (31, .lconst 1, 1), (32, .lstore 6, 2), (34, .iconst 0, 1), (35, .istore 8, 2), (37, .iload 8, 2), (39, .aload_n 0, 1), (40, .getfield 21, 3), (43, .getfield 115, 3), (46, .if_icmp .ge 17, 3), (49, .lload 6, 2), (51, .ldc2_w 253, 3), (54, .lmul, 1), (55, .lstore 6, 2), (57, .iinc 8 1, 3), (60, .goto (-23), 3), (63, .iconst 0, 1), (64, .istore 8, 2), (66, .iload 8, 2), (68, .aload_n 0, 1), (69, .getfield 28, 3), (72, .getfield 217, 3), (75, .if_icmp .gt 45, 3), (78, .aload_n 0, 1), (79, .iload 8, 2), (81, .iload_n 1, 1), (82, .invokevirtual 255, 3), (85, .lstore 9, 2), (87, .lload 9, 2), (89, .lconst 0, 1), (90, .lcmp, 1), (91, .ifCond .eq 23, 3), (94, .aload_n 0, 1), (95, .iload 8, 2), (97, .invokevirtual 220, 3), (100, .iload_n 2, 1), (101, .invokestatic 213, 3), (104, .ifCond .eq 10, 3), (107, .lload 4, 2), (109, .lload 9, 2), (111, .ladd, 1), (112, .lstore 4, 2), (114, .iinc 8 1, 3), (117, .goto (-51), 3), (120, .lload 4, 2), (122, .lload 6, 2), (124, .invokestatic 259, 3), (127, .lstore 8, 2), (129, .lload 8, 2), (131, .lconst 0, 1), (132, .lcmp, 1), (133, .ifCond .ne 5, 3), (136, .lconst 0, 1), (137, .lreturn, 1), (138, .iload_n 3, 1), (139, .ifCond .ne 11, 3), (142, .lload 4, 2), (144, .lload 8, 2), (146, .ldiv, 1), (147, .goto 8, 3), (150, .lload 6, 2), (152, .lload 8, 2), (154, .ldiv, 1), (155, .lreturn, 1)]
theorem dX6_chance : dOk cX6_chance tX6_chance = true := by decide +kernel
abbrev rX6_chance : Room := { frames := 4, cells := 0, slots := 0, locals := 115 }
def wX6_chance_120 (Q : Int64 → Mem → Prop) (x3 : Int32) (x4 : Int64) (x6 : Int64) (σ : Mem) : Prop := (wX6_greatestDivisor x4 x6 σ (fun r124 σ124 => (((¬ r124 = (0 : Int64)) → (((¬ x3 = 0) → (¬ r124 = 0 ∧ (Q (x6 / r124) σ124))) ∧ ((x3 = 0) → (¬ r124 = 0 ∧ (Q (x4 / r124) σ124))))) ∧ ((r124 = (0 : Int64)) → (Q (0 : Int64) σ124)))))
def wX6_chance_66 (Q : Int64 → Mem → Prop) : Nat → Int32 → Int32 → Int32 → Int64 → Int64 → Int32 → Mem → Prop
  | 0, _, _, _, _, _, _, _ => False
  | n + 1, x1, x2, x3, x4, x6, x8, σ => ((((σ 10 6) < x8) → (wX6_chance_120 Q x3 x4 x6 σ)) ∧ ((¬ (σ 10 6) < x8) → (wX6_weightOf x8 x1 σ (fun r82 σ82 => (((r82 = (0 : Int64)) → (wX6_chance_66 Q n x1 x2 x3 x4 x6 (x8 + (1 : Int32)) σ82)) ∧ ((¬ r82 = (0 : Int64)) → (wX6_bareBeatsWith x8 σ82 (fun r97 σ97 => (wX6_has r97 x2 σ97 (fun r101 σ101 => (((r101 = 0) → (wX6_chance_66 Q n x1 x2 x3 x4 x6 (x8 + (1 : Int32)) σ101)) ∧ ((¬ r101 = 0) → (∀ x4_112 : Int64, x4_112 = (x4 + r82) → (wX6_chance_66 Q n x1 x2 x3 x4_112 x6 (x8 + (1 : Int32)) σ101))))))))))))))
def wX6_chance_37 (Q : Int64 → Mem → Prop) : Nat → Int32 → Int32 → Int32 → Int64 → Int64 → Int32 → Mem → Prop
  | 0, _, _, _, _, _, _, _ => False
  | n + 1, x1, x2, x3, x4, x6, x8, σ => ((((σ 6 3) ≤ x8) → (∃ N66, wX6_chance_66 Q N66 x1 x2 x3 x4 x6 (0 : Int32) σ)) ∧ ((¬ (σ 6 3) ≤ x8) → (∀ x6_55 : Int64, x6_55 = (x6 * (16 : Int64)) → (wX6_chance_37 Q n x1 x2 x3 x4 x6_55 (x8 + (1 : Int32)) σ))))
def wX6_chance (x1 : Int32) (x2 : Int32) (x3 : Int32) (σ : Mem) (Q : Int64 → Mem → Prop) : Prop := (((x1 < 0) → (Q (-9223372036854775806 : Int64) σ)) ∧ ((¬ x1 < 0) → ((((16 : Int32) < x1) → (Q (-9223372036854775806 : Int64) σ)) ∧ ((¬ (16 : Int32) < x1) → (wX6_isBeat x2 σ (fun r11 σ11 => (((r11 = 0) → (Q (-9223372036854775806 : Int64) σ11)) ∧ ((¬ r11 = 0) → (wX6_isEither x3 σ11 (fun r18 σ18 => (((¬ r18 = 0) → (∃ N37, wX6_chance_37 Q N37 x1 x2 x3 (0 : Int64) (1 : Int64) (0 : Int32) σ18)) ∧ ((r18 = 0) → (Q (-9223372036854775806 : Int64) σ18)))))))))))))
set_option maxHeartbeats 4000000 in
set_option maxRecDepth 100000 in
theorem kX6_chance_120 {p : Program} {l : Launch} {e : Env} {s : State} {m : MethodId} {args : Array Value} {below : List Frame} {meth : Method} {c : Code} {E : wE} (hE : wX E) (C : Cx p s m args c cX6_chance 11 RX6 E (wA E)) (hr : meth.sig.returnType = (some .long)) (hlk : meth.locks = false) {Q : Int64 → Mem → Prop} : ∀ (x3 : Int32) (x4 : Int64) (x6 : Int64) (σ : Mem) (H : Heap) (locs : List Loc) (ls : Array Slot), wd E (wA E) s σ H locs → lv_has ls 11 [(3, .int x3), (4, .long x4), (6, .long x6)] → wX6_chance_120 Q x3 x4 x6 σ → W p l e rX6_chance s m args below meth c H locs 0 0 (MQ below (wQl E Q) args s 0 0 (wA E)) (F0 m 120 ls []) := by
  have hx := C.1.1
  have hb := C.1.2.1
  intro x3 x4 x6 σ  H locs ls hw hl h
  unfold wX6_chance_120 at h
  refine lv_lload hx hb (dAt dX6_chance 58 rfl) (lv_at hl 1 rfl) ?_
  refine lv_lload hx hb (dAt dX6_chance 59 rfl) (lv_at hl 2 rfl) ?_
  refine x_calll C hw (x_runS (As := [.long x4, .long x6]) (rest := []) C hw (kX6_greatestDivisor l E hE x4 x6 σ _ h) mtX6_greatestDivisor lk_X6_259 ⟨by decide, by decide⟩ ⟨rfl, rfl⟩ rfl hl.1 rfl (Nat.le_of_ble_eq_true rfl) (dAt dX6_chance 60 rfl) ⟨Nat.zero_le _, Nat.zero_le _⟩) (fun r124 σ124 H locs h hw => ?_)
  refine lv_lstore (lv' := [(8, .long r124), (3, .int x3), (4, .long x4), (6, .long x6)]) hx hb (dAt dX6_chance 61 rfl) hl (by decide) rfl (fun ls hl => ?_)
  refine lv_lload hx hb (dAt dX6_chance 62 rfl) (lv_at hl 0 rfl) ?_
  refine lv_lconst (v := 0) hx hb (dAt dX6_chance 63 rfl) (by decide) ?_
  refine W.lcmp hx hb (dAt dX6_chance 64 rfl) ?_
  refine lv_if_ne (tgt := 138) hx hb (dAt dX6_chance 65 rfl) (by decide) (fun c133 => ?_) (fun c133 => ?_)
  · replace h := h.1 (fun z => c133 ((lg_cmp_eq _ _).mpr z))
    refine lv_iload_n hx hb (dAt dX6_chance 68 rfl) rfl (lv_at hl 1 rfl) ?_
    refine lv_if_ne (tgt := 150) hx hb (dAt dX6_chance 69 rfl) (by decide) (fun c139 => ?_) (fun c139 => ?_)
    · replace h := h.1 c139
      refine lv_lload hx hb (dAt dX6_chance 74 rfl) (lv_at hl 3 rfl) ?_
      refine lv_lload hx hb (dAt dX6_chance 75 rfl) (lv_at hl 0 rfl) ?_
      obtain ⟨z154, h⟩ := h
      refine lv_ldiv hx hb (dAt dX6_chance 76 rfl) z154 ?_
      exact x_lret C hw hr hlk h (dAt dX6_chance 77 rfl)
    · replace h := h.2 c139
      refine lv_lload hx hb (dAt dX6_chance 70 rfl) (lv_at hl 2 rfl) ?_
      refine lv_lload hx hb (dAt dX6_chance 71 rfl) (lv_at hl 0 rfl) ?_
      obtain ⟨z146, h⟩ := h
      refine lv_ldiv hx hb (dAt dX6_chance 72 rfl) z146 ?_
      refine lv_goto (tgt := 155) hx hb (dAt dX6_chance 73 rfl) (by decide) ?_
      exact x_lret C hw hr hlk h (dAt dX6_chance 77 rfl)
  · replace h := h.2 ((lg_cmp_eq _ _).mp c133)
    refine lv_lconst (v := 0) hx hb (dAt dX6_chance 66 rfl) (by decide) ?_
    exact x_lret C hw hr hlk h (dAt dX6_chance 67 rfl)
set_option maxHeartbeats 4000000 in
set_option maxRecDepth 100000 in
theorem kX6_chance_66 {p : Program} {l : Launch} {e : Env} {s : State} {m : MethodId} {args : Array Value} {below : List Frame} {meth : Method} {c : Code} {E : wE} (hE : wX E) (C : Cx p s m args c cX6_chance 11 RX6 E (wA E)) (hr : meth.sig.returnType = (some .long)) (hlk : meth.locks = false) {Q : Int64 → Mem → Prop} : ∀ (n : Nat) (x1 : Int32) (x2 : Int32) (x3 : Int32) (x4 : Int64) (x6 : Int64) (x8 : Int32) (σ : Mem) (H : Heap) (locs : List Loc) (ls : Array Slot), wd E (wA E) s σ H locs → lv_has ls 11 [(0, .ref (gE E 0)), (1, .int x1), (2, .int x2), (3, .int x3), (4, .long x4), (6, .long x6), (8, .int x8)] → wX6_chance_66 Q n x1 x2 x3 x4 x6 x8 σ → W p l e rX6_chance s m args below meth c H locs 0 0 (MQ below (wQl E Q) args s 0 0 (wA E)) (F0 m 66 ls []) := by
  have hx := C.1.1
  have hb := C.1.2.1
  intro n
  induction n with
  | zero =>
    intro x1 x2 x3 x4 x6 x8 σ  H locs ls hw hl h
    exact h.elim
  | succ n ih =>
    intro x1 x2 x3 x4 x6 x8 σ  H locs ls hw hl h
    rw [wX6_chance_66] at h
    refine lv_iload hx hb (dAt dX6_chance 32 rfl) (lv_at hl 6 rfl) ?_
    refine lv_aload_n hx hb (dAt dX6_chance 33 rfl) rfl (lv_at hl 0 rfl) ?_
    refine x_getr C hw fl_X6_28 (hE.1 0) (nX hE (by decide)) rfl (dAt dX6_chance 34 rfl) ?_
    refine x_getiN C hw fl_X6_217 (hE.1 10) (nX hE (by decide)) rfl (dAt dX6_chance 35 rfl) ?_
    refine lv_icmp_gt (tgt := 120) hx hb (dAt dX6_chance 36 rfl) (by decide) (fun c75 => ?_) (fun c75 => ?_)
    · replace h := h.1 c75
      exact kX6_chance_120 hE C hr hlk x3 x4 x6 σ  _ _ _ hw (lv_sub hl [3, 4, 5] rfl) h
    · replace h := h.2 c75
      refine lv_aload_n hx hb (dAt dX6_chance 37 rfl) rfl (lv_at hl 0 rfl) ?_
      refine lv_iload hx hb (dAt dX6_chance 38 rfl) (lv_at hl 6 rfl) ?_
      refine lv_iload_n hx hb (dAt dX6_chance 39 rfl) rfl (lv_at hl 1 rfl) ?_
      refine x_calll C hw (x_runV (As := [.int x8, .int x1]) (rest := []) C hw (kX6_weightOf l E hE x8 x1 σ _ h) mtX6_weightOf lk_X6_255 (hE.1 0) (nX hE (by decide)) rfl ⟨by decide, by decide⟩ ⟨rfl, rfl⟩ rfl hl.1 rfl (Nat.le_of_ble_eq_true rfl) (dAt dX6_chance 40 rfl) ⟨Nat.zero_le _, Nat.zero_le _⟩) (fun r82 σ82 H locs h hw => ?_)
      refine lv_lstore (lv' := [(9, .long r82), (0, .ref (gE E 0)), (1, .int x1), (2, .int x2), (3, .int x3), (4, .long x4), (6, .long x6), (8, .int x8)]) hx hb (dAt dX6_chance 41 rfl) hl (by decide) rfl (fun ls hl => ?_)
      refine lv_lload hx hb (dAt dX6_chance 42 rfl) (lv_at hl 0 rfl) ?_
      refine lv_lconst (v := 0) hx hb (dAt dX6_chance 43 rfl) (by decide) ?_
      refine W.lcmp hx hb (dAt dX6_chance 44 rfl) ?_
      refine lv_if_eq (tgt := 114) hx hb (dAt dX6_chance 45 rfl) (by decide) (fun c91 => ?_) (fun c91 => ?_)
      · replace h := h.1 ((lg_cmp_eq _ _).mp c91)
        refine lv_iinc (v := (x8 + (1 : Int32))) (lv' := [(8, .int (x8 + (1 : Int32))), (9, .long r82), (0, .ref (gE E 0)), (1, .int x1), (2, .int x2), (3, .int x3), (4, .long x4), (6, .long x6)]) hx hb (dAt dX6_chance 56 rfl) hl (k := 7) rfl rfl (by decide) rfl (fun ls hl => ?_)
        refine lv_goto (tgt := 66) hx hb (dAt dX6_chance 57 rfl) (by decide) ?_
        exact ih x1 x2 x3 x4 x6 (x8 + (1 : Int32)) σ82  _ _ _ hw (lv_sub hl [2, 3, 4, 5, 6, 7, 0] rfl) h
      · replace h := h.2 (fun z => c91 ((lg_cmp_eq _ _).mpr z))
        refine lv_aload_n hx hb (dAt dX6_chance 46 rfl) rfl (lv_at hl 1 rfl) ?_
        refine lv_iload hx hb (dAt dX6_chance 47 rfl) (lv_at hl 7 rfl) ?_
        refine x_calli C hw (x_runV (As := [.int x8]) (rest := []) C hw (kX6_bareBeatsWith l E hE x8 σ82 _ h) mtX6_bareBeatsWith lk_X6_220 (hE.1 0) (nX hE (by decide)) rfl ⟨by decide, by decide⟩ ⟨rfl, rfl⟩ rfl hl.1 rfl (Nat.le_of_ble_eq_true rfl) (dAt dX6_chance 48 rfl) ⟨Nat.zero_le _, Nat.zero_le _⟩) (fun r97 σ97 H locs h hw => ?_)
        refine lv_iload_n hx hb (dAt dX6_chance 49 rfl) rfl (lv_at hl 3 rfl) ?_
        refine x_calli C hw (x_runS (As := [.int r97, .int x2]) (rest := []) C hw (kX6_has l E hE r97 x2 σ97 _ h) mtX6_has lk_X6_213 ⟨by decide, by decide⟩ ⟨rfl, rfl⟩ rfl hl.1 rfl (Nat.le_of_ble_eq_true rfl) (dAt dX6_chance 50 rfl) ⟨Nat.zero_le _, Nat.zero_le _⟩) (fun r101 σ101 H locs h hw => ?_)
        refine lv_if_eq (tgt := 114) hx hb (dAt dX6_chance 51 rfl) (by decide) (fun c104 => ?_) (fun c104 => ?_)
        · replace h := h.1 c104
          refine lv_iinc (v := (x8 + (1 : Int32))) (lv' := [(8, .int (x8 + (1 : Int32))), (9, .long r82), (0, .ref (gE E 0)), (1, .int x1), (2, .int x2), (3, .int x3), (4, .long x4), (6, .long x6)]) hx hb (dAt dX6_chance 56 rfl) hl (k := 7) rfl rfl (by decide) rfl (fun ls hl => ?_)
          refine lv_goto (tgt := 66) hx hb (dAt dX6_chance 57 rfl) (by decide) ?_
          exact ih x1 x2 x3 x4 x6 (x8 + (1 : Int32)) σ101  _ _ _ hw (lv_sub hl [2, 3, 4, 5, 6, 7, 0] rfl) h
        · replace h := h.2 c104
          refine lv_lload hx hb (dAt dX6_chance 52 rfl) (lv_at hl 5 rfl) ?_
          refine lv_lload hx hb (dAt dX6_chance 53 rfl) (lv_at hl 0 rfl) ?_
          refine lv_ladd hx hb (dAt dX6_chance 54 rfl) ?_
          refine lv_topl (fun x4_112 ex4_112 => ?_)
          replace h := h x4_112 ex4_112
          refine lv_lstore (lv' := [(4, .long x4_112), (9, .long r82), (0, .ref (gE E 0)), (1, .int x1), (2, .int x2), (3, .int x3), (6, .long x6), (8, .int x8)]) hx hb (dAt dX6_chance 55 rfl) hl (by decide) rfl (fun ls hl => ?_)
          refine lv_iinc (v := (x8 + (1 : Int32))) (lv' := [(8, .int (x8 + (1 : Int32))), (4, .long x4_112), (9, .long r82), (0, .ref (gE E 0)), (1, .int x1), (2, .int x2), (3, .int x3), (6, .long x6)]) hx hb (dAt dX6_chance 56 rfl) hl (k := 7) rfl rfl (by decide) rfl (fun ls hl => ?_)
          refine lv_goto (tgt := 66) hx hb (dAt dX6_chance 57 rfl) (by decide) ?_
          exact ih x1 x2 x3 x4_112 x6 (x8 + (1 : Int32)) σ101  _ _ _ hw (lv_sub hl [3, 4, 5, 6, 1, 7, 0] rfl) h
set_option maxHeartbeats 4000000 in
set_option maxRecDepth 100000 in
theorem kX6_chance_37 {p : Program} {l : Launch} {e : Env} {s : State} {m : MethodId} {args : Array Value} {below : List Frame} {meth : Method} {c : Code} {E : wE} (hE : wX E) (C : Cx p s m args c cX6_chance 11 RX6 E (wA E)) (hr : meth.sig.returnType = (some .long)) (hlk : meth.locks = false) {Q : Int64 → Mem → Prop} : ∀ (n : Nat) (x1 : Int32) (x2 : Int32) (x3 : Int32) (x4 : Int64) (x6 : Int64) (x8 : Int32) (σ : Mem) (H : Heap) (locs : List Loc) (ls : Array Slot), wd E (wA E) s σ H locs → lv_has ls 11 [(0, .ref (gE E 0)), (1, .int x1), (2, .int x2), (3, .int x3), (4, .long x4), (6, .long x6), (8, .int x8)] → wX6_chance_37 Q n x1 x2 x3 x4 x6 x8 σ → W p l e rX6_chance s m args below meth c H locs 0 0 (MQ below (wQl E Q) args s 0 0 (wA E)) (F0 m 37 ls []) := by
  have hx := C.1.1
  have hb := C.1.2.1
  intro n
  induction n with
  | zero =>
    intro x1 x2 x3 x4 x6 x8 σ  H locs ls hw hl h
    exact h.elim
  | succ n ih =>
    intro x1 x2 x3 x4 x6 x8 σ  H locs ls hw hl h
    rw [wX6_chance_37] at h
    refine lv_iload hx hb (dAt dX6_chance 19 rfl) (lv_at hl 6 rfl) ?_
    refine lv_aload_n hx hb (dAt dX6_chance 20 rfl) rfl (lv_at hl 0 rfl) ?_
    refine x_getr C hw fl_X6_21 (hE.1 0) (nX hE (by decide)) rfl (dAt dX6_chance 21 rfl) ?_
    refine x_getiN C hw fl_X6_115 (hE.1 6) (nX hE (by decide)) rfl (dAt dX6_chance 22 rfl) ?_
    refine lv_icmp_ge (tgt := 63) hx hb (dAt dX6_chance 23 rfl) (by decide) (fun c46 => ?_) (fun c46 => ?_)
    · replace h := h.1 c46
      refine lv_iconst (v := 0) hx hb (dAt dX6_chance 30 rfl) (by decide) ?_
      refine lv_istore (lv' := [(8, .int (0 : Int32)), (0, .ref (gE E 0)), (1, .int x1), (2, .int x2), (3, .int x3), (4, .long x4), (6, .long x6)]) hx hb (dAt dX6_chance 31 rfl) hl (by decide) rfl (fun ls hl => ?_)
      obtain ⟨n66, h⟩ := h
      exact kX6_chance_66 hE C hr hlk n66 x1 x2 x3 x4 x6 (0 : Int32) σ  _ _ _ hw (lv_sub hl [1, 2, 3, 4, 5, 6, 0] rfl) h
    · replace h := h.2 c46
      refine lv_lload hx hb (dAt dX6_chance 24 rfl) (lv_at hl 5 rfl) ?_
      refine lv_ldc2 (v := 16) hx hb C.1.2.2.2.1 (C.1.2.2.2.2 _ ck_X6_253) (dAt dX6_chance 25 rfl) ?_
      refine lv_lmul hx hb (dAt dX6_chance 26 rfl) ?_
      refine lv_topl (fun x6_55 ex6_55 => ?_)
      replace h := h x6_55 ex6_55
      refine lv_lstore (lv' := [(6, .long x6_55), (0, .ref (gE E 0)), (1, .int x1), (2, .int x2), (3, .int x3), (4, .long x4), (8, .int x8)]) hx hb (dAt dX6_chance 27 rfl) hl (by decide) rfl (fun ls hl => ?_)
      refine lv_iinc (v := (x8 + (1 : Int32))) (lv' := [(8, .int (x8 + (1 : Int32))), (6, .long x6_55), (0, .ref (gE E 0)), (1, .int x1), (2, .int x2), (3, .int x3), (4, .long x4)]) hx hb (dAt dX6_chance 28 rfl) hl (k := 6) rfl rfl (by decide) rfl (fun ls hl => ?_)
      refine lv_goto (tgt := 37) hx hb (dAt dX6_chance 29 rfl) (by decide) ?_
      exact ih x1 x2 x3 x4 x6_55 (x8 + (1 : Int32)) σ  _ _ _ hw (lv_sub hl [2, 3, 4, 5, 6, 1, 0] rfl) h
set_option maxHeartbeats 4000000 in
set_option maxRecDepth 100000 in
theorem kX6_chance (l : Launch) (E : wE) (hE : wX E) (x1 : Int32) (x2 : Int32) (x3 : Int32) (σ : Mem) (Q : Int64 → Mem → Prop) (h : wX6_chance x1 x2 x3 σ Q) : Met l yX6_chance (Cond.code yX6_chance cX6_chance 11 (some .long) :: TB) rX6_chance (wPc E σ [.ref (gE E 0), .int x1, .int x2, .int x3]) (wQl E Q) 0 0 (wA E) := by
  refine wMet (by decide) hE.2.2 (Nat.le_of_ble_eq_true rfl) ?_
  intro p e s m args below meth c ls C hr hlk hl hw
  have hx := C.1.1
  have hb := C.1.2.1
  replace C : Cx p s m args c cX6_chance 11 RX6 E (wA E) := C
  replace hl : lv_has ls 11 [(0, .ref (gE E 0)), (1, .int x1), (2, .int x2), (3, .int x3)] := hl
  unfold wX6_chance at h
  refine lv_iload_n hx hb (dAt dX6_chance 0 rfl) rfl (lv_at hl 1 rfl) ?_
  refine lv_if_lt (tgt := 24) hx hb (dAt dX6_chance 1 rfl) (by decide) (fun c1 => ?_) (fun c1 => ?_)
  · replace h := h.1 c1
    refine lv_ldc2 (v := -9223372036854775806) hx hb C.1.2.2.2.1 (C.1.2.2.2.2 _ ck_X6_251) (dAt dX6_chance 11 rfl) ?_
    exact x_lret C hw hr hlk h (dAt dX6_chance 12 rfl)
  · replace h := h.2 c1
    refine lv_iload_n hx hb (dAt dX6_chance 2 rfl) rfl (lv_at hl 1 rfl) ?_
    refine lv_bipush (v := 16) hx hb (dAt dX6_chance 3 rfl) (by decide) ?_
    refine lv_icmp_gt (tgt := 24) hx hb (dAt dX6_chance 4 rfl) (by decide) (fun c7 => ?_) (fun c7 => ?_)
    · replace h := h.1 c7
      refine lv_ldc2 (v := -9223372036854775806) hx hb C.1.2.2.2.1 (C.1.2.2.2.2 _ ck_X6_251) (dAt dX6_chance 11 rfl) ?_
      exact x_lret C hw hr hlk h (dAt dX6_chance 12 rfl)
    · replace h := h.2 c7
      refine lv_iload_n hx hb (dAt dX6_chance 5 rfl) rfl (lv_at hl 2 rfl) ?_
      refine x_calli C hw (x_runS (As := [.int x2]) (rest := []) C hw (kX6_isBeat l E hE x2 σ _ h) mtX6_isBeat lk_X6_101 ⟨by decide, by decide⟩ ⟨rfl, rfl⟩ rfl hl.1 rfl (Nat.le_of_ble_eq_true rfl) (dAt dX6_chance 6 rfl) ⟨Nat.zero_le _, Nat.zero_le _⟩) (fun r11 σ11 H locs h hw => ?_)
      refine lv_if_eq (tgt := 24) hx hb (dAt dX6_chance 7 rfl) (by decide) (fun c14 => ?_) (fun c14 => ?_)
      · replace h := h.1 c14
        refine lv_ldc2 (v := -9223372036854775806) hx hb C.1.2.2.2.1 (C.1.2.2.2.2 _ ck_X6_251) (dAt dX6_chance 11 rfl) ?_
        exact x_lret C hw hr hlk h (dAt dX6_chance 12 rfl)
      · replace h := h.2 c14
        refine lv_iload_n hx hb (dAt dX6_chance 8 rfl) rfl (lv_at hl 3 rfl) ?_
        refine x_calli C hw (x_runS (As := [.int x3]) (rest := []) C hw (kX6_isEither l E hE x3 σ11 _ h) mtX6_isEither lk_X6_158 ⟨by decide, by decide⟩ ⟨rfl, rfl⟩ rfl hl.1 rfl (Nat.le_of_ble_eq_true rfl) (dAt dX6_chance 9 rfl) ⟨Nat.zero_le _, Nat.zero_le _⟩) (fun r18 σ18 H locs h hw => ?_)
        refine lv_if_ne (tgt := 28) hx hb (dAt dX6_chance 10 rfl) (by decide) (fun c21 => ?_) (fun c21 => ?_)
        · replace h := h.1 c21
          refine lv_lconst (v := 0) hx hb (dAt dX6_chance 13 rfl) (by decide) ?_
          refine lv_lstore (lv' := [(4, .long (0 : Int64)), (0, .ref (gE E 0)), (1, .int x1), (2, .int x2), (3, .int x3)]) hx hb (dAt dX6_chance 14 rfl) hl (by decide) rfl (fun ls hl => ?_)
          refine lv_lconst (v := 1) hx hb (dAt dX6_chance 15 rfl) (by decide) ?_
          refine lv_lstore (lv' := [(6, .long (1 : Int64)), (4, .long (0 : Int64)), (0, .ref (gE E 0)), (1, .int x1), (2, .int x2), (3, .int x3)]) hx hb (dAt dX6_chance 16 rfl) hl (by decide) rfl (fun ls hl => ?_)
          refine lv_iconst (v := 0) hx hb (dAt dX6_chance 17 rfl) (by decide) ?_
          refine lv_istore (lv' := [(8, .int (0 : Int32)), (6, .long (1 : Int64)), (4, .long (0 : Int64)), (0, .ref (gE E 0)), (1, .int x1), (2, .int x2), (3, .int x3)]) hx hb (dAt dX6_chance 18 rfl) hl (by decide) rfl (fun ls hl => ?_)
          obtain ⟨n37, h⟩ := h
          exact kX6_chance_37 hE C hr hlk n37 x1 x2 x3 (0 : Int64) (1 : Int64) (0 : Int32) σ18  _ _ _ hw (lv_sub hl [3, 4, 5, 6, 2, 1, 0] rfl) h
        · replace h := h.2 c21
          refine lv_ldc2 (v := -9223372036854775806) hx hb C.1.2.2.2.1 (C.1.2.2.2.2 _ ck_X6_251) (dAt dX6_chance 11 rfl) ?_
          exact x_lret C hw hr hlk h (dAt dX6_chance 12 rfl)
def tX6_dances : List (Nat × Instr × Nat) := [(0, .iload_n 2, 1), (1, .ifCond .lt 16, 3), (4, .iload_n 2, 1), (5, .bipush 24, 2), (7, .if_icmp .gt 10, 3), (10, .iload_n 3, 1), (11, .invokestatic 158, 3), (14, .ifCond .ne 6, 3), (17, .bipush (-2), 2), (19, .ireturn, 1), (20, .aload_n 0, 1), (21, .getfield 32, 3), (24, .aload_n 0, 1), (25, .getfield 28, 3), (28, .invokevirtual 202, 3), (31, .iload_n 1, 1), (32, .istore 4, 2), (34, .iconst 0, 1), (35, .istore 5, 2), (37, .iload 5, 2), (39, .bipush 24, 2), (41, .if_icmp .ge 48, 3), (44, .ldc_w 263, 3), (47, .iload 4, 2), (49, .imul, 1), (50, .sipush 12345, 3), (53, .iadd, 1), (54, .istore 4, 2), (56, .aload_n 0, 1), (57, .getfield 32, 3), (60, .getfield 104, 3), (63, .iload 5, 2), (65, .iload 5, 2), (67, .iload_n 2, 1), (68, .if_icmp .ge 13, 3), (71, .iload 4, 2), (73, .bipush 16, 2), (75, .iushr, 1), (76, .iconst 4, 1), (77, .irem, 1), (78, .goto 4, 3), (81, .iconst 2, 1), (82, .iastore, 1), (83, .iinc 5 1, 3), (86, .goto (-49), 3), (89, .aload_n 0, 1), (90, .getfield 42, 3), (93, .aload_n 0, 1), (94, .getfield 32, 3), (97, .aload_n 0, 1), (98, .getfield 21, 3), (101, .invokevirtual 206, 3), (104, .iload_n 3, 1), (105, .ifCond .ne 13, 3), (108, .aload_n 0, 1), (109, .getfield 42, 3), (112, .getfield 167, 3), (115, .goto 10, 3), (118, .aload_n 0, 1), (119, .getfield 42, 3), (122, .getfield 186, 3), (125, .ireturn, 1)]
theorem dX6_dances : dOk cX6_dances tX6_dances = true := by decide +kernel
abbrev rX6_dances : Room := { frames := 3, cells := 0, slots := 0, locals := 94 }
def wX6_dances_89 (Q : Int32 → Mem → Prop) (x3 : Int32) (σ : Mem) : Prop := (wX0_play 35 15 σ (fun σ101 => (Q (if x3 = 0 then (σ101 35 16) else (σ101 35 18)) σ101)))
def wX6_dances_37 (Q : Int32 → Mem → Prop) : Nat → Int32 → Int32 → Int32 → Int32 → Mem → Prop
  | 0, _, _, _, _, _ => False
  | n + 1, x2, x3, x4, x5, σ => ((((24 : Int32) ≤ x5) → (wX6_dances_89 Q x3 σ)) ∧ ((¬ (24 : Int32) ≤ x5) → (∀ x4_54 : Int32, x4_54 = (((1103515245 : Int32) * x4) + (12345 : Int32)) → (vp_in x5 24 ∧ (∀ σ82 : Mem, σ82 = um σ 19 (x5).toNatClampNeg (if x2 ≤ x5 then (2 : Int32) else ((((x4_54).toUInt32 >>> (((16 : Int32)).toUInt32 &&& Int32.toUInt32 31)).toInt32) - (((x4_54).toUInt32 >>> (((16 : Int32)).toUInt32 &&& Int32.toUInt32 31)).toInt32) / (4 : Int32) * (4 : Int32))) → (wX6_dances_37 Q n x2 x3 x4_54 (x5 + (1 : Int32)) σ82))))))
def wX6_dances (x1 : Int32) (x2 : Int32) (x3 : Int32) (σ : Mem) (Q : Int32 → Mem → Prop) : Prop := (((x2 < 0) → (Q (-2 : Int32) σ)) ∧ ((¬ x2 < 0) → ((((24 : Int32) < x2) → (Q (-2 : Int32) σ)) ∧ ((¬ (24 : Int32) < x2) → (wX6_isEither x3 σ (fun r11 σ11 => (((¬ r11 = 0) → (wX3_become 15 10 σ11 (fun σ28 => (∃ N37, wX6_dances_37 Q N37 x2 x3 x1 (0 : Int32) σ28)))) ∧ ((r11 = 0) → (Q (-2 : Int32) σ11)))))))))
set_option maxHeartbeats 4000000 in
set_option maxRecDepth 100000 in
theorem kX6_dances_89 {p : Program} {l : Launch} {e : Env} {s : State} {m : MethodId} {args : Array Value} {below : List Frame} {meth : Method} {c : Code} {E : wE} (hE : wX E) (C : Cx p s m args c cX6_dances 6 RX6 E (wA E)) (hr : meth.sig.returnType = (some .int)) (hlk : meth.locks = false) {Q : Int32 → Mem → Prop} : ∀ (x3 : Int32) (σ : Mem) (H : Heap) (locs : List Loc) (ls : Array Slot), wd E (wA E) s σ H locs → lv_has ls 6 [(0, .ref (gE E 0)), (3, .int x3)] → wX6_dances_89 Q x3 σ → W p l e rX6_dances s m args below meth c H locs 0 0 (MQ below (wQi E Q) args s 0 0 (wA E)) (F0 m 89 ls []) := by
  have hx := C.1.1
  have hb := C.1.2.1
  intro x3 σ  H locs ls hw hl h
  unfold wX6_dances_89 at h
  refine lv_aload_n hx hb (dAt dX6_dances 45 rfl) rfl (lv_at hl 0 rfl) ?_
  refine x_getr C hw fl_X6_42 (hE.1 0) (nX hE (by decide)) rfl (dAt dX6_dances 46 rfl) ?_
  refine lv_aload_n hx hb (dAt dX6_dances 47 rfl) rfl (lv_at hl 0 rfl) ?_
  refine x_getr C hw fl_X6_32 (hE.1 0) (nX hE (by decide)) rfl (dAt dX6_dances 48 rfl) ?_
  refine lv_aload_n hx hb (dAt dX6_dances 49 rfl) rfl (lv_at hl 0 rfl) ?_
  refine x_getr C hw fl_X6_21 (hE.1 0) (nX hE (by decide)) rfl (dAt dX6_dances 50 rfl) ?_
  refine x_callv C hw (x_runVN (As := [.ref (gE E 15), .ref (gE E 6)]) (rest := []) C hw (kX0_play l E hE 35 isD_35 15 isS_15 σ _ h) mtX0_play lk_X6_206 (hE.1 35) (nX hE (by decide)) rfl ⟨by decide, by decide⟩ ⟨rfl, rfl⟩ rfl hl.1 rfl (Nat.le_of_ble_eq_true rfl) (dAt dX6_dances 51 rfl) ⟨Nat.zero_le _, Nat.zero_le _⟩) (fun σ101 H locs h hw => ?_)
  refine lv_iload_n hx hb (dAt dX6_dances 52 rfl) rfl (lv_at hl 1 rfl) ?_
  refine x_dia (ls := ls) (pcJ := 125) (cnd := x3 = 0) (a := (σ101 35 16)) (b := (σ101 35 18)) ([]) ?_ (fun ht105 hf105 => ?_)
  · exact x_iret C hw hr hlk h (dAt dX6_dances 61 rfl)
  · refine lv_if_ne (tgt := 118) hx hb (dAt dX6_dances 53 rfl) (by decide) (fun c105 => ?_) (fun c105 => ?_)
    · refine lv_aload_n hx hb (dAt dX6_dances 58 rfl) rfl (lv_at hl 0 rfl) ?_
      refine x_getr C hw fl_X6_42 (hE.1 0) (nX hE (by decide)) rfl (dAt dX6_dances 59 rfl) ?_
      refine x_getiN C hw fl_X6_186 (hE.1 35) (nX hE (by decide)) rfl (dAt dX6_dances 60 rfl) ?_
      exact hf105 c105
    · refine lv_aload_n hx hb (dAt dX6_dances 54 rfl) rfl (lv_at hl 0 rfl) ?_
      refine x_getr C hw fl_X6_42 (hE.1 0) (nX hE (by decide)) rfl (dAt dX6_dances 55 rfl) ?_
      refine x_getiN C hw fl_X6_167 (hE.1 35) (nX hE (by decide)) rfl (dAt dX6_dances 56 rfl) ?_
      refine lv_goto (tgt := 125) hx hb (dAt dX6_dances 57 rfl) (by decide) ?_
      exact ht105 c105
set_option maxHeartbeats 4000000 in
set_option maxRecDepth 100000 in
theorem kX6_dances_37 {p : Program} {l : Launch} {e : Env} {s : State} {m : MethodId} {args : Array Value} {below : List Frame} {meth : Method} {c : Code} {E : wE} (hE : wX E) (C : Cx p s m args c cX6_dances 6 RX6 E (wA E)) (hr : meth.sig.returnType = (some .int)) (hlk : meth.locks = false) {Q : Int32 → Mem → Prop} : ∀ (n : Nat) (x2 : Int32) (x3 : Int32) (x4 : Int32) (x5 : Int32) (σ : Mem) (H : Heap) (locs : List Loc) (ls : Array Slot), wd E (wA E) s σ H locs → lv_has ls 6 [(0, .ref (gE E 0)), (2, .int x2), (3, .int x3), (4, .int x4), (5, .int x5)] → wX6_dances_37 Q n x2 x3 x4 x5 σ → W p l e rX6_dances s m args below meth c H locs 0 0 (MQ below (wQi E Q) args s 0 0 (wA E)) (F0 m 37 ls []) := by
  have hx := C.1.1
  have hb := C.1.2.1
  intro n
  induction n with
  | zero =>
    intro x2 x3 x4 x5 σ  H locs ls hw hl h
    exact h.elim
  | succ n ih =>
    intro x2 x3 x4 x5 σ  H locs ls hw hl h
    rw [wX6_dances_37] at h
    refine lv_iload hx hb (dAt dX6_dances 19 rfl) (lv_at hl 4 rfl) ?_
    refine lv_bipush (v := 24) hx hb (dAt dX6_dances 20 rfl) (by decide) ?_
    refine lv_icmp_ge (tgt := 89) hx hb (dAt dX6_dances 21 rfl) (by decide) (fun c41 => ?_) (fun c41 => ?_)
    · replace h := h.1 c41
      exact kX6_dances_89 hE C hr hlk x3 σ  _ _ _ hw (lv_sub hl [0, 2] rfl) h
    · replace h := h.2 c41
      refine lv_ldcw (v := 1103515245) hx hb C.1.2.2.2.1 (C.1.2.2.2.2 _ ck_X6_263) (dAt dX6_dances 22 rfl) ?_
      refine lv_iload hx hb (dAt dX6_dances 23 rfl) (lv_at hl 3 rfl) ?_
      refine lv_imul hx hb (dAt dX6_dances 24 rfl) ?_
      refine lv_sipush (v := 12345) hx hb (dAt dX6_dances 25 rfl) (by decide) ?_
      refine lv_iadd hx hb (dAt dX6_dances 26 rfl) ?_
      refine lv_topi (fun x4_54 ex4_54 => ?_)
      replace h := h x4_54 ex4_54
      refine lv_istore (lv' := [(4, .int x4_54), (0, .ref (gE E 0)), (2, .int x2), (3, .int x3), (5, .int x5)]) hx hb (dAt dX6_dances 27 rfl) hl (by decide) rfl (fun ls hl => ?_)
      refine lv_aload_n hx hb (dAt dX6_dances 28 rfl) rfl (lv_at hl 1 rfl) ?_
      refine x_getr C hw fl_X6_32 (hE.1 0) (nX hE (by decide)) rfl (dAt dX6_dances 29 rfl) ?_
      refine x_getrN C hw fl_X6_104 (hE.1 15) (nX hE (by decide)) rfl (dAt dX6_dances 30 rfl) ?_
      refine lv_iload hx hb (dAt dX6_dances 31 rfl) (lv_at hl 4 rfl) ?_
      refine lv_iload hx hb (dAt dX6_dances 32 rfl) (lv_at hl 4 rfl) ?_
      refine lv_iload_n hx hb (dAt dX6_dances 33 rfl) rfl (lv_at hl 2 rfl) ?_
      refine x_dia (ls := ls) (pcJ := 82) (cnd := x2 ≤ x5) (a := (2 : Int32)) (b := ((((x4_54).toUInt32 >>> (((16 : Int32)).toUInt32 &&& Int32.toUInt32 31)).toInt32) - (((x4_54).toUInt32 >>> (((16 : Int32)).toUInt32 &&& Int32.toUInt32 31)).toInt32) / (4 : Int32) * (4 : Int32))) ([.int x5, .ref (gE E 19)]) ?_ (fun ht68 hf68 => ?_)
      · obtain ⟨z82, h⟩ := h
        refine x_ist C hw (hE.1 19) (nX hE (by decide)) z82 rfl (dAt dX6_dances 42 rfl) (fun σ82 H locs eσ82 hw => ?_)
        replace h := h σ82 eσ82
        refine lv_iinc (v := (x5 + (1 : Int32))) (lv' := [(5, .int (x5 + (1 : Int32))), (4, .int x4_54), (0, .ref (gE E 0)), (2, .int x2), (3, .int x3)]) hx hb (dAt dX6_dances 43 rfl) hl (k := 4) rfl rfl (by decide) rfl (fun ls hl => ?_)
        refine lv_goto (tgt := 37) hx hb (dAt dX6_dances 44 rfl) (by decide) ?_
        exact ih x2 x3 x4_54 (x5 + (1 : Int32)) σ82  _ _ _ hw (lv_sub hl [2, 3, 4, 1, 0] rfl) h
      · refine lv_icmp_ge (tgt := 81) hx hb (dAt dX6_dances 34 rfl) (by decide) (fun c68 => ?_) (fun c68 => ?_)
        · refine lv_iconst (v := 2) hx hb (dAt dX6_dances 41 rfl) (by decide) ?_
          exact ht68 c68
        · refine lv_iload hx hb (dAt dX6_dances 35 rfl) (lv_at hl 0 rfl) ?_
          refine lv_bipush (v := 16) hx hb (dAt dX6_dances 36 rfl) (by decide) ?_
          refine lv_iushr hx hb (dAt dX6_dances 37 rfl) rfl ?_
          refine lv_iconst (v := 4) hx hb (dAt dX6_dances 38 rfl) (by decide) ?_
          refine lv_irem hx hb (dAt dX6_dances 39 rfl) (by decide) ?_
          refine lv_goto (tgt := 82) hx hb (dAt dX6_dances 40 rfl) (by decide) ?_
          exact hf68 c68
set_option maxHeartbeats 4000000 in
set_option maxRecDepth 100000 in
theorem kX6_dances (l : Launch) (E : wE) (hE : wX E) (x1 : Int32) (x2 : Int32) (x3 : Int32) (σ : Mem) (Q : Int32 → Mem → Prop) (h : wX6_dances x1 x2 x3 σ Q) : Met l yX6_dances (Cond.code yX6_dances cX6_dances 6 (some .int) :: TB) rX6_dances (wPc E σ [.ref (gE E 0), .int x1, .int x2, .int x3]) (wQi E Q) 0 0 (wA E) := by
  refine wMet (by decide) hE.2.2 (Nat.le_of_ble_eq_true rfl) ?_
  intro p e s m args below meth c ls C hr hlk hl hw
  have hx := C.1.1
  have hb := C.1.2.1
  replace C : Cx p s m args c cX6_dances 6 RX6 E (wA E) := C
  replace hl : lv_has ls 6 [(0, .ref (gE E 0)), (1, .int x1), (2, .int x2), (3, .int x3)] := hl
  unfold wX6_dances at h
  refine lv_iload_n hx hb (dAt dX6_dances 0 rfl) rfl (lv_at hl 2 rfl) ?_
  refine lv_if_lt (tgt := 17) hx hb (dAt dX6_dances 1 rfl) (by decide) (fun c1 => ?_) (fun c1 => ?_)
  · replace h := h.1 c1
    refine lv_bipush (v := -2) hx hb (dAt dX6_dances 8 rfl) (by decide) ?_
    exact x_iret C hw hr hlk h (dAt dX6_dances 9 rfl)
  · replace h := h.2 c1
    refine lv_iload_n hx hb (dAt dX6_dances 2 rfl) rfl (lv_at hl 2 rfl) ?_
    refine lv_bipush (v := 24) hx hb (dAt dX6_dances 3 rfl) (by decide) ?_
    refine lv_icmp_gt (tgt := 17) hx hb (dAt dX6_dances 4 rfl) (by decide) (fun c7 => ?_) (fun c7 => ?_)
    · replace h := h.1 c7
      refine lv_bipush (v := -2) hx hb (dAt dX6_dances 8 rfl) (by decide) ?_
      exact x_iret C hw hr hlk h (dAt dX6_dances 9 rfl)
    · replace h := h.2 c7
      refine lv_iload_n hx hb (dAt dX6_dances 5 rfl) rfl (lv_at hl 3 rfl) ?_
      refine x_calli C hw (x_runS (As := [.int x3]) (rest := []) C hw (kX6_isEither l E hE x3 σ _ h) mtX6_isEither lk_X6_158 ⟨by decide, by decide⟩ ⟨rfl, rfl⟩ rfl hl.1 rfl (Nat.le_of_ble_eq_true rfl) (dAt dX6_dances 6 rfl) ⟨Nat.zero_le _, Nat.zero_le _⟩) (fun r11 σ11 H locs h hw => ?_)
      refine lv_if_ne (tgt := 20) hx hb (dAt dX6_dances 7 rfl) (by decide) (fun c14 => ?_) (fun c14 => ?_)
      · replace h := h.1 c14
        refine lv_aload_n hx hb (dAt dX6_dances 10 rfl) rfl (lv_at hl 0 rfl) ?_
        refine x_getr C hw fl_X6_32 (hE.1 0) (nX hE (by decide)) rfl (dAt dX6_dances 11 rfl) ?_
        refine lv_aload_n hx hb (dAt dX6_dances 12 rfl) rfl (lv_at hl 0 rfl) ?_
        refine x_getr C hw fl_X6_28 (hE.1 0) (nX hE (by decide)) rfl (dAt dX6_dances 13 rfl) ?_
        refine x_callv C hw (x_runVN (As := [.ref (gE E 10)]) (rest := []) C hw (kX3_become l E hE 15 isS_15 10 isS_10 σ11 _ h) mtX3_become lk_X6_202 (hE.1 15) (nX hE (by decide)) rfl ⟨by decide, by decide⟩ ⟨rfl, rfl⟩ rfl hl.1 rfl (Nat.le_of_ble_eq_true rfl) (dAt dX6_dances 14 rfl) ⟨Nat.zero_le _, Nat.zero_le _⟩) (fun σ28 H locs h hw => ?_)
        refine lv_iload_n hx hb (dAt dX6_dances 15 rfl) rfl (lv_at hl 1 rfl) ?_
        refine lv_istore (lv' := [(4, .int x1), (0, .ref (gE E 0)), (1, .int x1), (2, .int x2), (3, .int x3)]) hx hb (dAt dX6_dances 16 rfl) hl (by decide) rfl (fun ls hl => ?_)
        refine lv_iconst (v := 0) hx hb (dAt dX6_dances 17 rfl) (by decide) ?_
        refine lv_istore (lv' := [(5, .int (0 : Int32)), (4, .int x1), (0, .ref (gE E 0)), (1, .int x1), (2, .int x2), (3, .int x3)]) hx hb (dAt dX6_dances 18 rfl) hl (by decide) rfl (fun ls hl => ?_)
        obtain ⟨n37, h⟩ := h
        exact kX6_dances_37 hE C hr hlk n37 x2 x3 x1 (0 : Int32) σ28  _ _ _ hw (lv_sub hl [2, 4, 5, 1, 0] rfl) h
      · replace h := h.2 c14
        refine lv_bipush (v := -2) hx hb (dAt dX6_dances 8 rfl) (by decide) ?_
        exact x_iret C hw hr hlk h (dAt dX6_dances 9 rfl)
def tX6_isForm : List (Nat × Instr × Nat) := [(0, .iload_n 0, 1), (1, .ifCond .lt 12, 3), (4, .iload_n 0, 1), (5, .iconst 2, 1), (6, .if_icmp .gt 7, 3), (9, .iconst 1, 1), (10, .goto 4, 3), (13, .iconst 0, 1), (14, .ireturn, 1)]
theorem dX6_isForm : dOk cX6_isForm tX6_isForm = true := by decide +kernel
abbrev rX6_isForm : Room := { frames := 0, cells := 0, slots := 0, locals := 0 }
def wX6_isForm (x0 : Int32) (σ : Mem) (Q : Int32 → Mem → Prop) : Prop := (((x0 < 0) → (Q (0 : Int32) σ)) ∧ ((¬ x0 < 0) → ((((2 : Int32) < x0) → (Q (0 : Int32) σ)) ∧ ((¬ (2 : Int32) < x0) → (Q (1 : Int32) σ)))))
set_option maxHeartbeats 4000000 in
set_option maxRecDepth 100000 in
theorem kX6_isForm (l : Launch) (E : wE) (hE : wX E) (x0 : Int32) (σ : Mem) (Q : Int32 → Mem → Prop) (h : wX6_isForm x0 σ Q) : Met l yX6_isForm (Cond.code yX6_isForm cX6_isForm 1 (some .boolean) :: TB) rX6_isForm (wPc E σ [.int x0]) (wQi E Q) 0 0 (wA E) := by
  refine wMet (by decide) hE.2.2 (Nat.le_of_ble_eq_true rfl) ?_
  intro p e s m args below meth c ls C hr hlk hl hw
  have hx := C.1.1
  have hb := C.1.2.1
  replace C : Cx p s m args c cX6_isForm 1 RX6 E (wA E) := C
  replace hl : lv_has ls 1 [(0, .int x0)] := hl
  unfold wX6_isForm at h
  refine lv_iload_n hx hb (dAt dX6_isForm 0 rfl) rfl (lv_at hl 0 rfl) ?_
  refine lv_if_lt (tgt := 13) hx hb (dAt dX6_isForm 1 rfl) (by decide) (fun c1 => ?_) (fun c1 => ?_)
  · replace h := h.1 c1
    refine lv_iconst (v := 0) hx hb (dAt dX6_isForm 7 rfl) (by decide) ?_
    exact x_zret C hw hr hlk rfl h (dAt dX6_isForm 8 rfl)
  · replace h := h.2 c1
    refine lv_iload_n hx hb (dAt dX6_isForm 2 rfl) rfl (lv_at hl 0 rfl) ?_
    refine lv_iconst (v := 2) hx hb (dAt dX6_isForm 3 rfl) (by decide) ?_
    refine lv_icmp_gt (tgt := 13) hx hb (dAt dX6_isForm 4 rfl) (by decide) (fun c6 => ?_) (fun c6 => ?_)
    · replace h := h.1 c6
      refine lv_iconst (v := 0) hx hb (dAt dX6_isForm 7 rfl) (by decide) ?_
      exact x_zret C hw hr hlk rfl h (dAt dX6_isForm 8 rfl)
    · replace h := h.2 c6
      refine lv_iconst (v := 1) hx hb (dAt dX6_isForm 5 rfl) (by decide) ?_
      refine lv_goto (tgt := 14) hx hb (dAt dX6_isForm 6 rfl) (by decide) ?_
      exact x_zret C hw hr hlk rfl h (dAt dX6_isForm 8 rfl)
def tX6_sheet : List (Nat × Instr × Nat) := [(0, .iload_n 1, 1), (1, .invokestatic 125, 3), (4, .ifCond .eq 16, 3), (7, .iload_n 2, 1), (8, .invokestatic 264, 3), (11, .ifCond .eq 9, 3), (14, .iload_n 3, 1), (15, .bipush 60, 2), (17, .if_icmp .le 6, 3), (20, .bipush (-2), 2), (22, .ireturn, 1), (23, .iload_n 3, 1), (24, .ifCond .ge 9, 3), (27, .aload_n 0, 1), (28, .iconst 5, 1), (29, .invokevirtual 131, 3), (32, .ireturn, 1), (33, .aload_n 0, 1), (34, .getfield 55, 3), (37, .iload_n 1, 1), (38, .aaload, 1), (39, .iload_n 2, 1), (40, .putfield 128, 3), (43, .aload_n 0, 1), (44, .getfield 55, 3), (47, .iload_n 1, 1), (48, .aaload, 1), (49, .iload_n 3, 1), (50, .putfield 135, 3), (53, .aload_n 0, 1), (54, .getfield 55, 3), (57, .iload_n 1, 1), (58, .aaload, 1), (59, .getfield 138, 3), (62, .iconst 0, 1), (63, .invokestatic 267, 3), (66, .iload_n 3, 1), (67, .ireturn, 1)]
theorem dX6_sheet : dOk cX6_sheet tX6_sheet = true := by decide +kernel
abbrev rX6_sheet : Room := { frames := 1, cells := 0, slots := 0, locals := 23 }
def wX6_sheet (x1 : Int32) (x2 : Int32) (x3 : Int32) (σ : Mem) (Q : Int32 → Mem → Prop) : Prop := (wX6_isSheet x1 σ (fun r1 σ1 => (((r1 = 0) → (Q (-2 : Int32) σ1)) ∧ ((¬ r1 = 0) → (wX6_isForm x2 σ1 (fun r8 σ8 => (((r8 = 0) → (Q (-2 : Int32) σ8)) ∧ ((¬ r8 = 0) → (((x3 ≤ (60 : Int32)) → (((0 ≤ x3) → (vp_in x1 4 ∧ (∀ σ40 : Mem, σ40 = um σ8 (54 + 2 * (x1).toNatClampNeg) 1 x2 → (vp_in x1 4 ∧ (∀ σ50 : Mem, σ50 = um σ40 (54 + 2 * (x1).toNatClampNeg) 2 x3 → (vp_in x1 4 ∧ (wJ7_fill_53178 ((54 + 2 * (x1).toNatClampNeg) + 1) 60 (0 : Int32) σ50 (fun σ63 => (Q x3 σ63))))))))) ∧ ((¬ 0 ≤ x3) → (wX6_found (5 : Int32) σ8 (fun r29 σ29 => (Q r29 σ29)))))) ∧ ((¬ x3 ≤ (60 : Int32)) → (Q (-2 : Int32) σ8)))))))))))
set_option maxHeartbeats 4000000 in
set_option maxRecDepth 100000 in
theorem kX6_sheet (l : Launch) (E : wE) (hE : wX E) (x1 : Int32) (x2 : Int32) (x3 : Int32) (σ : Mem) (Q : Int32 → Mem → Prop) (h : wX6_sheet x1 x2 x3 σ Q) : Met l yX6_sheet (Cond.code yX6_sheet cX6_sheet 4 (some .int) :: TB) rX6_sheet (wPc E σ [.ref (gE E 0), .int x1, .int x2, .int x3]) (wQi E Q) 0 0 (wA E) := by
  refine wMet (by decide) hE.2.2 (Nat.le_of_ble_eq_true rfl) ?_
  intro p e s m args below meth c ls C hr hlk hl hw
  have hx := C.1.1
  have hb := C.1.2.1
  replace C : Cx p s m args c cX6_sheet 4 RX6 E (wA E) := C
  replace hl : lv_has ls 4 [(0, .ref (gE E 0)), (1, .int x1), (2, .int x2), (3, .int x3)] := hl
  unfold wX6_sheet at h
  refine lv_iload_n hx hb (dAt dX6_sheet 0 rfl) rfl (lv_at hl 1 rfl) ?_
  refine x_calli C hw (x_runS (As := [.int x1]) (rest := []) C hw (kX6_isSheet l E hE x1 σ _ h) mtX6_isSheet lk_X6_125 ⟨by decide, by decide⟩ ⟨rfl, rfl⟩ rfl hl.1 rfl (Nat.le_of_ble_eq_true rfl) (dAt dX6_sheet 1 rfl) ⟨Nat.zero_le _, Nat.zero_le _⟩) (fun r1 σ1 H locs h hw => ?_)
  refine lv_if_eq (tgt := 20) hx hb (dAt dX6_sheet 2 rfl) (by decide) (fun c4 => ?_) (fun c4 => ?_)
  · replace h := h.1 c4
    refine lv_bipush (v := -2) hx hb (dAt dX6_sheet 9 rfl) (by decide) ?_
    exact x_iret C hw hr hlk h (dAt dX6_sheet 10 rfl)
  · replace h := h.2 c4
    refine lv_iload_n hx hb (dAt dX6_sheet 3 rfl) rfl (lv_at hl 2 rfl) ?_
    refine x_calli C hw (x_runS (As := [.int x2]) (rest := []) C hw (kX6_isForm l E hE x2 σ1 _ h) mtX6_isForm lk_X6_264 ⟨by decide, by decide⟩ ⟨rfl, rfl⟩ rfl hl.1 rfl (Nat.le_of_ble_eq_true rfl) (dAt dX6_sheet 4 rfl) ⟨Nat.zero_le _, Nat.zero_le _⟩) (fun r8 σ8 H locs h hw => ?_)
    refine lv_if_eq (tgt := 20) hx hb (dAt dX6_sheet 5 rfl) (by decide) (fun c11 => ?_) (fun c11 => ?_)
    · replace h := h.1 c11
      refine lv_bipush (v := -2) hx hb (dAt dX6_sheet 9 rfl) (by decide) ?_
      exact x_iret C hw hr hlk h (dAt dX6_sheet 10 rfl)
    · replace h := h.2 c11
      refine lv_iload_n hx hb (dAt dX6_sheet 6 rfl) rfl (lv_at hl 3 rfl) ?_
      refine lv_bipush (v := 60) hx hb (dAt dX6_sheet 7 rfl) (by decide) ?_
      refine lv_icmp_le (tgt := 23) hx hb (dAt dX6_sheet 8 rfl) (by decide) (fun c17 => ?_) (fun c17 => ?_)
      · replace h := h.1 c17
        refine lv_iload_n hx hb (dAt dX6_sheet 11 rfl) rfl (lv_at hl 3 rfl) ?_
        refine lv_if_ge (tgt := 33) hx hb (dAt dX6_sheet 12 rfl) (by decide) (fun c24 => ?_) (fun c24 => ?_)
        · replace h := h.1 c24
          refine lv_aload_n hx hb (dAt dX6_sheet 17 rfl) rfl (lv_at hl 0 rfl) ?_
          refine x_getr C hw fl_X6_55 (hE.1 0) (nX hE (by decide)) rfl (dAt dX6_sheet 18 rfl) ?_
          refine lv_iload_n hx hb (dAt dX6_sheet 19 rfl) rfl (lv_at hl 1 rfl) ?_
          obtain ⟨z38, h⟩ := h
          refine x_aald C hw (hE.1 53) (nX hE (by decide)) z38 (dAt dX6_sheet 20 rfl) ?_
          refine lv_iload_n hx hb (dAt dX6_sheet 21 rfl) rfl (lv_at hl 2 rfl) ?_
          refine x_pfN C hw fl_X6_128 (sH hE (isH_of z38)) (nH hE (isH_of z38) (by omega)) rfl rfl rfl (dAt dX6_sheet 22 rfl) (fun σ40 H locs eσ40 hw => ?_)
          replace h := h σ40 eσ40
          refine lv_aload_n hx hb (dAt dX6_sheet 23 rfl) rfl (lv_at hl 0 rfl) ?_
          refine x_getr C hw fl_X6_55 (hE.1 0) (nX hE (by decide)) rfl (dAt dX6_sheet 24 rfl) ?_
          refine lv_iload_n hx hb (dAt dX6_sheet 25 rfl) rfl (lv_at hl 1 rfl) ?_
          obtain ⟨z48, h⟩ := h
          refine x_aald C hw (hE.1 53) (nX hE (by decide)) z48 (dAt dX6_sheet 26 rfl) ?_
          refine lv_iload_n hx hb (dAt dX6_sheet 27 rfl) rfl (lv_at hl 3 rfl) ?_
          refine x_pfN C hw fl_X6_135 (sH hE (isH_of z48)) (nH hE (isH_of z48) (by omega)) rfl rfl rfl (dAt dX6_sheet 28 rfl) (fun σ50 H locs eσ50 hw => ?_)
          replace h := h σ50 eσ50
          refine lv_aload_n hx hb (dAt dX6_sheet 29 rfl) rfl (lv_at hl 0 rfl) ?_
          refine x_getr C hw fl_X6_55 (hE.1 0) (nX hE (by decide)) rfl (dAt dX6_sheet 30 rfl) ?_
          refine lv_iload_n hx hb (dAt dX6_sheet 31 rfl) rfl (lv_at hl 1 rfl) ?_
          obtain ⟨z58, h⟩ := h
          refine x_aald C hw (hE.1 53) (nX hE (by decide)) z58 (dAt dX6_sheet 32 rfl) ?_
          refine x_getrN C hw fl_X6_138 (sH hE (isH_of z58)) (nH hE (isH_of z58) (by omega)) rfl (dAt dX6_sheet 33 rfl) ?_
          refine lv_iconst (v := 0) hx hb (dAt dX6_sheet 34 rfl) (by decide) ?_
          refine x_callv C hw (x_runS (As := [.ref (gE E ((54 + 2 * (x1).toNatClampNeg) + 1)), .int (0 : Int32)]) (rest := []) C hw (kJ7_fill_53178 l E hE.2.2 ((54 + 2 * (x1).toNatClampNeg) + 1) 60 (sH_1 hE (isH_of z58)) (nH hE (isH_of z58) (by omega)) (0 : Int32) σ50 _ h) mtJ7_fill_53178 lk_X6_267 ⟨by decide, by decide⟩ ⟨rfl, rfl⟩ rfl hl.1 rfl (Nat.le_of_ble_eq_true rfl) (dAt dX6_sheet 35 rfl) ⟨Nat.zero_le _, Nat.zero_le _⟩) (fun σ63 H locs h hw => ?_)
          refine lv_iload_n hx hb (dAt dX6_sheet 36 rfl) rfl (lv_at hl 3 rfl) ?_
          exact x_iret C hw hr hlk h (dAt dX6_sheet 37 rfl)
        · replace h := h.2 c24
          refine lv_aload_n hx hb (dAt dX6_sheet 13 rfl) rfl (lv_at hl 0 rfl) ?_
          refine lv_iconst (v := 5) hx hb (dAt dX6_sheet 14 rfl) (by decide) ?_
          refine x_calli C hw (x_runV (As := [.int (5 : Int32)]) (rest := []) C hw (kX6_found l E hE (5 : Int32) σ8 _ h) mtX6_found lk_X6_131 (hE.1 0) (nX hE (by decide)) rfl ⟨by decide, by decide⟩ ⟨rfl, rfl⟩ rfl hl.1 rfl (Nat.le_of_ble_eq_true rfl) (dAt dX6_sheet 15 rfl) ⟨Nat.zero_le _, Nat.zero_le _⟩) (fun r29 σ29 H locs h hw => ?_)
          exact x_iret C hw hr hlk h (dAt dX6_sheet 16 rfl)
      · replace h := h.2 c17
        refine lv_bipush (v := -2) hx hb (dAt dX6_sheet 9 rfl) (by decide) ?_
        exact x_iret C hw hr hlk h (dAt dX6_sheet 10 rfl)
def tX6_lose : List (Nat × Instr × Nat) := [(0, .iload_n 1, 1), (1, .invokestatic 125, 3), (4, .ifCond .ne 6, 3), (7, .bipush (-2), 2), (9, .ireturn, 1), (10, .aload_n 0, 1), (11, .getfield 55, 3), (14, .iload_n 1, 1), (15, .aaload, 1), (16, .getfield 128, 3), (19, .iconst (-1), 1), (20, .if_icmp .ne 9, 3), (23, .aload_n 0, 1), (24, .iconst 1, 1), (25, .invokevirtual 131, 3), (28, .ireturn, 1), (29, .aload_n 0, 1), (30, .getfield 55, 3), (33, .iload_n 1, 1), (34, .aaload, 1), (35, .iconst (-1), 1), (36, .putfield 128, 3), (39, .aload_n 0, 1), (40, .getfield 55, 3), (43, .iload_n 1, 1), (44, .aaload, 1), (45, .getfield 135, 3), (48, .ireturn, 1)]
theorem dX6_lose : dOk cX6_lose tX6_lose = true := by decide +kernel
abbrev rX6_lose : Room := { frames := 1, cells := 0, slots := 0, locals := 21 }
def wX6_lose (x1 : Int32) (σ : Mem) (Q : Int32 → Mem → Prop) : Prop := (wX6_isSheet x1 σ (fun r1 σ1 => (((¬ r1 = 0) → (vp_in x1 4 ∧ (((¬ (σ1 (54 + 2 * (x1).toNatClampNeg) 1) = (-1 : Int32)) → (vp_in x1 4 ∧ (∀ σ36 : Mem, σ36 = um σ1 (54 + 2 * (x1).toNatClampNeg) 1 (-1 : Int32) → (vp_in x1 4 ∧ (Q (σ36 (54 + 2 * (x1).toNatClampNeg) 2) σ36))))) ∧ (((σ1 (54 + 2 * (x1).toNatClampNeg) 1) = (-1 : Int32)) → (wX6_found (1 : Int32) σ1 (fun r25 σ25 => (Q r25 σ25))))))) ∧ ((r1 = 0) → (Q (-2 : Int32) σ1)))))
set_option maxHeartbeats 4000000 in
set_option maxRecDepth 100000 in
theorem kX6_lose (l : Launch) (E : wE) (hE : wX E) (x1 : Int32) (σ : Mem) (Q : Int32 → Mem → Prop) (h : wX6_lose x1 σ Q) : Met l yX6_lose (Cond.code yX6_lose cX6_lose 2 (some .int) :: TB) rX6_lose (wPc E σ [.ref (gE E 0), .int x1]) (wQi E Q) 0 0 (wA E) := by
  refine wMet (by decide) hE.2.2 (Nat.le_of_ble_eq_true rfl) ?_
  intro p e s m args below meth c ls C hr hlk hl hw
  have hx := C.1.1
  have hb := C.1.2.1
  replace C : Cx p s m args c cX6_lose 2 RX6 E (wA E) := C
  replace hl : lv_has ls 2 [(0, .ref (gE E 0)), (1, .int x1)] := hl
  unfold wX6_lose at h
  refine lv_iload_n hx hb (dAt dX6_lose 0 rfl) rfl (lv_at hl 1 rfl) ?_
  refine x_calli C hw (x_runS (As := [.int x1]) (rest := []) C hw (kX6_isSheet l E hE x1 σ _ h) mtX6_isSheet lk_X6_125 ⟨by decide, by decide⟩ ⟨rfl, rfl⟩ rfl hl.1 rfl (Nat.le_of_ble_eq_true rfl) (dAt dX6_lose 1 rfl) ⟨Nat.zero_le _, Nat.zero_le _⟩) (fun r1 σ1 H locs h hw => ?_)
  refine lv_if_ne (tgt := 10) hx hb (dAt dX6_lose 2 rfl) (by decide) (fun c4 => ?_) (fun c4 => ?_)
  · replace h := h.1 c4
    refine lv_aload_n hx hb (dAt dX6_lose 5 rfl) rfl (lv_at hl 0 rfl) ?_
    refine x_getr C hw fl_X6_55 (hE.1 0) (nX hE (by decide)) rfl (dAt dX6_lose 6 rfl) ?_
    refine lv_iload_n hx hb (dAt dX6_lose 7 rfl) rfl (lv_at hl 1 rfl) ?_
    obtain ⟨z15, h⟩ := h
    refine x_aald C hw (hE.1 53) (nX hE (by decide)) z15 (dAt dX6_lose 8 rfl) ?_
    refine x_getiN C hw fl_X6_128 (sH hE (isH_of z15)) (nH hE (isH_of z15) (by omega)) rfl (dAt dX6_lose 9 rfl) ?_
    refine lv_iconst (v := -1) hx hb (dAt dX6_lose 10 rfl) (by decide) ?_
    refine lv_icmp_ne (tgt := 29) hx hb (dAt dX6_lose 11 rfl) (by decide) (fun c20 => ?_) (fun c20 => ?_)
    · replace h := h.1 c20
      refine lv_aload_n hx hb (dAt dX6_lose 16 rfl) rfl (lv_at hl 0 rfl) ?_
      refine x_getr C hw fl_X6_55 (hE.1 0) (nX hE (by decide)) rfl (dAt dX6_lose 17 rfl) ?_
      refine lv_iload_n hx hb (dAt dX6_lose 18 rfl) rfl (lv_at hl 1 rfl) ?_
      obtain ⟨z34, h⟩ := h
      refine x_aald C hw (hE.1 53) (nX hE (by decide)) z34 (dAt dX6_lose 19 rfl) ?_
      refine lv_iconst (v := -1) hx hb (dAt dX6_lose 20 rfl) (by decide) ?_
      refine x_pfN C hw fl_X6_128 (sH hE (isH_of z34)) (nH hE (isH_of z34) (by omega)) rfl rfl rfl (dAt dX6_lose 21 rfl) (fun σ36 H locs eσ36 hw => ?_)
      replace h := h σ36 eσ36
      refine lv_aload_n hx hb (dAt dX6_lose 22 rfl) rfl (lv_at hl 0 rfl) ?_
      refine x_getr C hw fl_X6_55 (hE.1 0) (nX hE (by decide)) rfl (dAt dX6_lose 23 rfl) ?_
      refine lv_iload_n hx hb (dAt dX6_lose 24 rfl) rfl (lv_at hl 1 rfl) ?_
      obtain ⟨z44, h⟩ := h
      refine x_aald C hw (hE.1 53) (nX hE (by decide)) z44 (dAt dX6_lose 25 rfl) ?_
      refine x_getiN C hw fl_X6_135 (sH hE (isH_of z44)) (nH hE (isH_of z44) (by omega)) rfl (dAt dX6_lose 26 rfl) ?_
      exact x_iret C hw hr hlk h (dAt dX6_lose 27 rfl)
    · replace h := h.2 c20
      refine lv_aload_n hx hb (dAt dX6_lose 12 rfl) rfl (lv_at hl 0 rfl) ?_
      refine lv_iconst (v := 1) hx hb (dAt dX6_lose 13 rfl) (by decide) ?_
      refine x_calli C hw (x_runV (As := [.int (1 : Int32)]) (rest := []) C hw (kX6_found l E hE (1 : Int32) σ1 _ h) mtX6_found lk_X6_131 (hE.1 0) (nX hE (by decide)) rfl ⟨by decide, by decide⟩ ⟨rfl, rfl⟩ rfl hl.1 rfl (Nat.le_of_ble_eq_true rfl) (dAt dX6_lose 14 rfl) ⟨Nat.zero_le _, Nat.zero_le _⟩) (fun r25 σ25 H locs h hw => ?_)
      exact x_iret C hw hr hlk h (dAt dX6_lose 15 rfl)
  · replace h := h.2 c4
    refine lv_bipush (v := -2) hx hb (dAt dX6_lose 3 rfl) (by decide) ?_
    exact x_iret C hw hr hlk h (dAt dX6_lose 4 rfl)
def tX6_findingOf : List (Nat × Instr × Nat) := [(0, .aload_n 0, 1), (1, .getfield 55, 3), (4, .iload_n 1, 1), (5, .aaload, 1), (6, .astore 4, 2), (8, .aload 4, 2), (10, .getfield 128, 3), (13, .iconst (-1), 1), (14, .if_icmp .ne 5, 3), (17, .iconst 1, 1), (18, .ireturn, 1), (19, .aload 4, 2), (21, .getfield 128, 3), (24, .iload_n 2, 1), (25, .if_icmp .eq 5, 3), (28, .iconst 3, 1), (29, .ireturn, 1), (30, .aload 4, 2), (32, .iload_n 3, 1), (33, .iconst 1, 1), (34, .invokevirtual 281, 3), (37, .ifCond .eq 7, 3), (40, .iconst 0, 1), (41, .goto 4, 3), (44, .iconst 2, 1), (45, .ireturn, 1)]
theorem dX6_findingOf : dOk cX6_findingOf tX6_findingOf = true := by decide +kernel
abbrev rX6_findingOf : Room := { frames := 1, cells := 0, slots := 0, locals := 22 }
def wX6_findingOf (x1 : Int32) (x2 : Int32) (x3 : Int32) (σ : Mem) (Q : Int32 → Mem → Prop) : Prop := (vp_in x1 4 ∧ (((¬ (σ (54 + 2 * (x1).toNatClampNeg) 1) = (-1 : Int32)) → ((((σ (54 + 2 * (x1).toNatClampNeg) 1) = x2) → (wX4_holds (54 + 2 * (x1).toNatClampNeg) x3 (1 : Int32) σ (fun r34 σ34 => (Q (if r34 = 0 then (2 : Int32) else (0 : Int32)) σ34)))) ∧ ((¬ (σ (54 + 2 * (x1).toNatClampNeg) 1) = x2) → (Q (3 : Int32) σ)))) ∧ (((σ (54 + 2 * (x1).toNatClampNeg) 1) = (-1 : Int32)) → (Q (1 : Int32) σ))))
set_option maxHeartbeats 4000000 in
set_option maxRecDepth 100000 in
theorem kX6_findingOf (l : Launch) (E : wE) (hE : wX E) (x1 : Int32) (x2 : Int32) (x3 : Int32) (σ : Mem) (Q : Int32 → Mem → Prop) (h : wX6_findingOf x1 x2 x3 σ Q) : Met l yX6_findingOf (Cond.code yX6_findingOf cX6_findingOf 5 (some .int) :: TB) rX6_findingOf (wPc E σ [.ref (gE E 0), .int x1, .int x2, .int x3]) (wQi E Q) 0 0 (wA E) := by
  refine wMet (by decide) hE.2.2 (Nat.le_of_ble_eq_true rfl) ?_
  intro p e s m args below meth c ls C hr hlk hl hw
  have hx := C.1.1
  have hb := C.1.2.1
  replace C : Cx p s m args c cX6_findingOf 5 RX6 E (wA E) := C
  replace hl : lv_has ls 5 [(0, .ref (gE E 0)), (1, .int x1), (2, .int x2), (3, .int x3)] := hl
  unfold wX6_findingOf at h
  refine lv_aload_n hx hb (dAt dX6_findingOf 0 rfl) rfl (lv_at hl 0 rfl) ?_
  refine x_getr C hw fl_X6_55 (hE.1 0) (nX hE (by decide)) rfl (dAt dX6_findingOf 1 rfl) ?_
  refine lv_iload_n hx hb (dAt dX6_findingOf 2 rfl) rfl (lv_at hl 1 rfl) ?_
  obtain ⟨z5, h⟩ := h
  refine x_aald C hw (hE.1 53) (nX hE (by decide)) z5 (dAt dX6_findingOf 3 rfl) ?_
  refine lv_astore (lv' := [(4, .ref (gE E (54 + 2 * (x1).toNatClampNeg))), (0, .ref (gE E 0)), (1, .int x1), (2, .int x2), (3, .int x3)]) hx hb (dAt dX6_findingOf 4 rfl) hl (by decide) rfl (fun ls hl => ?_)
  refine lv_aload hx hb (dAt dX6_findingOf 5 rfl) (lv_at hl 0 rfl) ?_
  refine x_getiN C hw fl_X6_128 (sH hE (isH_of z5)) (nH hE (isH_of z5) (by omega)) rfl (dAt dX6_findingOf 6 rfl) ?_
  refine lv_iconst (v := -1) hx hb (dAt dX6_findingOf 7 rfl) (by decide) ?_
  refine lv_icmp_ne (tgt := 19) hx hb (dAt dX6_findingOf 8 rfl) (by decide) (fun c14 => ?_) (fun c14 => ?_)
  · replace h := h.1 c14
    refine lv_aload hx hb (dAt dX6_findingOf 11 rfl) (lv_at hl 0 rfl) ?_
    refine x_getiN C hw fl_X6_128 (sH hE (isH_of z5)) (nH hE (isH_of z5) (by omega)) rfl (dAt dX6_findingOf 12 rfl) ?_
    refine lv_iload_n hx hb (dAt dX6_findingOf 13 rfl) rfl (lv_at hl 3 rfl) ?_
    refine lv_icmp_eq (tgt := 30) hx hb (dAt dX6_findingOf 14 rfl) (by decide) (fun c25 => ?_) (fun c25 => ?_)
    · replace h := h.1 c25
      refine lv_aload hx hb (dAt dX6_findingOf 17 rfl) (lv_at hl 0 rfl) ?_
      refine lv_iload_n hx hb (dAt dX6_findingOf 18 rfl) rfl (lv_at hl 4 rfl) ?_
      refine lv_iconst (v := 1) hx hb (dAt dX6_findingOf 19 rfl) (by decide) ?_
      refine x_calli C hw (x_runVN (As := [.int x3, .int (1 : Int32)]) (rest := []) C hw (kX4_holds l E hE (54 + 2 * (x1).toNatClampNeg) (isH_of z5) x3 (1 : Int32) σ _ h) mtX4_holds lk_X6_281 (sH hE (isH_of z5)) (nH hE (isH_of z5) (by omega)) rfl ⟨by decide, by decide⟩ ⟨rfl, rfl⟩ rfl hl.1 rfl (Nat.le_of_ble_eq_true rfl) (dAt dX6_findingOf 20 rfl) ⟨Nat.zero_le _, Nat.zero_le _⟩) (fun r34 σ34 H locs h hw => ?_)
      refine x_dia (ls := ls) (pcJ := 45) (cnd := r34 = 0) (a := (2 : Int32)) (b := (0 : Int32)) ([]) ?_ (fun ht37 hf37 => ?_)
      · exact x_iret C hw hr hlk h (dAt dX6_findingOf 25 rfl)
      · refine lv_if_eq (tgt := 44) hx hb (dAt dX6_findingOf 21 rfl) (by decide) (fun c37 => ?_) (fun c37 => ?_)
        · refine lv_iconst (v := 2) hx hb (dAt dX6_findingOf 24 rfl) (by decide) ?_
          exact ht37 c37
        · refine lv_iconst (v := 0) hx hb (dAt dX6_findingOf 22 rfl) (by decide) ?_
          refine lv_goto (tgt := 45) hx hb (dAt dX6_findingOf 23 rfl) (by decide) ?_
          exact hf37 c37
    · replace h := h.2 c25
      refine lv_iconst (v := 3) hx hb (dAt dX6_findingOf 15 rfl) (by decide) ?_
      exact x_iret C hw hr hlk h (dAt dX6_findingOf 16 rfl)
  · replace h := h.2 c14
    refine lv_iconst (v := 1) hx hb (dAt dX6_findingOf 9 rfl) (by decide) ?_
    exact x_iret C hw hr hlk h (dAt dX6_findingOf 10 rfl)
def tX6_lay : List (Nat × Instr × Nat) := [(0, .iload_n 1, 1), (1, .invokestatic 125, 3), (4, .ifCond .eq 10, 3), (7, .iload_n 2, 1), (8, .invokestatic 264, 3), (11, .ifCond .ne 6, 3), (14, .bipush (-2), 2), (16, .ireturn, 1), (17, .aload_n 0, 1), (18, .iload_n 1, 1), (19, .iload_n 2, 1), (20, .iload_n 3, 1), (21, .invokevirtual 273, 3), (24, .istore 5, 2), (26, .iload 5, 2), (28, .ifCond .eq 10, 3), (31, .aload_n 0, 1), (32, .iload 5, 2), (34, .invokevirtual 131, 3), (37, .ireturn, 1), (38, .aload_n 0, 1), (39, .getfield 55, 3), (42, .iload_n 1, 1), (43, .aaload, 1), (44, .iload_n 3, 1), (45, .iload 4, 2), (47, .invokevirtual 276, 3), (50, .iconst 1, 1), (51, .ireturn, 1)]
theorem dX6_lay : dOk cX6_lay tX6_lay = true := by decide +kernel
abbrev rX6_lay : Room := { frames := 2, cells := 0, slots := 0, locals := 46 }
def wX6_lay (x1 : Int32) (x2 : Int32) (x3 : Int32) (x4 : Int32) (σ : Mem) (Q : Int32 → Mem → Prop) : Prop := (wX6_isSheet x1 σ (fun r1 σ1 => (((r1 = 0) → (Q (-2 : Int32) σ1)) ∧ ((¬ r1 = 0) → (wX6_isForm x2 σ1 (fun r8 σ8 => (((¬ r8 = 0) → (wX6_findingOf x1 x2 x3 σ8 (fun r21 σ21 => (((r21 = 0) → (vp_in x1 4 ∧ (wX4_put (54 + 2 * (x1).toNatClampNeg) x3 x4 σ21 (fun σ47 => (Q (1 : Int32) σ47))))) ∧ ((¬ r21 = 0) → (wX6_found r21 σ21 (fun r34 σ34 => (Q r34 σ34)))))))) ∧ ((r8 = 0) → (Q (-2 : Int32) σ8)))))))))
set_option maxHeartbeats 4000000 in
set_option maxRecDepth 100000 in
theorem kX6_lay (l : Launch) (E : wE) (hE : wX E) (x1 : Int32) (x2 : Int32) (x3 : Int32) (x4 : Int32) (σ : Mem) (Q : Int32 → Mem → Prop) (h : wX6_lay x1 x2 x3 x4 σ Q) : Met l yX6_lay (Cond.code yX6_lay cX6_lay 6 (some .int) :: TB) rX6_lay (wPc E σ [.ref (gE E 0), .int x1, .int x2, .int x3, .int x4]) (wQi E Q) 0 0 (wA E) := by
  refine wMet (by decide) hE.2.2 (Nat.le_of_ble_eq_true rfl) ?_
  intro p e s m args below meth c ls C hr hlk hl hw
  have hx := C.1.1
  have hb := C.1.2.1
  replace C : Cx p s m args c cX6_lay 6 RX6 E (wA E) := C
  replace hl : lv_has ls 6 [(0, .ref (gE E 0)), (1, .int x1), (2, .int x2), (3, .int x3), (4, .int x4)] := hl
  unfold wX6_lay at h
  refine lv_iload_n hx hb (dAt dX6_lay 0 rfl) rfl (lv_at hl 1 rfl) ?_
  refine x_calli C hw (x_runS (As := [.int x1]) (rest := []) C hw (kX6_isSheet l E hE x1 σ _ h) mtX6_isSheet lk_X6_125 ⟨by decide, by decide⟩ ⟨rfl, rfl⟩ rfl hl.1 rfl (Nat.le_of_ble_eq_true rfl) (dAt dX6_lay 1 rfl) ⟨Nat.zero_le _, Nat.zero_le _⟩) (fun r1 σ1 H locs h hw => ?_)
  refine lv_if_eq (tgt := 14) hx hb (dAt dX6_lay 2 rfl) (by decide) (fun c4 => ?_) (fun c4 => ?_)
  · replace h := h.1 c4
    refine lv_bipush (v := -2) hx hb (dAt dX6_lay 6 rfl) (by decide) ?_
    exact x_iret C hw hr hlk h (dAt dX6_lay 7 rfl)
  · replace h := h.2 c4
    refine lv_iload_n hx hb (dAt dX6_lay 3 rfl) rfl (lv_at hl 2 rfl) ?_
    refine x_calli C hw (x_runS (As := [.int x2]) (rest := []) C hw (kX6_isForm l E hE x2 σ1 _ h) mtX6_isForm lk_X6_264 ⟨by decide, by decide⟩ ⟨rfl, rfl⟩ rfl hl.1 rfl (Nat.le_of_ble_eq_true rfl) (dAt dX6_lay 4 rfl) ⟨Nat.zero_le _, Nat.zero_le _⟩) (fun r8 σ8 H locs h hw => ?_)
    refine lv_if_ne (tgt := 17) hx hb (dAt dX6_lay 5 rfl) (by decide) (fun c11 => ?_) (fun c11 => ?_)
    · replace h := h.1 c11
      refine lv_aload_n hx hb (dAt dX6_lay 8 rfl) rfl (lv_at hl 0 rfl) ?_
      refine lv_iload_n hx hb (dAt dX6_lay 9 rfl) rfl (lv_at hl 1 rfl) ?_
      refine lv_iload_n hx hb (dAt dX6_lay 10 rfl) rfl (lv_at hl 2 rfl) ?_
      refine lv_iload_n hx hb (dAt dX6_lay 11 rfl) rfl (lv_at hl 3 rfl) ?_
      refine x_calli C hw (x_runV (As := [.int x1, .int x2, .int x3]) (rest := []) C hw (kX6_findingOf l E hE x1 x2 x3 σ8 _ h) mtX6_findingOf lk_X6_273 (hE.1 0) (nX hE (by decide)) rfl ⟨by decide, by decide⟩ ⟨rfl, rfl⟩ rfl hl.1 rfl (Nat.le_of_ble_eq_true rfl) (dAt dX6_lay 12 rfl) ⟨Nat.zero_le _, Nat.zero_le _⟩) (fun r21 σ21 H locs h hw => ?_)
      refine lv_istore (lv' := [(5, .int r21), (0, .ref (gE E 0)), (1, .int x1), (2, .int x2), (3, .int x3), (4, .int x4)]) hx hb (dAt dX6_lay 13 rfl) hl (by decide) rfl (fun ls hl => ?_)
      refine lv_iload hx hb (dAt dX6_lay 14 rfl) (lv_at hl 0 rfl) ?_
      refine lv_if_eq (tgt := 38) hx hb (dAt dX6_lay 15 rfl) (by decide) (fun c28 => ?_) (fun c28 => ?_)
      · replace h := h.1 c28
        refine lv_aload_n hx hb (dAt dX6_lay 20 rfl) rfl (lv_at hl 1 rfl) ?_
        refine x_getr C hw fl_X6_55 (hE.1 0) (nX hE (by decide)) rfl (dAt dX6_lay 21 rfl) ?_
        refine lv_iload_n hx hb (dAt dX6_lay 22 rfl) rfl (lv_at hl 2 rfl) ?_
        obtain ⟨z43, h⟩ := h
        refine x_aald C hw (hE.1 53) (nX hE (by decide)) z43 (dAt dX6_lay 23 rfl) ?_
        refine lv_iload_n hx hb (dAt dX6_lay 24 rfl) rfl (lv_at hl 4 rfl) ?_
        refine lv_iload hx hb (dAt dX6_lay 25 rfl) (lv_at hl 5 rfl) ?_
        refine x_callv C hw (x_runVN (As := [.int x3, .int x4]) (rest := []) C hw (kX4_put l E hE (54 + 2 * (x1).toNatClampNeg) (isH_of z43) x3 x4 σ21 _ h) mtX4_put lk_X6_276 (sH hE (isH_of z43)) (nH hE (isH_of z43) (by omega)) rfl ⟨by decide, by decide⟩ ⟨rfl, rfl⟩ rfl hl.1 rfl (Nat.le_of_ble_eq_true rfl) (dAt dX6_lay 26 rfl) ⟨Nat.zero_le _, Nat.zero_le _⟩) (fun σ47 H locs h hw => ?_)
        refine lv_iconst (v := 1) hx hb (dAt dX6_lay 27 rfl) (by decide) ?_
        exact x_iret C hw hr hlk h (dAt dX6_lay 28 rfl)
      · replace h := h.2 c28
        refine lv_aload_n hx hb (dAt dX6_lay 16 rfl) rfl (lv_at hl 1 rfl) ?_
        refine lv_iload hx hb (dAt dX6_lay 17 rfl) (lv_at hl 0 rfl) ?_
        refine x_calli C hw (x_runV (As := [.int r21]) (rest := []) C hw (kX6_found l E hE r21 σ21 _ h) mtX6_found lk_X6_131 (hE.1 0) (nX hE (by decide)) rfl ⟨by decide, by decide⟩ ⟨rfl, rfl⟩ rfl hl.1 rfl (Nat.le_of_ble_eq_true rfl) (dAt dX6_lay 18 rfl) ⟨Nat.zero_le _, Nat.zero_le _⟩) (fun r34 σ34 H locs h hw => ?_)
        exact x_iret C hw hr hlk h (dAt dX6_lay 19 rfl)
    · replace h := h.2 c11
      refine lv_bipush (v := -2) hx hb (dAt dX6_lay 6 rfl) (by decide) ?_
      exact x_iret C hw hr hlk h (dAt dX6_lay 7 rfl)
def tX6_get : List (Nat × Instr × Nat) := [(0, .iload_n 1, 1), (1, .invokestatic 125, 3), (4, .ifCond .eq 10, 3), (7, .iload_n 2, 1), (8, .invokestatic 264, 3), (11, .ifCond .ne 7, 3), (14, .ldc_w 277, 3), (17, .ireturn, 1), (18, .aload_n 0, 1), (19, .iload_n 1, 1), (20, .iload_n 2, 1), (21, .iload_n 3, 1), (22, .invokevirtual 273, 3), (25, .istore 4, 2), (27, .iload 4, 2), (29, .ifCond .eq 13, 3), (32, .aload_n 0, 1), (33, .iload 4, 2), (35, .putfield 278, 3), (38, .ldc_w 277, 3), (41, .ireturn, 1), (42, .aload_n 0, 1), (43, .getfield 55, 3), (46, .iload_n 1, 1), (47, .aaload, 1), (48, .getfield 138, 3), (51, .iload_n 3, 1), (52, .iaload, 1), (53, .ireturn, 1)]
theorem dX6_get : dOk cX6_get tX6_get = true := by decide +kernel
abbrev rX6_get : Room := { frames := 2, cells := 0, slots := 0, locals := 46 }
def wX6_get (x1 : Int32) (x2 : Int32) (x3 : Int32) (σ : Mem) (Q : Int32 → Mem → Prop) : Prop := (wX6_isSheet x1 σ (fun r1 σ1 => (((r1 = 0) → (Q (-2147483648 : Int32) σ1)) ∧ ((¬ r1 = 0) → (wX6_isForm x2 σ1 (fun r8 σ8 => (((¬ r8 = 0) → (wX6_findingOf x1 x2 x3 σ8 (fun r22 σ22 => (((r22 = 0) → (vp_in x1 4 ∧ (vp_in x3 60 ∧ (Q (σ22 ((54 + 2 * (x1).toNatClampNeg) + 1) (x3).toNatClampNeg) σ22)))) ∧ ((¬ r22 = 0) → (∀ σ35 : Mem, σ35 = um σ22 0 14 r22 → (Q (-2147483648 : Int32) σ35))))))) ∧ ((r8 = 0) → (Q (-2147483648 : Int32) σ8)))))))))
set_option maxHeartbeats 4000000 in
set_option maxRecDepth 100000 in
theorem kX6_get (l : Launch) (E : wE) (hE : wX E) (x1 : Int32) (x2 : Int32) (x3 : Int32) (σ : Mem) (Q : Int32 → Mem → Prop) (h : wX6_get x1 x2 x3 σ Q) : Met l yX6_get (Cond.code yX6_get cX6_get 5 (some .int) :: TB) rX6_get (wPc E σ [.ref (gE E 0), .int x1, .int x2, .int x3]) (wQi E Q) 0 0 (wA E) := by
  refine wMet (by decide) hE.2.2 (Nat.le_of_ble_eq_true rfl) ?_
  intro p e s m args below meth c ls C hr hlk hl hw
  have hx := C.1.1
  have hb := C.1.2.1
  replace C : Cx p s m args c cX6_get 5 RX6 E (wA E) := C
  replace hl : lv_has ls 5 [(0, .ref (gE E 0)), (1, .int x1), (2, .int x2), (3, .int x3)] := hl
  unfold wX6_get at h
  refine lv_iload_n hx hb (dAt dX6_get 0 rfl) rfl (lv_at hl 1 rfl) ?_
  refine x_calli C hw (x_runS (As := [.int x1]) (rest := []) C hw (kX6_isSheet l E hE x1 σ _ h) mtX6_isSheet lk_X6_125 ⟨by decide, by decide⟩ ⟨rfl, rfl⟩ rfl hl.1 rfl (Nat.le_of_ble_eq_true rfl) (dAt dX6_get 1 rfl) ⟨Nat.zero_le _, Nat.zero_le _⟩) (fun r1 σ1 H locs h hw => ?_)
  refine lv_if_eq (tgt := 14) hx hb (dAt dX6_get 2 rfl) (by decide) (fun c4 => ?_) (fun c4 => ?_)
  · replace h := h.1 c4
    refine lv_ldcw (v := -2147483648) hx hb C.1.2.2.2.1 (C.1.2.2.2.2 _ ck_X6_277) (dAt dX6_get 6 rfl) ?_
    exact x_iret C hw hr hlk h (dAt dX6_get 7 rfl)
  · replace h := h.2 c4
    refine lv_iload_n hx hb (dAt dX6_get 3 rfl) rfl (lv_at hl 2 rfl) ?_
    refine x_calli C hw (x_runS (As := [.int x2]) (rest := []) C hw (kX6_isForm l E hE x2 σ1 _ h) mtX6_isForm lk_X6_264 ⟨by decide, by decide⟩ ⟨rfl, rfl⟩ rfl hl.1 rfl (Nat.le_of_ble_eq_true rfl) (dAt dX6_get 4 rfl) ⟨Nat.zero_le _, Nat.zero_le _⟩) (fun r8 σ8 H locs h hw => ?_)
    refine lv_if_ne (tgt := 18) hx hb (dAt dX6_get 5 rfl) (by decide) (fun c11 => ?_) (fun c11 => ?_)
    · replace h := h.1 c11
      refine lv_aload_n hx hb (dAt dX6_get 8 rfl) rfl (lv_at hl 0 rfl) ?_
      refine lv_iload_n hx hb (dAt dX6_get 9 rfl) rfl (lv_at hl 1 rfl) ?_
      refine lv_iload_n hx hb (dAt dX6_get 10 rfl) rfl (lv_at hl 2 rfl) ?_
      refine lv_iload_n hx hb (dAt dX6_get 11 rfl) rfl (lv_at hl 3 rfl) ?_
      refine x_calli C hw (x_runV (As := [.int x1, .int x2, .int x3]) (rest := []) C hw (kX6_findingOf l E hE x1 x2 x3 σ8 _ h) mtX6_findingOf lk_X6_273 (hE.1 0) (nX hE (by decide)) rfl ⟨by decide, by decide⟩ ⟨rfl, rfl⟩ rfl hl.1 rfl (Nat.le_of_ble_eq_true rfl) (dAt dX6_get 12 rfl) ⟨Nat.zero_le _, Nat.zero_le _⟩) (fun r22 σ22 H locs h hw => ?_)
      refine lv_istore (lv' := [(4, .int r22), (0, .ref (gE E 0)), (1, .int x1), (2, .int x2), (3, .int x3)]) hx hb (dAt dX6_get 13 rfl) hl (by decide) rfl (fun ls hl => ?_)
      refine lv_iload hx hb (dAt dX6_get 14 rfl) (lv_at hl 0 rfl) ?_
      refine lv_if_eq (tgt := 42) hx hb (dAt dX6_get 15 rfl) (by decide) (fun c29 => ?_) (fun c29 => ?_)
      · replace h := h.1 c29
        refine lv_aload_n hx hb (dAt dX6_get 21 rfl) rfl (lv_at hl 1 rfl) ?_
        refine x_getr C hw fl_X6_55 (hE.1 0) (nX hE (by decide)) rfl (dAt dX6_get 22 rfl) ?_
        refine lv_iload_n hx hb (dAt dX6_get 23 rfl) rfl (lv_at hl 2 rfl) ?_
        obtain ⟨z47, h⟩ := h
        refine x_aald C hw (hE.1 53) (nX hE (by decide)) z47 (dAt dX6_get 24 rfl) ?_
        refine x_getrN C hw fl_X6_138 (sH hE (isH_of z47)) (nH hE (isH_of z47) (by omega)) rfl (dAt dX6_get 25 rfl) ?_
        refine lv_iload_n hx hb (dAt dX6_get 26 rfl) rfl (lv_at hl 4 rfl) ?_
        obtain ⟨z52, h⟩ := h
        refine x_ild C hw (sH_1 hE (isH_of z47)) (nH hE (isH_of z47) (by omega)) z52 rfl (dAt dX6_get 27 rfl) ?_
        exact x_iret C hw hr hlk h (dAt dX6_get 28 rfl)
      · replace h := h.2 c29
        refine lv_aload_n hx hb (dAt dX6_get 16 rfl) rfl (lv_at hl 1 rfl) ?_
        refine lv_iload hx hb (dAt dX6_get 17 rfl) (lv_at hl 0 rfl) ?_
        refine x_pf C hw fl_X6_278 (hE.1 0) (nX hE (by decide)) rfl rfl rfl (dAt dX6_get 18 rfl) (fun σ35 H locs eσ35 hw => ?_)
        replace h := h σ35 eσ35
        refine lv_ldcw (v := -2147483648) hx hb C.1.2.2.2.1 (C.1.2.2.2.2 _ ck_X6_277) (dAt dX6_get 19 rfl) ?_
        exact x_iret C hw hr hlk h (dAt dX6_get 20 rfl)
    · replace h := h.2 c11
      refine lv_ldcw (v := -2147483648) hx hb C.1.2.2.2.1 (C.1.2.2.2.2 _ ck_X6_277) (dAt dX6_get 6 rfl) ?_
      exact x_iret C hw hr hlk h (dAt dX6_get 7 rfl)
def tX6_copy : List (Nat × Instr × Nat) := [(0, .iload_n 1, 1), (1, .invokestatic 125, 3), (4, .ifCond .eq 10, 3), (7, .iload_n 3, 1), (8, .invokestatic 125, 3), (11, .ifCond .ne 6, 3), (14, .bipush (-2), 2), (16, .ireturn, 1), (17, .aload_n 0, 1), (18, .getfield 55, 3), (21, .iload_n 1, 1), (22, .aaload, 1), (23, .astore 6, 2), (25, .aload_n 0, 1), (26, .getfield 55, 3), (29, .iload_n 3, 1), (30, .aaload, 1), (31, .astore 7, 2), (33, .aload 6, 2), (35, .getfield 128, 3), (38, .iconst (-1), 1), (39, .if_icmp .eq 12, 3), (42, .aload 7, 2), (44, .getfield 128, 3), (47, .iconst (-1), 1), (48, .if_icmp .ne 9, 3), (51, .aload_n 0, 1), (52, .iconst 1, 1), (53, .invokevirtual 131, 3), (56, .ireturn, 1), (57, .aload 6, 2), (59, .getfield 128, 3), (62, .aload 7, 2), (64, .getfield 128, 3), (67, .if_icmp .eq 9, 3), (70, .aload_n 0, 1), (71, .iconst 4, 1), (72, .invokevirtual 131, 3), (75, .ireturn, 1), (76, .aload 6, 2), (78, .iload_n 2, 1), (79, .iload 5, 2), (81, .invokevirtual 281, 3), (84, .ifCond .eq 15, 3), (87, .aload 7, 2), (89, .iload 4, 2), (91, .iload 5, 2), (93, .invokevirtual 281, 3), (96, .ifCond .ne 9, 3), (99, .aload_n 0, 1), (100, .iconst 2, 1), (101, .invokevirtual 131, 3), (104, .ireturn, 1), (105, .aload 6, 2), (107, .getfield 138, 3), (110, .iload_n 2, 1), (111, .aload 7, 2), (113, .getfield 138, 3), (116, .iload 4, 2), (118, .iload 5, 2), (120, .invokestatic 238, 3), (123, .iconst 1, 1), (124, .ireturn, 1)]
theorem dX6_copy : dOk cX6_copy tX6_copy = true := by decide +kernel
abbrev rX6_copy : Room := { frames := 1, cells := 0, slots := 0, locals := 48 }
def wX6_copy (x1 : Int32) (x2 : Int32) (x3 : Int32) (x4 : Int32) (x5 : Int32) (σ : Mem) (Q : Int32 → Mem → Prop) : Prop := (wX6_isSheet x1 σ (fun r1 σ1 => (((r1 = 0) → (Q (-2 : Int32) σ1)) ∧ ((¬ r1 = 0) → (wX6_isSheet x3 σ1 (fun r8 σ8 => (((¬ r8 = 0) → (vp_in x1 4 ∧ (vp_in x3 4 ∧ ((((σ8 (54 + 2 * (x1).toNatClampNeg) 1) = (-1 : Int32)) → (wX6_found (1 : Int32) σ8 (fun r53 σ53 => (Q r53 σ53)))) ∧ ((¬ (σ8 (54 + 2 * (x1).toNatClampNeg) 1) = (-1 : Int32)) → (((¬ (σ8 (54 + 2 * (x3).toNatClampNeg) 1) = (-1 : Int32)) → ((((σ8 (54 + 2 * (x1).toNatClampNeg) 1) = (σ8 (54 + 2 * (x3).toNatClampNeg) 1)) → (wX4_holds (54 + 2 * (x1).toNatClampNeg) x2 x5 σ8 (fun r81 σ81 => (((r81 = 0) → (wX6_found (2 : Int32) σ81 (fun r101 σ101 => (Q r101 σ101)))) ∧ ((¬ r81 = 0) → (wX4_holds (54 + 2 * (x3).toNatClampNeg) x4 x5 σ81 (fun r93 σ93 => (((¬ r93 = 0) → (cpOk x2 x4 x5 60 60 ∧ ∀ σ120 : Mem, σ120 = cpM σ93 ((54 + 2 * (x1).toNatClampNeg) + 1) ((54 + 2 * (x3).toNatClampNeg) + 1) (x2).toNatClampNeg (x4).toNatClampNeg (x5).toNatClampNeg → (Q (1 : Int32) σ120))) ∧ ((r93 = 0) → (wX6_found (2 : Int32) σ93 (fun r101 σ101 => (Q r101 σ101)))))))))))) ∧ ((¬ (σ8 (54 + 2 * (x1).toNatClampNeg) 1) = (σ8 (54 + 2 * (x3).toNatClampNeg) 1)) → (wX6_found (4 : Int32) σ8 (fun r72 σ72 => (Q r72 σ72)))))) ∧ (((σ8 (54 + 2 * (x3).toNatClampNeg) 1) = (-1 : Int32)) → (wX6_found (1 : Int32) σ8 (fun r53 σ53 => (Q r53 σ53)))))))))) ∧ ((r8 = 0) → (Q (-2 : Int32) σ8)))))))))
set_option maxHeartbeats 4000000 in
set_option maxRecDepth 100000 in
theorem kX6_copy (l : Launch) (E : wE) (hE : wX E) (x1 : Int32) (x2 : Int32) (x3 : Int32) (x4 : Int32) (x5 : Int32) (σ : Mem) (Q : Int32 → Mem → Prop) (h : wX6_copy x1 x2 x3 x4 x5 σ Q) : Met l yX6_copy (Cond.code yX6_copy cX6_copy 8 (some .int) :: TB) rX6_copy (wPc E σ [.ref (gE E 0), .int x1, .int x2, .int x3, .int x4, .int x5]) (wQi E Q) 0 0 (wA E) := by
  refine wMet (by decide) hE.2.2 (Nat.le_of_ble_eq_true rfl) ?_
  intro p e s m args below meth c ls C hr hlk hl hw
  have hx := C.1.1
  have hb := C.1.2.1
  replace C : Cx p s m args c cX6_copy 8 RX6 E (wA E) := C
  replace hl : lv_has ls 8 [(0, .ref (gE E 0)), (1, .int x1), (2, .int x2), (3, .int x3), (4, .int x4), (5, .int x5)] := hl
  unfold wX6_copy at h
  refine lv_iload_n hx hb (dAt dX6_copy 0 rfl) rfl (lv_at hl 1 rfl) ?_
  refine x_calli C hw (x_runS (As := [.int x1]) (rest := []) C hw (kX6_isSheet l E hE x1 σ _ h) mtX6_isSheet lk_X6_125 ⟨by decide, by decide⟩ ⟨rfl, rfl⟩ rfl hl.1 rfl (Nat.le_of_ble_eq_true rfl) (dAt dX6_copy 1 rfl) ⟨Nat.zero_le _, Nat.zero_le _⟩) (fun r1 σ1 H locs h hw => ?_)
  refine lv_if_eq (tgt := 14) hx hb (dAt dX6_copy 2 rfl) (by decide) (fun c4 => ?_) (fun c4 => ?_)
  · replace h := h.1 c4
    refine lv_bipush (v := -2) hx hb (dAt dX6_copy 6 rfl) (by decide) ?_
    exact x_iret C hw hr hlk h (dAt dX6_copy 7 rfl)
  · replace h := h.2 c4
    refine lv_iload_n hx hb (dAt dX6_copy 3 rfl) rfl (lv_at hl 3 rfl) ?_
    refine x_calli C hw (x_runS (As := [.int x3]) (rest := []) C hw (kX6_isSheet l E hE x3 σ1 _ h) mtX6_isSheet lk_X6_125 ⟨by decide, by decide⟩ ⟨rfl, rfl⟩ rfl hl.1 rfl (Nat.le_of_ble_eq_true rfl) (dAt dX6_copy 4 rfl) ⟨Nat.zero_le _, Nat.zero_le _⟩) (fun r8 σ8 H locs h hw => ?_)
    refine lv_if_ne (tgt := 17) hx hb (dAt dX6_copy 5 rfl) (by decide) (fun c11 => ?_) (fun c11 => ?_)
    · replace h := h.1 c11
      refine lv_aload_n hx hb (dAt dX6_copy 8 rfl) rfl (lv_at hl 0 rfl) ?_
      refine x_getr C hw fl_X6_55 (hE.1 0) (nX hE (by decide)) rfl (dAt dX6_copy 9 rfl) ?_
      refine lv_iload_n hx hb (dAt dX6_copy 10 rfl) rfl (lv_at hl 1 rfl) ?_
      obtain ⟨z22, h⟩ := h
      refine x_aald C hw (hE.1 53) (nX hE (by decide)) z22 (dAt dX6_copy 11 rfl) ?_
      refine lv_astore (lv' := [(6, .ref (gE E (54 + 2 * (x1).toNatClampNeg))), (0, .ref (gE E 0)), (1, .int x1), (2, .int x2), (3, .int x3), (4, .int x4), (5, .int x5)]) hx hb (dAt dX6_copy 12 rfl) hl (by decide) rfl (fun ls hl => ?_)
      refine lv_aload_n hx hb (dAt dX6_copy 13 rfl) rfl (lv_at hl 1 rfl) ?_
      refine x_getr C hw fl_X6_55 (hE.1 0) (nX hE (by decide)) rfl (dAt dX6_copy 14 rfl) ?_
      refine lv_iload_n hx hb (dAt dX6_copy 15 rfl) rfl (lv_at hl 4 rfl) ?_
      obtain ⟨z30, h⟩ := h
      refine x_aald C hw (hE.1 53) (nX hE (by decide)) z30 (dAt dX6_copy 16 rfl) ?_
      refine lv_astore (lv' := [(7, .ref (gE E (54 + 2 * (x3).toNatClampNeg))), (6, .ref (gE E (54 + 2 * (x1).toNatClampNeg))), (0, .ref (gE E 0)), (1, .int x1), (2, .int x2), (3, .int x3), (4, .int x4), (5, .int x5)]) hx hb (dAt dX6_copy 17 rfl) hl (by decide) rfl (fun ls hl => ?_)
      refine lv_aload hx hb (dAt dX6_copy 18 rfl) (lv_at hl 1 rfl) ?_
      refine x_getiN C hw fl_X6_128 (sH hE (isH_of z22)) (nH hE (isH_of z22) (by omega)) rfl (dAt dX6_copy 19 rfl) ?_
      refine lv_iconst (v := -1) hx hb (dAt dX6_copy 20 rfl) (by decide) ?_
      refine lv_icmp_eq (tgt := 51) hx hb (dAt dX6_copy 21 rfl) (by decide) (fun c39 => ?_) (fun c39 => ?_)
      · replace h := h.1 c39
        refine lv_aload_n hx hb (dAt dX6_copy 26 rfl) rfl (lv_at hl 2 rfl) ?_
        refine lv_iconst (v := 1) hx hb (dAt dX6_copy 27 rfl) (by decide) ?_
        refine x_calli C hw (x_runV (As := [.int (1 : Int32)]) (rest := []) C hw (kX6_found l E hE (1 : Int32) σ8 _ h) mtX6_found lk_X6_131 (hE.1 0) (nX hE (by decide)) rfl ⟨by decide, by decide⟩ ⟨rfl, rfl⟩ rfl hl.1 rfl (Nat.le_of_ble_eq_true rfl) (dAt dX6_copy 28 rfl) ⟨Nat.zero_le _, Nat.zero_le _⟩) (fun r53 σ53 H locs h hw => ?_)
        exact x_iret C hw hr hlk h (dAt dX6_copy 29 rfl)
      · replace h := h.2 c39
        refine lv_aload hx hb (dAt dX6_copy 22 rfl) (lv_at hl 0 rfl) ?_
        refine x_getiN C hw fl_X6_128 (sH hE (isH_of z30)) (nH hE (isH_of z30) (by omega)) rfl (dAt dX6_copy 23 rfl) ?_
        refine lv_iconst (v := -1) hx hb (dAt dX6_copy 24 rfl) (by decide) ?_
        refine lv_icmp_ne (tgt := 57) hx hb (dAt dX6_copy 25 rfl) (by decide) (fun c48 => ?_) (fun c48 => ?_)
        · replace h := h.1 c48
          refine lv_aload hx hb (dAt dX6_copy 30 rfl) (lv_at hl 1 rfl) ?_
          refine x_getiN C hw fl_X6_128 (sH hE (isH_of z22)) (nH hE (isH_of z22) (by omega)) rfl (dAt dX6_copy 31 rfl) ?_
          refine lv_aload hx hb (dAt dX6_copy 32 rfl) (lv_at hl 0 rfl) ?_
          refine x_getiN C hw fl_X6_128 (sH hE (isH_of z30)) (nH hE (isH_of z30) (by omega)) rfl (dAt dX6_copy 33 rfl) ?_
          refine lv_icmp_eq (tgt := 76) hx hb (dAt dX6_copy 34 rfl) (by decide) (fun c67 => ?_) (fun c67 => ?_)
          · replace h := h.1 c67
            refine lv_aload hx hb (dAt dX6_copy 39 rfl) (lv_at hl 1 rfl) ?_
            refine lv_iload_n hx hb (dAt dX6_copy 40 rfl) rfl (lv_at hl 4 rfl) ?_
            refine lv_iload hx hb (dAt dX6_copy 41 rfl) (lv_at hl 7 rfl) ?_
            refine x_calli C hw (x_runVN (As := [.int x2, .int x5]) (rest := []) C hw (kX4_holds l E hE (54 + 2 * (x1).toNatClampNeg) (isH_of z22) x2 x5 σ8 _ h) mtX4_holds lk_X6_281 (sH hE (isH_of z22)) (nH hE (isH_of z22) (by omega)) rfl ⟨by decide, by decide⟩ ⟨rfl, rfl⟩ rfl hl.1 rfl (Nat.le_of_ble_eq_true rfl) (dAt dX6_copy 42 rfl) ⟨Nat.zero_le _, Nat.zero_le _⟩) (fun r81 σ81 H locs h hw => ?_)
            refine lv_if_eq (tgt := 99) hx hb (dAt dX6_copy 43 rfl) (by decide) (fun c84 => ?_) (fun c84 => ?_)
            · replace h := h.1 c84
              refine lv_aload_n hx hb (dAt dX6_copy 49 rfl) rfl (lv_at hl 2 rfl) ?_
              refine lv_iconst (v := 2) hx hb (dAt dX6_copy 50 rfl) (by decide) ?_
              refine x_calli C hw (x_runV (As := [.int (2 : Int32)]) (rest := []) C hw (kX6_found l E hE (2 : Int32) σ81 _ h) mtX6_found lk_X6_131 (hE.1 0) (nX hE (by decide)) rfl ⟨by decide, by decide⟩ ⟨rfl, rfl⟩ rfl hl.1 rfl (Nat.le_of_ble_eq_true rfl) (dAt dX6_copy 51 rfl) ⟨Nat.zero_le _, Nat.zero_le _⟩) (fun r101 σ101 H locs h hw => ?_)
              exact x_iret C hw hr hlk h (dAt dX6_copy 52 rfl)
            · replace h := h.2 c84
              refine lv_aload hx hb (dAt dX6_copy 44 rfl) (lv_at hl 0 rfl) ?_
              refine lv_iload hx hb (dAt dX6_copy 45 rfl) (lv_at hl 6 rfl) ?_
              refine lv_iload hx hb (dAt dX6_copy 46 rfl) (lv_at hl 7 rfl) ?_
              refine x_calli C hw (x_runVN (As := [.int x4, .int x5]) (rest := []) C hw (kX4_holds l E hE (54 + 2 * (x3).toNatClampNeg) (isH_of z30) x4 x5 σ81 _ h) mtX4_holds lk_X6_281 (sH hE (isH_of z30)) (nH hE (isH_of z30) (by omega)) rfl ⟨by decide, by decide⟩ ⟨rfl, rfl⟩ rfl hl.1 rfl (Nat.le_of_ble_eq_true rfl) (dAt dX6_copy 47 rfl) ⟨Nat.zero_le _, Nat.zero_le _⟩) (fun r93 σ93 H locs h hw => ?_)
              refine lv_if_ne (tgt := 105) hx hb (dAt dX6_copy 48 rfl) (by decide) (fun c96 => ?_) (fun c96 => ?_)
              · replace h := h.1 c96
                refine lv_aload hx hb (dAt dX6_copy 53 rfl) (lv_at hl 1 rfl) ?_
                refine x_getrN C hw fl_X6_138 (sH hE (isH_of z22)) (nH hE (isH_of z22) (by omega)) rfl (dAt dX6_copy 54 rfl) ?_
                refine lv_iload_n hx hb (dAt dX6_copy 55 rfl) rfl (lv_at hl 4 rfl) ?_
                refine lv_aload hx hb (dAt dX6_copy 56 rfl) (lv_at hl 0 rfl) ?_
                refine x_getrN C hw fl_X6_138 (sH hE (isH_of z30)) (nH hE (isH_of z30) (by omega)) rfl (dAt dX6_copy 57 rfl) ?_
                refine lv_iload hx hb (dAt dX6_copy 58 rfl) (lv_at hl 6 rfl) ?_
                refine lv_iload hx hb (dAt dX6_copy 59 rfl) (lv_at hl 7 rfl) ?_
                obtain ⟨z120, h⟩ := h
                refine x_cp C hw hl.1 lcp_X6_238 (sH_1 hE (isH_of z22)) (nH hE (isH_of z22) (by omega)) (sH_1 hE (isH_of z30)) (nH hE (isH_of z30) (by omega)) ncp_1 ncp_2 ncp_3 z120 (Nat.le_of_ble_eq_true rfl) (Nat.le_of_ble_eq_true rfl) (dAt dX6_copy 60 rfl) (fun σ120 H locs eσ120 hw => ?_)
                replace h := h σ120 eσ120
                refine lv_iconst (v := 1) hx hb (dAt dX6_copy 61 rfl) (by decide) ?_
                exact x_iret C hw hr hlk h (dAt dX6_copy 62 rfl)
              · replace h := h.2 c96
                refine lv_aload_n hx hb (dAt dX6_copy 49 rfl) rfl (lv_at hl 2 rfl) ?_
                refine lv_iconst (v := 2) hx hb (dAt dX6_copy 50 rfl) (by decide) ?_
                refine x_calli C hw (x_runV (As := [.int (2 : Int32)]) (rest := []) C hw (kX6_found l E hE (2 : Int32) σ93 _ h) mtX6_found lk_X6_131 (hE.1 0) (nX hE (by decide)) rfl ⟨by decide, by decide⟩ ⟨rfl, rfl⟩ rfl hl.1 rfl (Nat.le_of_ble_eq_true rfl) (dAt dX6_copy 51 rfl) ⟨Nat.zero_le _, Nat.zero_le _⟩) (fun r101 σ101 H locs h hw => ?_)
                exact x_iret C hw hr hlk h (dAt dX6_copy 52 rfl)
          · replace h := h.2 c67
            refine lv_aload_n hx hb (dAt dX6_copy 35 rfl) rfl (lv_at hl 2 rfl) ?_
            refine lv_iconst (v := 4) hx hb (dAt dX6_copy 36 rfl) (by decide) ?_
            refine x_calli C hw (x_runV (As := [.int (4 : Int32)]) (rest := []) C hw (kX6_found l E hE (4 : Int32) σ8 _ h) mtX6_found lk_X6_131 (hE.1 0) (nX hE (by decide)) rfl ⟨by decide, by decide⟩ ⟨rfl, rfl⟩ rfl hl.1 rfl (Nat.le_of_ble_eq_true rfl) (dAt dX6_copy 37 rfl) ⟨Nat.zero_le _, Nat.zero_le _⟩) (fun r72 σ72 H locs h hw => ?_)
            exact x_iret C hw hr hlk h (dAt dX6_copy 38 rfl)
        · replace h := h.2 c48
          refine lv_aload_n hx hb (dAt dX6_copy 26 rfl) rfl (lv_at hl 2 rfl) ?_
          refine lv_iconst (v := 1) hx hb (dAt dX6_copy 27 rfl) (by decide) ?_
          refine x_calli C hw (x_runV (As := [.int (1 : Int32)]) (rest := []) C hw (kX6_found l E hE (1 : Int32) σ8 _ h) mtX6_found lk_X6_131 (hE.1 0) (nX hE (by decide)) rfl ⟨by decide, by decide⟩ ⟨rfl, rfl⟩ rfl hl.1 rfl (Nat.le_of_ble_eq_true rfl) (dAt dX6_copy 28 rfl) ⟨Nat.zero_le _, Nat.zero_le _⟩) (fun r53 σ53 H locs h hw => ?_)
          exact x_iret C hw hr hlk h (dAt dX6_copy 29 rfl)
    · replace h := h.2 c11
      refine lv_bipush (v := -2) hx hb (dAt dX6_copy 6 rfl) (by decide) ?_
      exact x_iret C hw hr hlk h (dAt dX6_copy 7 rfl)
def tX6_write : List (Nat × Instr × Nat) := [(0, .iload_n 1, 1), (1, .invokestatic 125, 3), (4, .ifCond .ne 6, 3), (7, .bipush (-2), 2), (9, .ireturn, 1), (10, .aload_n 0, 1), (11, .getfield 55, 3), (14, .iload_n 1, 1), (15, .aaload, 1), (16, .getfield 128, 3), (19, .iconst (-1), 1), (20, .if_icmp .ne 9, 3), (23, .aload_n 0, 1), (24, .iconst 1, 1), (25, .invokevirtual 131, 3), (28, .ireturn, 1), (29, .aload_n 0, 1), (30, .invokevirtual 145, 3), (33, .astore_n 2, 1), (34, .aload_n 0, 1), (35, .getfield 55, 3), (38, .iload_n 1, 1), (39, .aaload, 1), (40, .getfield 135, 3), (43, .aload_n 2, 1), (44, .getfield 167, 3), (47, .invokestatic 284, 3), (50, .istore_n 3, 1), (51, .iconst 0, 1), (52, .istore 4, 2), (54, .iload 4, 2), (56, .iload_n 3, 1), (57, .if_icmp .ge 35, 3), (60, .aload_n 0, 1), (61, .getfield 55, 3), (64, .iload_n 1, 1), (65, .aaload, 1), (66, .iload 4, 2), (68, .aload_n 0, 1), (69, .getfield 28, 3), (72, .getfield 98, 3), (75, .aload_n 2, 1), (76, .getfield 170, 3), (79, .iload 4, 2), (81, .iaload, 1), (82, .iaload, 1), (83, .invokevirtual 276, 3), (86, .iinc 4 1, 3), (89, .goto (-35), 3), (92, .iload_n 3, 1), (93, .ireturn, 1)]
theorem dX6_write : dOk cX6_write tX6_write = true := by decide +kernel
abbrev rX6_write : Room := { frames := 4, cells := 0, slots := 0, locals := 114 }
def wX6_write_54 (Q : Int32 → Mem → Prop) : Nat → Int32 → Int32 → Int32 → Mem → Prop
  | 0, _, _, _, _ => False
  | n + 1, x1, x3, x4, σ => (((x3 ≤ x4) → (Q x3 σ)) ∧ ((¬ x3 ≤ x4) → (vp_in x1 4 ∧ (vp_in x4 120 ∧ (vp_in (σ 31 (x4).toNatClampNeg) 8 ∧ (wX4_put (54 + 2 * (x1).toNatClampNeg) x4 (σ 13 ((σ 31 (x4).toNatClampNeg)).toNatClampNeg) σ (fun σ83 => (wX6_write_54 Q n x1 x3 (x4 + (1 : Int32)) σ83))))))))
def wX6_write (x1 : Int32) (σ : Mem) (Q : Int32 → Mem → Prop) : Prop := (wX6_isSheet x1 σ (fun r1 σ1 => (((¬ r1 = 0) → (vp_in x1 4 ∧ (((¬ (σ1 (54 + 2 * (x1).toNatClampNeg) 1) = (-1 : Int32)) → (wX6_danced  σ1 (fun σ30 => (vp_in x1 4 ∧ (∀ x3_50 : Int32, x3_50 = (if (σ30 20 16) < (σ30 (54 + 2 * (x1).toNatClampNeg) 2) then (σ30 20 16) else (σ30 (54 + 2 * (x1).toNatClampNeg) 2)) → (∃ N54, wX6_write_54 Q N54 x1 x3_50 (0 : Int32) σ30)))))) ∧ (((σ1 (54 + 2 * (x1).toNatClampNeg) 1) = (-1 : Int32)) → (wX6_found (1 : Int32) σ1 (fun r25 σ25 => (Q r25 σ25))))))) ∧ ((r1 = 0) → (Q (-2 : Int32) σ1)))))
set_option maxHeartbeats 4000000 in
set_option maxRecDepth 100000 in
theorem kX6_write_54 {p : Program} {l : Launch} {e : Env} {s : State} {m : MethodId} {args : Array Value} {below : List Frame} {meth : Method} {c : Code} {E : wE} (hE : wX E) (C : Cx p s m args c cX6_write 5 RX6 E (wA E)) (hr : meth.sig.returnType = (some .int)) (hlk : meth.locks = false) {Q : Int32 → Mem → Prop} : ∀ (n : Nat) (x1 : Int32) (x3 : Int32) (x4 : Int32) (σ : Mem) (H : Heap) (locs : List Loc) (ls : Array Slot), wd E (wA E) s σ H locs → lv_has ls 5 [(0, .ref (gE E 0)), (1, .int x1), (2, .ref (gE E 20)), (3, .int x3), (4, .int x4)] → wX6_write_54 Q n x1 x3 x4 σ → W p l e rX6_write s m args below meth c H locs 0 0 (MQ below (wQi E Q) args s 0 0 (wA E)) (F0 m 54 ls []) := by
  have hx := C.1.1
  have hb := C.1.2.1
  intro n
  induction n with
  | zero =>
    intro x1 x3 x4 σ  H locs ls hw hl h
    exact h.elim
  | succ n ih =>
    intro x1 x3 x4 σ  H locs ls hw hl h
    rw [wX6_write_54] at h
    refine lv_iload hx hb (dAt dX6_write 30 rfl) (lv_at hl 4 rfl) ?_
    refine lv_iload_n hx hb (dAt dX6_write 31 rfl) rfl (lv_at hl 3 rfl) ?_
    refine lv_icmp_ge (tgt := 92) hx hb (dAt dX6_write 32 rfl) (by decide) (fun c57 => ?_) (fun c57 => ?_)
    · replace h := h.1 c57
      refine lv_iload_n hx hb (dAt dX6_write 49 rfl) rfl (lv_at hl 3 rfl) ?_
      exact x_iret C hw hr hlk h (dAt dX6_write 50 rfl)
    · replace h := h.2 c57
      refine lv_aload_n hx hb (dAt dX6_write 33 rfl) rfl (lv_at hl 0 rfl) ?_
      refine x_getr C hw fl_X6_55 (hE.1 0) (nX hE (by decide)) rfl (dAt dX6_write 34 rfl) ?_
      refine lv_iload_n hx hb (dAt dX6_write 35 rfl) rfl (lv_at hl 1 rfl) ?_
      obtain ⟨z65, h⟩ := h
      refine x_aald C hw (hE.1 53) (nX hE (by decide)) z65 (dAt dX6_write 36 rfl) ?_
      refine lv_iload hx hb (dAt dX6_write 37 rfl) (lv_at hl 4 rfl) ?_
      refine lv_aload_n hx hb (dAt dX6_write 38 rfl) rfl (lv_at hl 0 rfl) ?_
      refine x_getr C hw fl_X6_28 (hE.1 0) (nX hE (by decide)) rfl (dAt dX6_write 39 rfl) ?_
      refine x_getrN C hw fl_X6_98 (hE.1 10) (nX hE (by decide)) rfl (dAt dX6_write 40 rfl) ?_
      refine lv_aload_n hx hb (dAt dX6_write 41 rfl) rfl (lv_at hl 2 rfl) ?_
      refine x_getrN C hw fl_X6_170 (hE.1 20) (nX hE (by decide)) rfl (dAt dX6_write 42 rfl) ?_
      refine lv_iload hx hb (dAt dX6_write 43 rfl) (lv_at hl 4 rfl) ?_
      obtain ⟨z81, h⟩ := h
      refine x_ild C hw (hE.1 31) (nX hE (by decide)) z81 rfl (dAt dX6_write 44 rfl) ?_
      obtain ⟨z82, h⟩ := h
      refine x_ild C hw (hE.1 13) (nX hE (by decide)) z82 rfl (dAt dX6_write 45 rfl) ?_
      refine x_callv C hw (x_runVN (As := [.int x4, .int (σ 13 ((σ 31 (x4).toNatClampNeg)).toNatClampNeg)]) (rest := []) C hw (kX4_put l E hE (54 + 2 * (x1).toNatClampNeg) (isH_of z65) x4 (σ 13 ((σ 31 (x4).toNatClampNeg)).toNatClampNeg) σ _ h) mtX4_put lk_X6_276 (sH hE (isH_of z65)) (nH hE (isH_of z65) (by omega)) rfl ⟨by decide, by decide⟩ ⟨rfl, rfl⟩ rfl hl.1 rfl (Nat.le_of_ble_eq_true rfl) (dAt dX6_write 46 rfl) ⟨Nat.zero_le _, Nat.zero_le _⟩) (fun σ83 H locs h hw => ?_)
      refine lv_iinc (v := (x4 + (1 : Int32))) (lv' := [(4, .int (x4 + (1 : Int32))), (0, .ref (gE E 0)), (1, .int x1), (2, .ref (gE E 20)), (3, .int x3)]) hx hb (dAt dX6_write 47 rfl) hl (k := 4) rfl rfl (by decide) rfl (fun ls hl => ?_)
      refine lv_goto (tgt := 54) hx hb (dAt dX6_write 48 rfl) (by decide) ?_
      exact ih x1 x3 (x4 + (1 : Int32)) σ83  _ _ _ hw (lv_sub hl [1, 2, 3, 4, 0] rfl) h
set_option maxHeartbeats 4000000 in
set_option maxRecDepth 100000 in
theorem kX6_write (l : Launch) (E : wE) (hE : wX E) (x1 : Int32) (σ : Mem) (Q : Int32 → Mem → Prop) (h : wX6_write x1 σ Q) : Met l yX6_write (Cond.code yX6_write cX6_write 5 (some .int) :: TB) rX6_write (wPc E σ [.ref (gE E 0), .int x1]) (wQi E Q) 0 0 (wA E) := by
  refine wMet (by decide) hE.2.2 (Nat.le_of_ble_eq_true rfl) ?_
  intro p e s m args below meth c ls C hr hlk hl hw
  have hx := C.1.1
  have hb := C.1.2.1
  replace C : Cx p s m args c cX6_write 5 RX6 E (wA E) := C
  replace hl : lv_has ls 5 [(0, .ref (gE E 0)), (1, .int x1)] := hl
  unfold wX6_write at h
  refine lv_iload_n hx hb (dAt dX6_write 0 rfl) rfl (lv_at hl 1 rfl) ?_
  refine x_calli C hw (x_runS (As := [.int x1]) (rest := []) C hw (kX6_isSheet l E hE x1 σ _ h) mtX6_isSheet lk_X6_125 ⟨by decide, by decide⟩ ⟨rfl, rfl⟩ rfl hl.1 rfl (Nat.le_of_ble_eq_true rfl) (dAt dX6_write 1 rfl) ⟨Nat.zero_le _, Nat.zero_le _⟩) (fun r1 σ1 H locs h hw => ?_)
  refine lv_if_ne (tgt := 10) hx hb (dAt dX6_write 2 rfl) (by decide) (fun c4 => ?_) (fun c4 => ?_)
  · replace h := h.1 c4
    refine lv_aload_n hx hb (dAt dX6_write 5 rfl) rfl (lv_at hl 0 rfl) ?_
    refine x_getr C hw fl_X6_55 (hE.1 0) (nX hE (by decide)) rfl (dAt dX6_write 6 rfl) ?_
    refine lv_iload_n hx hb (dAt dX6_write 7 rfl) rfl (lv_at hl 1 rfl) ?_
    obtain ⟨z15, h⟩ := h
    refine x_aald C hw (hE.1 53) (nX hE (by decide)) z15 (dAt dX6_write 8 rfl) ?_
    refine x_getiN C hw fl_X6_128 (sH hE (isH_of z15)) (nH hE (isH_of z15) (by omega)) rfl (dAt dX6_write 9 rfl) ?_
    refine lv_iconst (v := -1) hx hb (dAt dX6_write 10 rfl) (by decide) ?_
    refine lv_icmp_ne (tgt := 29) hx hb (dAt dX6_write 11 rfl) (by decide) (fun c20 => ?_) (fun c20 => ?_)
    · replace h := h.1 c20
      refine lv_aload_n hx hb (dAt dX6_write 16 rfl) rfl (lv_at hl 0 rfl) ?_
      refine x_callr C hw (x_runV (As := []) (rest := []) C hw (kX6_danced l E hE  σ1 _ h) mtX6_danced lk_X6_145 (hE.1 0) (nX hE (by decide)) rfl ⟨by decide, by decide⟩ ⟨rfl, rfl⟩ rfl hl.1 rfl (Nat.le_of_ble_eq_true rfl) (dAt dX6_write 17 rfl) ⟨Nat.zero_le _, Nat.zero_le _⟩) (fun σ30 H locs h hw => ?_)
      refine lv_astore_n (lv' := [(2, .ref (gE E 20)), (0, .ref (gE E 0)), (1, .int x1)]) hx hb (dAt dX6_write 18 rfl) rfl hl (by decide) rfl (fun ls hl => ?_)
      refine lv_aload_n hx hb (dAt dX6_write 19 rfl) rfl (lv_at hl 1 rfl) ?_
      refine x_getr C hw fl_X6_55 (hE.1 0) (nX hE (by decide)) rfl (dAt dX6_write 20 rfl) ?_
      refine lv_iload_n hx hb (dAt dX6_write 21 rfl) rfl (lv_at hl 2 rfl) ?_
      obtain ⟨z39, h⟩ := h
      refine x_aald C hw (hE.1 53) (nX hE (by decide)) z39 (dAt dX6_write 22 rfl) ?_
      refine x_getiN C hw fl_X6_135 (sH hE (isH_of z39)) (nH hE (isH_of z39) (by omega)) rfl (dAt dX6_write 23 rfl) ?_
      refine lv_aload_n hx hb (dAt dX6_write 24 rfl) rfl (lv_at hl 0 rfl) ?_
      refine x_getiN C hw fl_X6_167 (hE.1 20) (nX hE (by decide)) rfl (dAt dX6_write 25 rfl) ?_
      refine va_mmin hx hb (C.1.2.2.1.trans hl.1.symm) C.1.2.2.2.1 (C.1.2.2.2.2 _ lm_X6_284) (C.1.2.2.2.2 _ mmin_1) (C.1.2.2.2.2 _ mini) (C.1.2.2.2.2 _ mmin_2) (Nat.le_of_ble_eq_true rfl) (Nat.le_of_ble_eq_true rfl) (Nat.zero_le _) (Nat.zero_le _) (dAt dX6_write 26 rfl) ?_
      refine lv_topi (fun x3_50 ex3_50 => ?_)
      replace h := h x3_50 ex3_50
      refine lv_istore_n (lv' := [(3, .int x3_50), (2, .ref (gE E 20)), (0, .ref (gE E 0)), (1, .int x1)]) hx hb (dAt dX6_write 27 rfl) rfl hl (by decide) rfl (fun ls hl => ?_)
      refine lv_iconst (v := 0) hx hb (dAt dX6_write 28 rfl) (by decide) ?_
      refine lv_istore (lv' := [(4, .int (0 : Int32)), (3, .int x3_50), (2, .ref (gE E 20)), (0, .ref (gE E 0)), (1, .int x1)]) hx hb (dAt dX6_write 29 rfl) hl (by decide) rfl (fun ls hl => ?_)
      obtain ⟨n54, h⟩ := h
      exact kX6_write_54 hE C hr hlk n54 x1 x3_50 (0 : Int32) σ30  _ _ _ hw (lv_sub hl [3, 4, 2, 1, 0] rfl) h
    · replace h := h.2 c20
      refine lv_aload_n hx hb (dAt dX6_write 12 rfl) rfl (lv_at hl 0 rfl) ?_
      refine lv_iconst (v := 1) hx hb (dAt dX6_write 13 rfl) (by decide) ?_
      refine x_calli C hw (x_runV (As := [.int (1 : Int32)]) (rest := []) C hw (kX6_found l E hE (1 : Int32) σ1 _ h) mtX6_found lk_X6_131 (hE.1 0) (nX hE (by decide)) rfl ⟨by decide, by decide⟩ ⟨rfl, rfl⟩ rfl hl.1 rfl (Nat.le_of_ble_eq_true rfl) (dAt dX6_write 14 rfl) ⟨Nat.zero_le _, Nat.zero_le _⟩) (fun r25 σ25 H locs h hw => ?_)
      exact x_iret C hw hr hlk h (dAt dX6_write 15 rfl)
  · replace h := h.2 c4
    refine lv_bipush (v := -2) hx hb (dAt dX6_write 3 rfl) (by decide) ?_
    exact x_iret C hw hr hlk h (dAt dX6_write 4 rfl)
def tJ6_bitCount_0f7a4 : List (Nat × Instr × Nat) := [(0, .iload_n 0, 1), (1, .iload_n 0, 1), (2, .iconst 1, 1), (3, .iushr, 1), (4, .ldc_w 265, 3), (7, .iand, 1), (8, .isub, 1), (9, .istore_n 0, 1), (10, .iload_n 0, 1), (11, .ldc_w 266, 3), (14, .iand, 1), (15, .iload_n 0, 1), (16, .iconst 2, 1), (17, .iushr, 1), (18, .ldc_w 266, 3), (21, .iand, 1), (22, .iadd, 1), (23, .istore_n 0, 1), (24, .iload_n 0, 1), (25, .iload_n 0, 1), (26, .iconst 4, 1), (27, .iushr, 1), (28, .iadd, 1), (29, .ldc_w 267, 3), (32, .iand, 1), (33, .istore_n 0, 1), (34, .iload_n 0, 1), (35, .iload_n 0, 1), (36, .bipush 8, 2), (38, .iushr, 1), (39, .iadd, 1), (40, .istore_n 0, 1), (41, .iload_n 0, 1), (42, .iload_n 0, 1), (43, .bipush 16, 2), (45, .iushr, 1), (46, .iadd, 1), (47, .istore_n 0, 1), (48, .iload_n 0, 1), (49, .bipush 63, 2), (51, .iand, 1), (52, .ireturn, 1)]
theorem dJ6_bitCount_0f7a4 : dOk cJ6_bitCount_0f7a4 tJ6_bitCount_0f7a4 = true := by decide +kernel
abbrev rJ6_bitCount_0f7a4 : Room := { frames := 0, cells := 0, slots := 0, locals := 0 }
def wJ6_bitCount_0f7a4 (x0 : Int32) (σ : Mem) (Q : Int32 → Mem → Prop) : Prop := (∀ x0_9 : Int32, x0_9 = (x0 - ((((x0).toUInt32 >>> (((1 : Int32)).toUInt32 &&& Int32.toUInt32 31)).toInt32) &&& (1431655765 : Int32))) → (∀ x0_23 : Int32, x0_23 = ((x0_9 &&& (858993459 : Int32)) + ((((x0_9).toUInt32 >>> (((2 : Int32)).toUInt32 &&& Int32.toUInt32 31)).toInt32) &&& (858993459 : Int32))) → (∀ x0_33 : Int32, x0_33 = ((x0_23 + (((x0_23).toUInt32 >>> (((4 : Int32)).toUInt32 &&& Int32.toUInt32 31)).toInt32)) &&& (252645135 : Int32)) → (∀ x0_40 : Int32, x0_40 = (x0_33 + (((x0_33).toUInt32 >>> (((8 : Int32)).toUInt32 &&& Int32.toUInt32 31)).toInt32)) → (∀ x0_47 : Int32, x0_47 = (x0_40 + (((x0_40).toUInt32 >>> (((16 : Int32)).toUInt32 &&& Int32.toUInt32 31)).toInt32)) → (Q (x0_47 &&& (63 : Int32)) σ))))))
set_option maxHeartbeats 4000000 in
set_option maxRecDepth 100000 in
theorem kJ6_bitCount_0f7a4 (l : Launch) (E : wE) (hE : wI E) (x0 : Int32) (σ : Mem) (Q : Int32 → Mem → Prop) (h : wJ6_bitCount_0f7a4 x0 σ Q) : Met l yJ6_bitCount_0f7a4 (Cond.code yJ6_bitCount_0f7a4 cJ6_bitCount_0f7a4 1 (some .int) :: TB) rJ6_bitCount_0f7a4 (wPc E σ [.int x0]) (wQi E Q) 0 0 (wA E) := by
  refine wMet (by decide) hE (Nat.le_of_ble_eq_true rfl) ?_
  intro p e s m args below meth c ls C hr hlk hl hw
  have hx := C.1.1
  have hb := C.1.2.1
  replace C : Cx p s m args c cJ6_bitCount_0f7a4 1 RJ6 E (wA E) := C
  replace hl : lv_has ls 1 [(0, .int x0)] := hl
  unfold wJ6_bitCount_0f7a4 at h
  refine lv_iload_n hx hb (dAt dJ6_bitCount_0f7a4 0 rfl) rfl (lv_at hl 0 rfl) ?_
  refine lv_iload_n hx hb (dAt dJ6_bitCount_0f7a4 1 rfl) rfl (lv_at hl 0 rfl) ?_
  refine lv_iconst (v := 1) hx hb (dAt dJ6_bitCount_0f7a4 2 rfl) (by decide) ?_
  refine lv_iushr hx hb (dAt dJ6_bitCount_0f7a4 3 rfl) rfl ?_
  refine lv_ldcw (v := 1431655765) hx hb C.1.2.2.2.1 (C.1.2.2.2.2 _ ck_J6_265) (dAt dJ6_bitCount_0f7a4 4 rfl) ?_
  refine lv_iand hx hb (dAt dJ6_bitCount_0f7a4 5 rfl) ?_
  refine lv_isub hx hb (dAt dJ6_bitCount_0f7a4 6 rfl) ?_
  refine lv_topi (fun x0_9 ex0_9 => ?_)
  replace h := h x0_9 ex0_9
  refine lv_istore_n (lv' := [(0, .int x0_9)]) hx hb (dAt dJ6_bitCount_0f7a4 7 rfl) rfl hl (by decide) rfl (fun ls hl => ?_)
  refine lv_iload_n hx hb (dAt dJ6_bitCount_0f7a4 8 rfl) rfl (lv_at hl 0 rfl) ?_
  refine lv_ldcw (v := 858993459) hx hb C.1.2.2.2.1 (C.1.2.2.2.2 _ ck_J6_266) (dAt dJ6_bitCount_0f7a4 9 rfl) ?_
  refine lv_iand hx hb (dAt dJ6_bitCount_0f7a4 10 rfl) ?_
  refine lv_iload_n hx hb (dAt dJ6_bitCount_0f7a4 11 rfl) rfl (lv_at hl 0 rfl) ?_
  refine lv_iconst (v := 2) hx hb (dAt dJ6_bitCount_0f7a4 12 rfl) (by decide) ?_
  refine lv_iushr hx hb (dAt dJ6_bitCount_0f7a4 13 rfl) rfl ?_
  refine lv_ldcw (v := 858993459) hx hb C.1.2.2.2.1 (C.1.2.2.2.2 _ ck_J6_266) (dAt dJ6_bitCount_0f7a4 14 rfl) ?_
  refine lv_iand hx hb (dAt dJ6_bitCount_0f7a4 15 rfl) ?_
  refine lv_iadd hx hb (dAt dJ6_bitCount_0f7a4 16 rfl) ?_
  refine lv_topi (fun x0_23 ex0_23 => ?_)
  replace h := h x0_23 ex0_23
  refine lv_istore_n (lv' := [(0, .int x0_23)]) hx hb (dAt dJ6_bitCount_0f7a4 17 rfl) rfl hl (by decide) rfl (fun ls hl => ?_)
  refine lv_iload_n hx hb (dAt dJ6_bitCount_0f7a4 18 rfl) rfl (lv_at hl 0 rfl) ?_
  refine lv_iload_n hx hb (dAt dJ6_bitCount_0f7a4 19 rfl) rfl (lv_at hl 0 rfl) ?_
  refine lv_iconst (v := 4) hx hb (dAt dJ6_bitCount_0f7a4 20 rfl) (by decide) ?_
  refine lv_iushr hx hb (dAt dJ6_bitCount_0f7a4 21 rfl) rfl ?_
  refine lv_iadd hx hb (dAt dJ6_bitCount_0f7a4 22 rfl) ?_
  refine lv_ldcw (v := 252645135) hx hb C.1.2.2.2.1 (C.1.2.2.2.2 _ ck_J6_267) (dAt dJ6_bitCount_0f7a4 23 rfl) ?_
  refine lv_iand hx hb (dAt dJ6_bitCount_0f7a4 24 rfl) ?_
  refine lv_topi (fun x0_33 ex0_33 => ?_)
  replace h := h x0_33 ex0_33
  refine lv_istore_n (lv' := [(0, .int x0_33)]) hx hb (dAt dJ6_bitCount_0f7a4 25 rfl) rfl hl (by decide) rfl (fun ls hl => ?_)
  refine lv_iload_n hx hb (dAt dJ6_bitCount_0f7a4 26 rfl) rfl (lv_at hl 0 rfl) ?_
  refine lv_iload_n hx hb (dAt dJ6_bitCount_0f7a4 27 rfl) rfl (lv_at hl 0 rfl) ?_
  refine lv_bipush (v := 8) hx hb (dAt dJ6_bitCount_0f7a4 28 rfl) (by decide) ?_
  refine lv_iushr hx hb (dAt dJ6_bitCount_0f7a4 29 rfl) rfl ?_
  refine lv_iadd hx hb (dAt dJ6_bitCount_0f7a4 30 rfl) ?_
  refine lv_topi (fun x0_40 ex0_40 => ?_)
  replace h := h x0_40 ex0_40
  refine lv_istore_n (lv' := [(0, .int x0_40)]) hx hb (dAt dJ6_bitCount_0f7a4 31 rfl) rfl hl (by decide) rfl (fun ls hl => ?_)
  refine lv_iload_n hx hb (dAt dJ6_bitCount_0f7a4 32 rfl) rfl (lv_at hl 0 rfl) ?_
  refine lv_iload_n hx hb (dAt dJ6_bitCount_0f7a4 33 rfl) rfl (lv_at hl 0 rfl) ?_
  refine lv_bipush (v := 16) hx hb (dAt dJ6_bitCount_0f7a4 34 rfl) (by decide) ?_
  refine lv_iushr hx hb (dAt dJ6_bitCount_0f7a4 35 rfl) rfl ?_
  refine lv_iadd hx hb (dAt dJ6_bitCount_0f7a4 36 rfl) ?_
  refine lv_topi (fun x0_47 ex0_47 => ?_)
  replace h := h x0_47 ex0_47
  refine lv_istore_n (lv' := [(0, .int x0_47)]) hx hb (dAt dJ6_bitCount_0f7a4 37 rfl) rfl hl (by decide) rfl (fun ls hl => ?_)
  refine lv_iload_n hx hb (dAt dJ6_bitCount_0f7a4 38 rfl) rfl (lv_at hl 0 rfl) ?_
  refine lv_bipush (v := 63) hx hb (dAt dJ6_bitCount_0f7a4 39 rfl) (by decide) ?_
  refine lv_iand hx hb (dAt dJ6_bitCount_0f7a4 40 rfl) ?_
  exact x_iret C hw hr hlk h (dAt dJ6_bitCount_0f7a4 41 rfl)
def tX6_count : List (Nat × Instr × Nat) := [(0, .iload_n 1, 1), (1, .tableswitch 162 0 8 #[51, 59, 86, 106, 114, 122, 130, 149, 157], 51), (52, .aload_n 0, 1), (53, .getfield 28, 3), (56, .getfield 193, 3), (59, .ireturn, 1), (60, .aload_n 0, 1), (61, .getfield 14, 3), (64, .iconst 1, 1), (65, .aaload, 1), (66, .getfield 86, 3), (69, .iconst (-1), 1), (70, .if_icmp .ne 15, 3), (73, .aload_n 0, 1), (74, .getfield 14, 3), (77, .iconst 1, 1), (78, .aaload, 1), (79, .getfield 73, 3), (82, .goto 4, 3), (85, .iconst 0, 1), (86, .ireturn, 1), (87, .aload_n 0, 1), (88, .getfield 14, 3), (91, .iconst 0, 1), (92, .aaload, 1), (93, .getfield 73, 3), (96, .aload_n 0, 1), (97, .getfield 14, 3), (100, .iconst 1, 1), (101, .aaload, 1), (102, .getfield 73, 3), (105, .iadd, 1), (106, .ireturn, 1), (107, .aload_n 0, 1), (108, .getfield 21, 3), (111, .getfield 115, 3), (114, .ireturn, 1), (115, .aload_n 0, 1), (116, .invokevirtual 145, 3), (119, .getfield 167, 3), (122, .ireturn, 1), (123, .aload_n 0, 1), (124, .getfield 28, 3), (127, .getfield 107, 3), (130, .ireturn, 1), (131, .aload_n 0, 1), (132, .getfield 28, 3), (135, .getfield 193, 3), (138, .aload_n 0, 1), (139, .invokevirtual 145, 3), (142, .getfield 289, 3), (145, .invokestatic 292, 3), (148, .isub, 1), (149, .ireturn, 1), (150, .aload_n 0, 1), (151, .getfield 48, 3), (154, .getfield 223, 3), (157, .ireturn, 1), (158, .aload_n 0, 1), (159, .getfield 278, 3), (162, .ireturn, 1), (163, .bipush (-2), 2), (165, .ireturn, 1)]
theorem dX6_count : dOk cX6_count tX6_count = true := by decide +kernel
abbrev rX6_count : Room := { frames := 4, cells := 0, slots := 0, locals := 114 }
def wX6_count (x1 : Int32) (σ : Mem) (Q : Int32 → Mem → Prop) : Prop := ((x1 = (0 : Int32) → (Q (σ 10 4) σ)) ∧ (x1 = (1 : Int32) → (((¬ (σ 4 3) = (-1 : Int32)) → (Q (0 : Int32) σ)) ∧ (((σ 4 3) = (-1 : Int32)) → (Q (σ 4 2) σ)))) ∧ (x1 = (2 : Int32) → (Q ((σ 2 2) + (σ 4 2)) σ)) ∧ (x1 = (3 : Int32) → (Q (σ 6 3) σ)) ∧ (x1 = (4 : Int32) → (wX6_danced  σ (fun σ116 => (Q (σ116 20 16) σ116)))) ∧ (x1 = (5 : Int32) → (Q (σ 10 5) σ)) ∧ (x1 = (6 : Int32) → (wX6_danced  σ (fun σ139 => (wJ6_bitCount_0f7a4 (σ139 20 15) σ139 (fun r145 σ145 => (Q ((σ 10 4) - r145) σ145)))))) ∧ (x1 = (7 : Int32) → (Q (σ 50 2) σ)) ∧ (x1 = (8 : Int32) → (Q (σ 0 14) σ)) ∧ ((x1).toInt < 0 ∨ 8 < (x1).toInt → (Q (-2 : Int32) σ)))
set_option maxHeartbeats 4000000 in
set_option maxRecDepth 100000 in
theorem kX6_count (l : Launch) (E : wE) (hE : wX E) (x1 : Int32) (σ : Mem) (Q : Int32 → Mem → Prop) (h : wX6_count x1 σ Q) : Met l yX6_count (Cond.code yX6_count cX6_count 2 (some .int) :: TB) rX6_count (wPc E σ [.ref (gE E 0), .int x1]) (wQi E Q) 0 0 (wA E) := by
  refine wMet (by decide) hE.2.2 (Nat.le_of_ble_eq_true rfl) ?_
  intro p e s m args below meth c ls C hr hlk hl hw
  have hx := C.1.1
  have hb := C.1.2.1
  replace C : Cx p s m args c cX6_count 2 RX6 E (wA E) := C
  replace hl : lv_has ls 2 [(0, .ref (gE E 0)), (1, .int x1)] := hl
  unfold wX6_count at h
  refine lv_iload_n hx hb (dAt dX6_count 0 rfl) rfl (lv_at hl 1 rfl) ?_
  rcases swT x1 0 9 (by decide) with ⟨j1, hj1, ej1⟩ | ej1
  · match j1, hj1, ej1 with
    | 0, _, ej1 =>
      have ej1 : x1 = (0 : Int32) := ej1
      replace h := h.1 ej1
      refine lv_tableIn (off := 51) (tgt := 52) hx hb (dAt dX6_count 1 rfl) (by rw [ej1]; decide) (by rw [ej1]; decide) (by rw [ej1]; rfl) (by decide) ?_
      refine lv_aload_n hx hb (dAt dX6_count 2 rfl) rfl (lv_at hl 0 rfl) ?_
      refine x_getr C hw fl_X6_28 (hE.1 0) (nX hE (by decide)) rfl (dAt dX6_count 3 rfl) ?_
      refine x_getiN C hw fl_X6_193 (hE.1 10) (nX hE (by decide)) rfl (dAt dX6_count 4 rfl) ?_
      exact x_iret C hw hr hlk h (dAt dX6_count 5 rfl)
    | 1, _, ej1 =>
      have ej1 : x1 = (1 : Int32) := ej1
      replace h := h.2.1 ej1
      refine lv_tableIn (off := 59) (tgt := 60) hx hb (dAt dX6_count 1 rfl) (by rw [ej1]; decide) (by rw [ej1]; decide) (by rw [ej1]; rfl) (by decide) ?_
      refine lv_aload_n hx hb (dAt dX6_count 6 rfl) rfl (lv_at hl 0 rfl) ?_
      refine x_getr C hw fl_X6_14 (hE.1 0) (nX hE (by decide)) rfl (dAt dX6_count 7 rfl) ?_
      refine lv_iconst (v := 1) hx hb (dAt dX6_count 8 rfl) (by decide) ?_
      refine x_aald C hw (hE.1 1) (nX hE (by decide)) (vin rfl) (dAt dX6_count 9 rfl) ?_
      refine W.eq (g2 := F0 m 66 ls [.ref (gE E 4)]) rfl ?_
      refine x_getiN C hw fl_X6_86 (hE.1 4) (nX hE (by decide)) rfl (dAt dX6_count 10 rfl) ?_
      refine lv_iconst (v := -1) hx hb (dAt dX6_count 11 rfl) (by decide) ?_
      refine lv_icmp_ne (tgt := 85) hx hb (dAt dX6_count 12 rfl) (by decide) (fun c70 => ?_) (fun c70 => ?_)
      · replace h := h.1 c70
        refine lv_iconst (v := 0) hx hb (dAt dX6_count 19 rfl) (by decide) ?_
        exact x_iret C hw hr hlk h (dAt dX6_count 20 rfl)
      · replace h := h.2 c70
        refine lv_aload_n hx hb (dAt dX6_count 13 rfl) rfl (lv_at hl 0 rfl) ?_
        refine x_getr C hw fl_X6_14 (hE.1 0) (nX hE (by decide)) rfl (dAt dX6_count 14 rfl) ?_
        refine lv_iconst (v := 1) hx hb (dAt dX6_count 15 rfl) (by decide) ?_
        refine x_aald C hw (hE.1 1) (nX hE (by decide)) (vin rfl) (dAt dX6_count 16 rfl) ?_
        refine W.eq (g2 := F0 m 79 ls [.ref (gE E 4)]) rfl ?_
        refine x_getiN C hw fl_X6_73 (hE.1 4) (nX hE (by decide)) rfl (dAt dX6_count 17 rfl) ?_
        refine lv_goto (tgt := 86) hx hb (dAt dX6_count 18 rfl) (by decide) ?_
        exact x_iret C hw hr hlk h (dAt dX6_count 20 rfl)
    | 2, _, ej1 =>
      have ej1 : x1 = (2 : Int32) := ej1
      replace h := h.2.2.1 ej1
      refine lv_tableIn (off := 86) (tgt := 87) hx hb (dAt dX6_count 1 rfl) (by rw [ej1]; decide) (by rw [ej1]; decide) (by rw [ej1]; rfl) (by decide) ?_
      refine lv_aload_n hx hb (dAt dX6_count 21 rfl) rfl (lv_at hl 0 rfl) ?_
      refine x_getr C hw fl_X6_14 (hE.1 0) (nX hE (by decide)) rfl (dAt dX6_count 22 rfl) ?_
      refine lv_iconst (v := 0) hx hb (dAt dX6_count 23 rfl) (by decide) ?_
      refine x_aald C hw (hE.1 1) (nX hE (by decide)) (vin rfl) (dAt dX6_count 24 rfl) ?_
      refine W.eq (g2 := F0 m 93 ls [.ref (gE E 2)]) rfl ?_
      refine x_getiN C hw fl_X6_73 (hE.1 2) (nX hE (by decide)) rfl (dAt dX6_count 25 rfl) ?_
      refine lv_aload_n hx hb (dAt dX6_count 26 rfl) rfl (lv_at hl 0 rfl) ?_
      refine x_getr C hw fl_X6_14 (hE.1 0) (nX hE (by decide)) rfl (dAt dX6_count 27 rfl) ?_
      refine lv_iconst (v := 1) hx hb (dAt dX6_count 28 rfl) (by decide) ?_
      refine x_aald C hw (hE.1 1) (nX hE (by decide)) (vin rfl) (dAt dX6_count 29 rfl) ?_
      refine W.eq (g2 := F0 m 102 ls [.ref (gE E 4), .int (σ 2 2)]) rfl ?_
      refine x_getiN C hw fl_X6_73 (hE.1 4) (nX hE (by decide)) rfl (dAt dX6_count 30 rfl) ?_
      refine lv_iadd hx hb (dAt dX6_count 31 rfl) ?_
      exact x_iret C hw hr hlk h (dAt dX6_count 32 rfl)
    | 3, _, ej1 =>
      have ej1 : x1 = (3 : Int32) := ej1
      replace h := h.2.2.2.1 ej1
      refine lv_tableIn (off := 106) (tgt := 107) hx hb (dAt dX6_count 1 rfl) (by rw [ej1]; decide) (by rw [ej1]; decide) (by rw [ej1]; rfl) (by decide) ?_
      refine lv_aload_n hx hb (dAt dX6_count 33 rfl) rfl (lv_at hl 0 rfl) ?_
      refine x_getr C hw fl_X6_21 (hE.1 0) (nX hE (by decide)) rfl (dAt dX6_count 34 rfl) ?_
      refine x_getiN C hw fl_X6_115 (hE.1 6) (nX hE (by decide)) rfl (dAt dX6_count 35 rfl) ?_
      exact x_iret C hw hr hlk h (dAt dX6_count 36 rfl)
    | 4, _, ej1 =>
      have ej1 : x1 = (4 : Int32) := ej1
      replace h := h.2.2.2.2.1 ej1
      refine lv_tableIn (off := 114) (tgt := 115) hx hb (dAt dX6_count 1 rfl) (by rw [ej1]; decide) (by rw [ej1]; decide) (by rw [ej1]; rfl) (by decide) ?_
      refine lv_aload_n hx hb (dAt dX6_count 37 rfl) rfl (lv_at hl 0 rfl) ?_
      refine x_callr C hw (x_runV (As := []) (rest := []) C hw (kX6_danced l E hE  σ _ h) mtX6_danced lk_X6_145 (hE.1 0) (nX hE (by decide)) rfl ⟨by decide, by decide⟩ ⟨rfl, rfl⟩ rfl hl.1 rfl (Nat.le_of_ble_eq_true rfl) (dAt dX6_count 38 rfl) ⟨Nat.zero_le _, Nat.zero_le _⟩) (fun σ116 H locs h hw => ?_)
      refine x_getiN C hw fl_X6_167 (hE.1 20) (nX hE (by decide)) rfl (dAt dX6_count 39 rfl) ?_
      exact x_iret C hw hr hlk h (dAt dX6_count 40 rfl)
    | 5, _, ej1 =>
      have ej1 : x1 = (5 : Int32) := ej1
      replace h := h.2.2.2.2.2.1 ej1
      refine lv_tableIn (off := 122) (tgt := 123) hx hb (dAt dX6_count 1 rfl) (by rw [ej1]; decide) (by rw [ej1]; decide) (by rw [ej1]; rfl) (by decide) ?_
      refine lv_aload_n hx hb (dAt dX6_count 41 rfl) rfl (lv_at hl 0 rfl) ?_
      refine x_getr C hw fl_X6_28 (hE.1 0) (nX hE (by decide)) rfl (dAt dX6_count 42 rfl) ?_
      refine x_getiN C hw fl_X6_107 (hE.1 10) (nX hE (by decide)) rfl (dAt dX6_count 43 rfl) ?_
      exact x_iret C hw hr hlk h (dAt dX6_count 44 rfl)
    | 6, _, ej1 =>
      have ej1 : x1 = (6 : Int32) := ej1
      replace h := h.2.2.2.2.2.2.1 ej1
      refine lv_tableIn (off := 130) (tgt := 131) hx hb (dAt dX6_count 1 rfl) (by rw [ej1]; decide) (by rw [ej1]; decide) (by rw [ej1]; rfl) (by decide) ?_
      refine lv_aload_n hx hb (dAt dX6_count 45 rfl) rfl (lv_at hl 0 rfl) ?_
      refine x_getr C hw fl_X6_28 (hE.1 0) (nX hE (by decide)) rfl (dAt dX6_count 46 rfl) ?_
      refine x_getiN C hw fl_X6_193 (hE.1 10) (nX hE (by decide)) rfl (dAt dX6_count 47 rfl) ?_
      refine lv_aload_n hx hb (dAt dX6_count 48 rfl) rfl (lv_at hl 0 rfl) ?_
      refine x_callr C hw (x_runV (As := []) (rest := [.int (σ 10 4)]) C hw (kX6_danced l E hE  σ _ h) mtX6_danced lk_X6_145 (hE.1 0) (nX hE (by decide)) rfl ⟨by decide, by decide⟩ ⟨rfl, rfl⟩ rfl hl.1 rfl (Nat.le_of_ble_eq_true rfl) (dAt dX6_count 49 rfl) ⟨Nat.zero_le _, Nat.zero_le _⟩) (fun σ139 H locs h hw => ?_)
      refine x_getiN C hw fl_X6_289 (hE.1 20) (nX hE (by decide)) rfl (dAt dX6_count 50 rfl) ?_
      refine x_calli C hw (x_runS (As := [.int (σ139 20 15)]) (rest := [.int (σ 10 4)]) C hw (kJ6_bitCount_0f7a4 l E hE.2.2 (σ139 20 15) σ139 _ h) mtJ6_bitCount_0f7a4 lk_X6_292 ⟨by decide, by decide⟩ ⟨rfl, rfl⟩ rfl hl.1 rfl (Nat.le_of_ble_eq_true rfl) (dAt dX6_count 51 rfl) ⟨Nat.zero_le _, Nat.zero_le _⟩) (fun r145 σ145 H locs h hw => ?_)
      refine lv_isub hx hb (dAt dX6_count 52 rfl) ?_
      exact x_iret C hw hr hlk h (dAt dX6_count 53 rfl)
    | 7, _, ej1 =>
      have ej1 : x1 = (7 : Int32) := ej1
      replace h := h.2.2.2.2.2.2.2.1 ej1
      refine lv_tableIn (off := 149) (tgt := 150) hx hb (dAt dX6_count 1 rfl) (by rw [ej1]; decide) (by rw [ej1]; decide) (by rw [ej1]; rfl) (by decide) ?_
      refine lv_aload_n hx hb (dAt dX6_count 54 rfl) rfl (lv_at hl 0 rfl) ?_
      refine x_getr C hw fl_X6_48 (hE.1 0) (nX hE (by decide)) rfl (dAt dX6_count 55 rfl) ?_
      refine x_getiN C hw fl_X6_223 (hE.1 50) (nX hE (by decide)) rfl (dAt dX6_count 56 rfl) ?_
      exact x_iret C hw hr hlk h (dAt dX6_count 57 rfl)
    | 8, _, ej1 =>
      have ej1 : x1 = (8 : Int32) := ej1
      replace h := h.2.2.2.2.2.2.2.2.1 ej1
      refine lv_tableIn (off := 157) (tgt := 158) hx hb (dAt dX6_count 1 rfl) (by rw [ej1]; decide) (by rw [ej1]; decide) (by rw [ej1]; rfl) (by decide) ?_
      refine lv_aload_n hx hb (dAt dX6_count 58 rfl) rfl (lv_at hl 0 rfl) ?_
      refine x_geti C hw fl_X6_278 (hE.1 0) (nX hE (by decide)) rfl (dAt dX6_count 59 rfl) ?_
      exact x_iret C hw hr hlk h (dAt dX6_count 60 rfl)
    | j + 9, hj, _ => exact absurd hj (by omega)
  · replace h := h.2.2.2.2.2.2.2.2.2 ej1
    refine lv_tableOut (tgt := 163) hx hb (dAt dX6_count 1 rfl) ej1 (by decide) ?_
    refine lv_bipush (v := -2) hx hb (dAt dX6_count 61 rfl) (by decide) ?_
    exact x_iret C hw hr hlk h (dAt dX6_count 62 rfl)
