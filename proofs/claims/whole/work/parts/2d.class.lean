def tX6_digestOfBeats : List (Nat × Instr × Nat) := [(0, .lload_n 1, 1), (1, .lstore_n 3, 1), (2, .iconst 0, 1), (3, .istore 5, 2), (5, .iload 5, 2), (7, .bipush 24, 2), (9, .if_icmp .ge 53, 3), (12, .ldc2_w 299, 3), (15, .lload_n 3, 1), (16, .lmul, 1), (17, .aload_n 0, 1), (18, .iload 5, 2), (20, .invokevirtual 351, 3), (23, .i2l, 1), (24, .ladd, 1), (25, .lstore_n 3, 1), (26, .ldc2_w 299, 3), (29, .lload_n 3, 1), (30, .lmul, 1), (31, .aload_n 0, 1), (32, .iload 5, 2), (34, .iconst 0, 1), (35, .invokevirtual 354, 3), (38, .i2l, 1), (39, .ladd, 1), (40, .lstore_n 3, 1), (41, .ldc2_w 299, 3), (44, .lload_n 3, 1), (45, .lmul, 1), (46, .aload_n 0, 1), (47, .iload 5, 2), (49, .iconst 1, 1), (50, .invokevirtual 354, 3), (53, .i2l, 1), (54, .ladd, 1), (55, .lstore_n 3, 1), (56, .iinc 5 1, 3), (59, .goto (-54), 3), (62, .iconst 0, 1), (63, .istore 5, 2), (65, .iload 5, 2), (67, .bipush 24, 2), (69, .if_icmp .ge 40, 3), (72, .iconst 0, 1), (73, .istore 6, 2), (75, .iload 6, 2), (77, .iconst 2, 1), (78, .if_icmp .gt 25, 3), (81, .ldc2_w 299, 3), (84, .lload_n 3, 1), (85, .lmul, 1), (86, .aload_n 0, 1), (87, .iload 5, 2), (89, .iload 6, 2), (91, .invokevirtual 357, 3), (94, .i2l, 1), (95, .ladd, 1), (96, .lstore_n 3, 1), (97, .iinc 6 1, 3), (100, .goto (-25), 3), (103, .iinc 5 1, 3), (106, .goto (-41), 3), (109, .iconst 0, 1), (110, .istore 5, 2), (112, .iload 5, 2), (114, .bipush 10, 2), (116, .if_icmp .ge 23, 3), (119, .ldc2_w 299, 3), (122, .lload_n 3, 1), (123, .lmul, 1), (124, .aload_n 0, 1), (125, .iload 5, 2), (127, .invokevirtual 360, 3), (130, .i2l, 1), (131, .ladd, 1), (132, .lstore_n 3, 1), (133, .iinc 5 1, 3), (136, .goto (-24), 3), (139, .lload_n 3, 1), (140, .lreturn, 1)]
theorem dX6_digestOfBeats : dOk cX6_digestOfBeats tX6_digestOfBeats = true := by decide +kernel
abbrev rX6_digestOfBeats : Room := { frames := 5, cells := 0, slots := 0, locals := 138 }
def wX6_digestOfBeats_112 (Q : Int64 → Mem → Prop) : Nat → Int64 → Int32 → Mem → Prop
  | 0, _, _, _ => False
  | n + 1, x3, x5, σ => ((((10 : Int32) ≤ x5) → (Q x3 σ)) ∧ ((¬ (10 : Int32) ≤ x5) → (wX6_shows x5 σ (fun r127 σ127 => (∀ x3_132 : Int64, x3_132 = (((31 : Int64) * x3) + ((r127).toInt64)) → (wX6_digestOfBeats_112 Q n x3_132 (x5 + (1 : Int32)) σ127))))))
def wX6_digestOfBeats_75 (K65 : Int64 → Int32 → Mem → Prop) (Q : Int64 → Mem → Prop) : Nat → Int64 → Int32 → Int32 → Mem → Prop
  | 0, _, _, _, _ => False
  | n + 1, x3, x5, x6, σ => ((((2 : Int32) < x6) → (K65 x3 (x5 + (1 : Int32)) σ)) ∧ ((¬ (2 : Int32) < x6) → (wX6_weave x5 x6 σ (fun r91 σ91 => (∀ x3_96 : Int64, x3_96 = (((31 : Int64) * x3) + ((r91).toInt64)) → (wX6_digestOfBeats_75 K65 Q n x3_96 x5 (x6 + (1 : Int32)) σ91))))))
def wX6_digestOfBeats_65 (Q : Int64 → Mem → Prop) : Nat → Int64 → Int32 → Mem → Prop
  | 0, _, _, _ => False
  | n + 1, x3, x5, σ => ((((24 : Int32) ≤ x5) → (∃ N112, wX6_digestOfBeats_112 Q N112 x3 (0 : Int32) σ)) ∧ ((¬ (24 : Int32) ≤ x5) → (∃ N75, wX6_digestOfBeats_75 (fun x3 x5 ρ => wX6_digestOfBeats_65 Q n x3 x5 ρ) Q N75 x3 x5 (0 : Int32) σ)))
def wX6_digestOfBeats_5 (Q : Int64 → Mem → Prop) : Nat → Int64 → Int32 → Mem → Prop
  | 0, _, _, _ => False
  | n + 1, x3, x5, σ => ((((24 : Int32) ≤ x5) → (∃ N65, wX6_digestOfBeats_65 Q N65 x3 (0 : Int32) σ)) ∧ ((¬ (24 : Int32) ≤ x5) → (wX6_steps x5 σ (fun r20 σ20 => (∀ x3_25 : Int64, x3_25 = (((31 : Int64) * x3) + ((r20).toInt64)) → (wX6_high x5 (0 : Int32) σ20 (fun r35 σ35 => (∀ x3_40 : Int64, x3_40 = (((31 : Int64) * x3_25) + ((r35).toInt64)) → (wX6_high x5 (1 : Int32) σ35 (fun r50 σ50 => (∀ x3_55 : Int64, x3_55 = (((31 : Int64) * x3_40) + ((r50).toInt64)) → (wX6_digestOfBeats_5 Q n x3_55 (x5 + (1 : Int32)) σ50))))))))))))
def wX6_digestOfBeats (x1 : Int64) (σ : Mem) (Q : Int64 → Mem → Prop) : Prop := (∃ N5, wX6_digestOfBeats_5 Q N5 x1 (0 : Int32) σ)
set_option maxHeartbeats 4000000 in
set_option maxRecDepth 100000 in
theorem kX6_digestOfBeats_112 {p : Program} {l : Launch} {e : Env} {s : State} {m : MethodId} {args : Array Value} {below : List Frame} {meth : Method} {c : Code} {E : wE} (hE : wX E) (C : Cx p s m args c cX6_digestOfBeats 7 RX6 E (wA E)) (hr : meth.sig.returnType = (some .long)) (hlk : meth.locks = false) {Q : Int64 → Mem → Prop} : ∀ (n : Nat) (x3 : Int64) (x5 : Int32) (σ : Mem) (H : Heap) (locs : List Loc) (ls : Array Slot), wd E (wA E) s σ H locs → lv_has ls 7 [(0, .ref (gE E 0)), (3, .long x3), (5, .int x5)] → wX6_digestOfBeats_112 Q n x3 x5 σ → W p l e rX6_digestOfBeats s m args below meth c H locs 0 0 (MQ below (wQl E Q) args s 0 0 (wA E)) (F0 m 112 ls []) := by
  have hx := C.1.1
  have hb := C.1.2.1
  intro n
  induction n with
  | zero =>
    intro x3 x5 σ  H locs ls hw hl h
    exact h.elim
  | succ n ih =>
    intro x3 x5 σ  H locs ls hw hl h
    rw [wX6_digestOfBeats_112] at h
    refine lv_iload hx hb (dAt dX6_digestOfBeats 64 rfl) (lv_at hl 2 rfl) ?_
    refine lv_bipush (v := 10) hx hb (dAt dX6_digestOfBeats 65 rfl) (by decide) ?_
    refine lv_icmp_ge (tgt := 139) hx hb (dAt dX6_digestOfBeats 66 rfl) (by decide) (fun c116 => ?_) (fun c116 => ?_)
    · replace h := h.1 c116
      refine lv_lload_n hx hb (dAt dX6_digestOfBeats 78 rfl) rfl (lv_at hl 1 rfl) ?_
      exact x_lret C hw hr hlk h (dAt dX6_digestOfBeats 79 rfl)
    · replace h := h.2 c116
      refine lv_ldc2 (v := 31) hx hb C.1.2.2.2.1 (C.1.2.2.2.2 _ ck_X6_299) (dAt dX6_digestOfBeats 67 rfl) ?_
      refine lv_lload_n hx hb (dAt dX6_digestOfBeats 68 rfl) rfl (lv_at hl 1 rfl) ?_
      refine lv_lmul hx hb (dAt dX6_digestOfBeats 69 rfl) ?_
      refine lv_aload_n hx hb (dAt dX6_digestOfBeats 70 rfl) rfl (lv_at hl 0 rfl) ?_
      refine lv_iload hx hb (dAt dX6_digestOfBeats 71 rfl) (lv_at hl 2 rfl) ?_
      refine x_calli C hw (x_runV (As := [.int x5]) (rest := [.long ((31 : Int64) * x3)]) C hw (kX6_shows l E hE x5 σ _ h) mtX6_shows lk_X6_360 (hE.1 0) (nX hE (by decide)) rfl ⟨by decide, by decide⟩ ⟨rfl, rfl⟩ rfl hl.1 rfl (Nat.le_of_ble_eq_true rfl) (dAt dX6_digestOfBeats 72 rfl) ⟨Nat.zero_le _, Nat.zero_le _⟩) (fun r127 σ127 H locs h hw => ?_)
      refine lv_i2l hx hb (dAt dX6_digestOfBeats 73 rfl) rfl ?_
      refine lv_ladd hx hb (dAt dX6_digestOfBeats 74 rfl) ?_
      refine lv_topl (fun x3_132 ex3_132 => ?_)
      replace h := h x3_132 ex3_132
      refine lv_lstore_n (lv' := [(3, .long x3_132), (0, .ref (gE E 0)), (5, .int x5)]) hx hb (dAt dX6_digestOfBeats 75 rfl) rfl hl (by decide) rfl (fun ls hl => ?_)
      refine lv_iinc (v := (x5 + (1 : Int32))) (lv' := [(5, .int (x5 + (1 : Int32))), (3, .long x3_132), (0, .ref (gE E 0))]) hx hb (dAt dX6_digestOfBeats 76 rfl) hl (k := 2) rfl rfl (by decide) rfl (fun ls hl => ?_)
      refine lv_goto (tgt := 112) hx hb (dAt dX6_digestOfBeats 77 rfl) (by decide) ?_
      exact ih x3_132 (x5 + (1 : Int32)) σ127  _ _ _ hw (lv_sub hl [2, 1, 0] rfl) h
set_option maxHeartbeats 4000000 in
set_option maxRecDepth 100000 in
theorem kX6_digestOfBeats_75 {p : Program} {l : Launch} {e : Env} {s : State} {m : MethodId} {args : Array Value} {below : List Frame} {meth : Method} {c : Code} {E : wE} (hE : wX E) (C : Cx p s m args c cX6_digestOfBeats 7 RX6 E (wA E)) (hr : meth.sig.returnType = (some .long)) (hlk : meth.locks = false) {Q : Int64 → Mem → Prop} {K65 : Int64 → Int32 → Mem → Prop} (hK65 : ∀ (x3 : Int64) (x5 : Int32) (σ : Mem) (H : Heap) (locs : List Loc) (ls : Array Slot), wd E (wA E) s σ H locs → lv_has ls 7 [(0, .ref (gE E 0)), (3, .long x3), (5, .int x5)] → K65 x3 x5 σ → W p l e rX6_digestOfBeats s m args below meth c H locs 0 0 (MQ below (wQl E Q) args s 0 0 (wA E)) (F0 m 65 ls [])) : ∀ (n : Nat) (x3 : Int64) (x5 : Int32) (x6 : Int32) (σ : Mem) (H : Heap) (locs : List Loc) (ls : Array Slot), wd E (wA E) s σ H locs → lv_has ls 7 [(0, .ref (gE E 0)), (3, .long x3), (5, .int x5), (6, .int x6)] → wX6_digestOfBeats_75 K65 Q n x3 x5 x6 σ → W p l e rX6_digestOfBeats s m args below meth c H locs 0 0 (MQ below (wQl E Q) args s 0 0 (wA E)) (F0 m 75 ls []) := by
  have hx := C.1.1
  have hb := C.1.2.1
  intro n
  induction n with
  | zero =>
    intro x3 x5 x6 σ  H locs ls hw hl h
    exact h.elim
  | succ n ih =>
    intro x3 x5 x6 σ  H locs ls hw hl h
    rw [wX6_digestOfBeats_75] at h
    refine lv_iload hx hb (dAt dX6_digestOfBeats 45 rfl) (lv_at hl 3 rfl) ?_
    refine lv_iconst (v := 2) hx hb (dAt dX6_digestOfBeats 46 rfl) (by decide) ?_
    refine lv_icmp_gt (tgt := 103) hx hb (dAt dX6_digestOfBeats 47 rfl) (by decide) (fun c78 => ?_) (fun c78 => ?_)
    · replace h := h.1 c78
      refine lv_iinc (v := (x5 + (1 : Int32))) (lv' := [(5, .int (x5 + (1 : Int32))), (0, .ref (gE E 0)), (3, .long x3), (6, .int x6)]) hx hb (dAt dX6_digestOfBeats 60 rfl) hl (k := 2) rfl rfl (by decide) rfl (fun ls hl => ?_)
      refine lv_goto (tgt := 65) hx hb (dAt dX6_digestOfBeats 61 rfl) (by decide) ?_
      exact hK65 x3 (x5 + (1 : Int32)) σ  _ _ _ hw (lv_sub hl [1, 2, 0] rfl) h
    · replace h := h.2 c78
      refine lv_ldc2 (v := 31) hx hb C.1.2.2.2.1 (C.1.2.2.2.2 _ ck_X6_299) (dAt dX6_digestOfBeats 48 rfl) ?_
      refine lv_lload_n hx hb (dAt dX6_digestOfBeats 49 rfl) rfl (lv_at hl 1 rfl) ?_
      refine lv_lmul hx hb (dAt dX6_digestOfBeats 50 rfl) ?_
      refine lv_aload_n hx hb (dAt dX6_digestOfBeats 51 rfl) rfl (lv_at hl 0 rfl) ?_
      refine lv_iload hx hb (dAt dX6_digestOfBeats 52 rfl) (lv_at hl 2 rfl) ?_
      refine lv_iload hx hb (dAt dX6_digestOfBeats 53 rfl) (lv_at hl 3 rfl) ?_
      refine x_calli C hw (x_runV (As := [.int x5, .int x6]) (rest := [.long ((31 : Int64) * x3)]) C hw (kX6_weave l E hE x5 x6 σ _ h) mtX6_weave lk_X6_357 (hE.1 0) (nX hE (by decide)) rfl ⟨by decide, by decide⟩ ⟨rfl, rfl⟩ rfl hl.1 rfl (Nat.le_of_ble_eq_true rfl) (dAt dX6_digestOfBeats 54 rfl) ⟨Nat.zero_le _, Nat.zero_le _⟩) (fun r91 σ91 H locs h hw => ?_)
      refine lv_i2l hx hb (dAt dX6_digestOfBeats 55 rfl) rfl ?_
      refine lv_ladd hx hb (dAt dX6_digestOfBeats 56 rfl) ?_
      refine lv_topl (fun x3_96 ex3_96 => ?_)
      replace h := h x3_96 ex3_96
      refine lv_lstore_n (lv' := [(3, .long x3_96), (0, .ref (gE E 0)), (5, .int x5), (6, .int x6)]) hx hb (dAt dX6_digestOfBeats 57 rfl) rfl hl (by decide) rfl (fun ls hl => ?_)
      refine lv_iinc (v := (x6 + (1 : Int32))) (lv' := [(6, .int (x6 + (1 : Int32))), (3, .long x3_96), (0, .ref (gE E 0)), (5, .int x5)]) hx hb (dAt dX6_digestOfBeats 58 rfl) hl (k := 3) rfl rfl (by decide) rfl (fun ls hl => ?_)
      refine lv_goto (tgt := 75) hx hb (dAt dX6_digestOfBeats 59 rfl) (by decide) ?_
      exact ih x3_96 x5 (x6 + (1 : Int32)) σ91  _ _ _ hw (lv_sub hl [2, 1, 3, 0] rfl) h
set_option maxHeartbeats 4000000 in
set_option maxRecDepth 100000 in
theorem kX6_digestOfBeats_65 {p : Program} {l : Launch} {e : Env} {s : State} {m : MethodId} {args : Array Value} {below : List Frame} {meth : Method} {c : Code} {E : wE} (hE : wX E) (C : Cx p s m args c cX6_digestOfBeats 7 RX6 E (wA E)) (hr : meth.sig.returnType = (some .long)) (hlk : meth.locks = false) {Q : Int64 → Mem → Prop} : ∀ (n : Nat) (x3 : Int64) (x5 : Int32) (σ : Mem) (H : Heap) (locs : List Loc) (ls : Array Slot), wd E (wA E) s σ H locs → lv_has ls 7 [(0, .ref (gE E 0)), (3, .long x3), (5, .int x5)] → wX6_digestOfBeats_65 Q n x3 x5 σ → W p l e rX6_digestOfBeats s m args below meth c H locs 0 0 (MQ below (wQl E Q) args s 0 0 (wA E)) (F0 m 65 ls []) := by
  have hx := C.1.1
  have hb := C.1.2.1
  intro n
  induction n with
  | zero =>
    intro x3 x5 σ  H locs ls hw hl h
    exact h.elim
  | succ n ih =>
    intro x3 x5 σ  H locs ls hw hl h
    rw [wX6_digestOfBeats_65] at h
    refine lv_iload hx hb (dAt dX6_digestOfBeats 40 rfl) (lv_at hl 2 rfl) ?_
    refine lv_bipush (v := 24) hx hb (dAt dX6_digestOfBeats 41 rfl) (by decide) ?_
    refine lv_icmp_ge (tgt := 109) hx hb (dAt dX6_digestOfBeats 42 rfl) (by decide) (fun c69 => ?_) (fun c69 => ?_)
    · replace h := h.1 c69
      refine lv_iconst (v := 0) hx hb (dAt dX6_digestOfBeats 62 rfl) (by decide) ?_
      refine lv_istore (lv' := [(5, .int (0 : Int32)), (0, .ref (gE E 0)), (3, .long x3)]) hx hb (dAt dX6_digestOfBeats 63 rfl) hl (by decide) rfl (fun ls hl => ?_)
      obtain ⟨n112, h⟩ := h
      exact kX6_digestOfBeats_112 hE C hr hlk n112 x3 (0 : Int32) σ  _ _ _ hw (lv_sub hl [1, 2, 0] rfl) h
    · replace h := h.2 c69
      refine lv_iconst (v := 0) hx hb (dAt dX6_digestOfBeats 43 rfl) (by decide) ?_
      refine lv_istore (lv' := [(6, .int (0 : Int32)), (0, .ref (gE E 0)), (3, .long x3), (5, .int x5)]) hx hb (dAt dX6_digestOfBeats 44 rfl) hl (by decide) rfl (fun ls hl => ?_)
      obtain ⟨n75, h⟩ := h
      exact kX6_digestOfBeats_75 hE C hr hlk ih n75 x3 x5 (0 : Int32) σ  _ _ _ hw (lv_sub hl [1, 2, 3, 0] rfl) h
set_option maxHeartbeats 4000000 in
set_option maxRecDepth 100000 in
theorem kX6_digestOfBeats_5 {p : Program} {l : Launch} {e : Env} {s : State} {m : MethodId} {args : Array Value} {below : List Frame} {meth : Method} {c : Code} {E : wE} (hE : wX E) (C : Cx p s m args c cX6_digestOfBeats 7 RX6 E (wA E)) (hr : meth.sig.returnType = (some .long)) (hlk : meth.locks = false) {Q : Int64 → Mem → Prop} : ∀ (n : Nat) (x3 : Int64) (x5 : Int32) (σ : Mem) (H : Heap) (locs : List Loc) (ls : Array Slot), wd E (wA E) s σ H locs → lv_has ls 7 [(0, .ref (gE E 0)), (3, .long x3), (5, .int x5)] → wX6_digestOfBeats_5 Q n x3 x5 σ → W p l e rX6_digestOfBeats s m args below meth c H locs 0 0 (MQ below (wQl E Q) args s 0 0 (wA E)) (F0 m 5 ls []) := by
  have hx := C.1.1
  have hb := C.1.2.1
  intro n
  induction n with
  | zero =>
    intro x3 x5 σ  H locs ls hw hl h
    exact h.elim
  | succ n ih =>
    intro x3 x5 σ  H locs ls hw hl h
    rw [wX6_digestOfBeats_5] at h
    refine lv_iload hx hb (dAt dX6_digestOfBeats 4 rfl) (lv_at hl 2 rfl) ?_
    refine lv_bipush (v := 24) hx hb (dAt dX6_digestOfBeats 5 rfl) (by decide) ?_
    refine lv_icmp_ge (tgt := 62) hx hb (dAt dX6_digestOfBeats 6 rfl) (by decide) (fun c9 => ?_) (fun c9 => ?_)
    · replace h := h.1 c9
      refine lv_iconst (v := 0) hx hb (dAt dX6_digestOfBeats 38 rfl) (by decide) ?_
      refine lv_istore (lv' := [(5, .int (0 : Int32)), (0, .ref (gE E 0)), (3, .long x3)]) hx hb (dAt dX6_digestOfBeats 39 rfl) hl (by decide) rfl (fun ls hl => ?_)
      obtain ⟨n65, h⟩ := h
      exact kX6_digestOfBeats_65 hE C hr hlk n65 x3 (0 : Int32) σ  _ _ _ hw (lv_sub hl [1, 2, 0] rfl) h
    · replace h := h.2 c9
      refine lv_ldc2 (v := 31) hx hb C.1.2.2.2.1 (C.1.2.2.2.2 _ ck_X6_299) (dAt dX6_digestOfBeats 7 rfl) ?_
      refine lv_lload_n hx hb (dAt dX6_digestOfBeats 8 rfl) rfl (lv_at hl 1 rfl) ?_
      refine lv_lmul hx hb (dAt dX6_digestOfBeats 9 rfl) ?_
      refine lv_aload_n hx hb (dAt dX6_digestOfBeats 10 rfl) rfl (lv_at hl 0 rfl) ?_
      refine lv_iload hx hb (dAt dX6_digestOfBeats 11 rfl) (lv_at hl 2 rfl) ?_
      refine x_calli C hw (x_runV (As := [.int x5]) (rest := [.long ((31 : Int64) * x3)]) C hw (kX6_steps l E hE x5 σ _ h) mtX6_steps lk_X6_351 (hE.1 0) (nX hE (by decide)) rfl ⟨by decide, by decide⟩ ⟨rfl, rfl⟩ rfl hl.1 rfl (Nat.le_of_ble_eq_true rfl) (dAt dX6_digestOfBeats 12 rfl) ⟨Nat.zero_le _, Nat.zero_le _⟩) (fun r20 σ20 H locs h hw => ?_)
      refine lv_i2l hx hb (dAt dX6_digestOfBeats 13 rfl) rfl ?_
      refine lv_ladd hx hb (dAt dX6_digestOfBeats 14 rfl) ?_
      refine lv_topl (fun x3_25 ex3_25 => ?_)
      replace h := h x3_25 ex3_25
      refine lv_lstore_n (lv' := [(3, .long x3_25), (0, .ref (gE E 0)), (5, .int x5)]) hx hb (dAt dX6_digestOfBeats 15 rfl) rfl hl (by decide) rfl (fun ls hl => ?_)
      refine lv_ldc2 (v := 31) hx hb C.1.2.2.2.1 (C.1.2.2.2.2 _ ck_X6_299) (dAt dX6_digestOfBeats 16 rfl) ?_
      refine lv_lload_n hx hb (dAt dX6_digestOfBeats 17 rfl) rfl (lv_at hl 0 rfl) ?_
      refine lv_lmul hx hb (dAt dX6_digestOfBeats 18 rfl) ?_
      refine lv_aload_n hx hb (dAt dX6_digestOfBeats 19 rfl) rfl (lv_at hl 1 rfl) ?_
      refine lv_iload hx hb (dAt dX6_digestOfBeats 20 rfl) (lv_at hl 2 rfl) ?_
      refine lv_iconst (v := 0) hx hb (dAt dX6_digestOfBeats 21 rfl) (by decide) ?_
      refine x_calli C hw (x_runV (As := [.int x5, .int (0 : Int32)]) (rest := [.long ((31 : Int64) * x3_25)]) C hw (kX6_high l E hE x5 (0 : Int32) σ20 _ h) mtX6_high lk_X6_354 (hE.1 0) (nX hE (by decide)) rfl ⟨by decide, by decide⟩ ⟨rfl, rfl⟩ rfl hl.1 rfl (Nat.le_of_ble_eq_true rfl) (dAt dX6_digestOfBeats 22 rfl) ⟨Nat.zero_le _, Nat.zero_le _⟩) (fun r35 σ35 H locs h hw => ?_)
      refine lv_i2l hx hb (dAt dX6_digestOfBeats 23 rfl) rfl ?_
      refine lv_ladd hx hb (dAt dX6_digestOfBeats 24 rfl) ?_
      refine lv_topl (fun x3_40 ex3_40 => ?_)
      replace h := h x3_40 ex3_40
      refine lv_lstore_n (lv' := [(3, .long x3_40), (0, .ref (gE E 0)), (5, .int x5)]) hx hb (dAt dX6_digestOfBeats 25 rfl) rfl hl (by decide) rfl (fun ls hl => ?_)
      refine lv_ldc2 (v := 31) hx hb C.1.2.2.2.1 (C.1.2.2.2.2 _ ck_X6_299) (dAt dX6_digestOfBeats 26 rfl) ?_
      refine lv_lload_n hx hb (dAt dX6_digestOfBeats 27 rfl) rfl (lv_at hl 0 rfl) ?_
      refine lv_lmul hx hb (dAt dX6_digestOfBeats 28 rfl) ?_
      refine lv_aload_n hx hb (dAt dX6_digestOfBeats 29 rfl) rfl (lv_at hl 1 rfl) ?_
      refine lv_iload hx hb (dAt dX6_digestOfBeats 30 rfl) (lv_at hl 2 rfl) ?_
      refine lv_iconst (v := 1) hx hb (dAt dX6_digestOfBeats 31 rfl) (by decide) ?_
      refine x_calli C hw (x_runV (As := [.int x5, .int (1 : Int32)]) (rest := [.long ((31 : Int64) * x3_40)]) C hw (kX6_high l E hE x5 (1 : Int32) σ35 _ h) mtX6_high lk_X6_354 (hE.1 0) (nX hE (by decide)) rfl ⟨by decide, by decide⟩ ⟨rfl, rfl⟩ rfl hl.1 rfl (Nat.le_of_ble_eq_true rfl) (dAt dX6_digestOfBeats 32 rfl) ⟨Nat.zero_le _, Nat.zero_le _⟩) (fun r50 σ50 H locs h hw => ?_)
      refine lv_i2l hx hb (dAt dX6_digestOfBeats 33 rfl) rfl ?_
      refine lv_ladd hx hb (dAt dX6_digestOfBeats 34 rfl) ?_
      refine lv_topl (fun x3_55 ex3_55 => ?_)
      replace h := h x3_55 ex3_55
      refine lv_lstore_n (lv' := [(3, .long x3_55), (0, .ref (gE E 0)), (5, .int x5)]) hx hb (dAt dX6_digestOfBeats 35 rfl) rfl hl (by decide) rfl (fun ls hl => ?_)
      refine lv_iinc (v := (x5 + (1 : Int32))) (lv' := [(5, .int (x5 + (1 : Int32))), (3, .long x3_55), (0, .ref (gE E 0))]) hx hb (dAt dX6_digestOfBeats 36 rfl) hl (k := 2) rfl rfl (by decide) rfl (fun ls hl => ?_)
      refine lv_goto (tgt := 5) hx hb (dAt dX6_digestOfBeats 37 rfl) (by decide) ?_
      exact ih x3_55 (x5 + (1 : Int32)) σ50  _ _ _ hw (lv_sub hl [2, 1, 0] rfl) h
set_option maxHeartbeats 4000000 in
set_option maxRecDepth 100000 in
theorem kX6_digestOfBeats (l : Launch) (E : wE) (hE : wX E) (x1 : Int64) (σ : Mem) (Q : Int64 → Mem → Prop) (h : wX6_digestOfBeats x1 σ Q) : Met l yX6_digestOfBeats (Cond.code yX6_digestOfBeats cX6_digestOfBeats 7 (some .long) :: TB) rX6_digestOfBeats (wPc E σ [.ref (gE E 0), .long x1]) (wQl E Q) 0 0 (wA E) := by
  refine wMet (by decide) hE.2.2 (Nat.le_of_ble_eq_true rfl) ?_
  intro p e s m args below meth c ls C hr hlk hl hw
  have hx := C.1.1
  have hb := C.1.2.1
  replace C : Cx p s m args c cX6_digestOfBeats 7 RX6 E (wA E) := C
  replace hl : lv_has ls 7 [(0, .ref (gE E 0)), (1, .long x1)] := hl
  unfold wX6_digestOfBeats at h
  refine lv_lload_n hx hb (dAt dX6_digestOfBeats 0 rfl) rfl (lv_at hl 1 rfl) ?_
  refine lv_lstore_n (lv' := [(3, .long x1), (0, .ref (gE E 0)), (1, .long x1)]) hx hb (dAt dX6_digestOfBeats 1 rfl) rfl hl (by decide) rfl (fun ls hl => ?_)
  refine lv_iconst (v := 0) hx hb (dAt dX6_digestOfBeats 2 rfl) (by decide) ?_
  refine lv_istore (lv' := [(5, .int (0 : Int32)), (3, .long x1), (0, .ref (gE E 0)), (1, .long x1)]) hx hb (dAt dX6_digestOfBeats 3 rfl) hl (by decide) rfl (fun ls hl => ?_)
  obtain ⟨n5, h⟩ := h
  exact kX6_digestOfBeats_5 hE C hr hlk n5 x1 (0 : Int32) σ  _ _ _ hw (lv_sub hl [2, 1, 0] rfl) h
def tX6_digestOfDancer : List (Nat × Instr × Nat) := [(0, .lload_n 1, 1), (1, .lstore 4, 2), (3, .iconst 0, 1), (4, .istore 6, 2), (6, .iload 6, 2), (8, .iconst 2, 1), (9, .if_icmp .gt 26, 3), (12, .ldc2_w 299, 3), (15, .lload 4, 2), (17, .lmul, 1), (18, .aload_n 0, 1), (19, .iload_n 3, 1), (20, .iload 6, 2), (22, .invokevirtual 363, 3), (25, .i2l, 1), (26, .ladd, 1), (27, .lstore 4, 2), (29, .iinc 6 1, 3), (32, .goto (-26), 3), (35, .getstatic 366, 3), (38, .astore 6, 2), (40, .aload 6, 2), (42, .arraylength, 1), (43, .istore 7, 2), (45, .iconst 0, 1), (46, .istore 8, 2), (48, .iload 8, 2), (50, .iload 7, 2), (52, .if_icmp .ge 50, 3), (55, .aload 6, 2), (57, .iload 8, 2), (59, .iaload, 1), (60, .istore 9, 2), (62, .iconst 0, 1), (63, .istore 10, 2), (65, .iload 10, 2), (67, .iconst 2, 1), (68, .if_icmp .gt 28, 3), (71, .ldc2_w 299, 3), (74, .lload 4, 2), (76, .lmul, 1), (77, .aload_n 0, 1), (78, .iload 9, 2), (80, .iload_n 3, 1), (81, .iload 10, 2), (83, .invokevirtual 369, 3), (86, .i2l, 1), (87, .ladd, 1), (88, .lstore 4, 2), (90, .iinc 10 1, 3), (93, .goto (-28), 3), (96, .iinc 8 1, 3), (99, .goto (-51), 3), (102, .ldc2_w 299, 3), (105, .lload 4, 2), (107, .lmul, 1), (108, .aload_n 0, 1), (109, .iload_n 3, 1), (110, .iconst 0, 1), (111, .invokevirtual 372, 3), (114, .i2l, 1), (115, .ladd, 1), (116, .lstore 4, 2), (118, .ldc2_w 299, 3), (121, .lload 4, 2), (123, .lmul, 1), (124, .aload_n 0, 1), (125, .iload_n 3, 1), (126, .iconst 1, 1), (127, .invokevirtual 372, 3), (130, .i2l, 1), (131, .ladd, 1), (132, .lstore 4, 2), (134, .ldc2_w 299, 3), (137, .lload 4, 2), (139, .lmul, 1), (140, .aload_n 0, 1), (141, .iload_n 3, 1), (142, .iconst 0, 1), (143, .invokevirtual 375, 3), (146, .i2l, 1), (147, .ladd, 1), (148, .lstore 4, 2), (150, .ldc2_w 299, 3), (153, .lload 4, 2), (155, .lmul, 1), (156, .aload_n 0, 1), (157, .iload_n 3, 1), (158, .iconst 1, 1), (159, .invokevirtual 375, 3), (162, .i2l, 1), (163, .ladd, 1), (164, .lstore 4, 2), (166, .ldc2_w 299, 3), (169, .lload 4, 2), (171, .lmul, 1), (172, .aload_n 0, 1), (173, .iload_n 3, 1), (174, .invokevirtual 378, 3), (177, .i2l, 1), (178, .ladd, 1), (179, .lreturn, 1)]
theorem dX6_digestOfDancer : dOk cX6_digestOfDancer tX6_digestOfDancer = true := by decide +kernel
abbrev rX6_digestOfDancer : Room := { frames := 5, cells := 0, slots := 0, locals := 141 }
def wX6_digestOfDancer_102 (Q : Int64 → Mem → Prop) (x3 : Int32) (x4 : Int64) (σ : Mem) : Prop := (wX6_begin x3 (0 : Int32) σ (fun r111 σ111 => (∀ x4_116 : Int64, x4_116 = (((31 : Int64) * x4) + ((r111).toInt64)) → (wX6_begin x3 (1 : Int32) σ111 (fun r127 σ127 => (∀ x4_132 : Int64, x4_132 = (((31 : Int64) * x4_116) + ((r127).toInt64)) → (wX6_dress x3 (0 : Int32) σ127 (fun r143 σ143 => (∀ x4_148 : Int64, x4_148 = (((31 : Int64) * x4_132) + ((r143).toInt64)) → (wX6_dress x3 (1 : Int32) σ143 (fun r159 σ159 => (∀ x4_164 : Int64, x4_164 = (((31 : Int64) * x4_148) + ((r159).toInt64)) → (wX6_ways x3 σ159 (fun r174 σ174 => (Q (((31 : Int64) * x4_164) + ((r174).toInt64)) σ174)))))))))))))))
def wX6_digestOfDancer_65 (K48 : Int32 → Int64 → Int32 → Int32 → Mem → Prop) (Q : Int64 → Mem → Prop) : Nat → Int32 → Int64 → Int32 → Int32 → Int32 → Int32 → Mem → Prop
  | 0, _, _, _, _, _, _, _ => False
  | n + 1, x3, x4, x7, x8, x9, x10, σ => ((((2 : Int32) < x10) → (K48 x3 x4 x7 (x8 + (1 : Int32)) σ)) ∧ ((¬ (2 : Int32) < x10) → (wX6_at x9 x3 x10 σ (fun r83 σ83 => (∀ x4_88 : Int64, x4_88 = (((31 : Int64) * x4) + ((r83).toInt64)) → (wX6_digestOfDancer_65 K48 Q n x3 x4_88 x7 x8 x9 (x10 + (1 : Int32)) σ83))))))
def wX6_digestOfDancer_48 (Q : Int64 → Mem → Prop) : Nat → Int32 → Int64 → Int32 → Int32 → Mem → Prop
  | 0, _, _, _, _, _ => False
  | n + 1, x3, x4, x7, x8, σ => (((x7 ≤ x8) → (wX6_digestOfDancer_102 Q x3 x4 σ)) ∧ ((¬ x7 ≤ x8) → (vp_in x8 4 ∧ (∀ x9_60 : Int32, x9_60 = (stPi (x8).toNatClampNeg) → (∃ N65, wX6_digestOfDancer_65 (fun x3 x4 x7 x8 ρ => wX6_digestOfDancer_48 Q n x3 x4 x7 x8 ρ) Q N65 x3 x4 x7 x8 x9_60 (0 : Int32) σ)))))
def wX6_digestOfDancer_35 (Q : Int64 → Mem → Prop) (x3 : Int32) (x4 : Int64) (σ : Mem) : Prop := (∃ N48, wX6_digestOfDancer_48 Q N48 x3 x4 (4 : Int32) (0 : Int32) σ)
def wX6_digestOfDancer_6 (Q : Int64 → Mem → Prop) : Nat → Int32 → Int64 → Int32 → Mem → Prop
  | 0, _, _, _, _ => False
  | n + 1, x3, x4, x6, σ => ((((2 : Int32) < x6) → (wX6_digestOfDancer_35 Q x3 x4 σ)) ∧ ((¬ (2 : Int32) < x6) → (wX6_dancer x3 x6 σ (fun r22 σ22 => (∀ x4_27 : Int64, x4_27 = (((31 : Int64) * x4) + ((r22).toInt64)) → (wX6_digestOfDancer_6 Q n x3 x4_27 (x6 + (1 : Int32)) σ22))))))
def wX6_digestOfDancer (x1 : Int64) (x3 : Int32) (σ : Mem) (Q : Int64 → Mem → Prop) : Prop := (∃ N6, wX6_digestOfDancer_6 Q N6 x3 x1 (0 : Int32) σ)
set_option maxHeartbeats 4000000 in
set_option maxRecDepth 100000 in
theorem kX6_digestOfDancer_102 {p : Program} {l : Launch} {e : Env} {s : State} {m : MethodId} {args : Array Value} {below : List Frame} {meth : Method} {c : Code} {E : wE} (hE : wX E) (C : Cx p s m args c cX6_digestOfDancer 11 RX6 E (wA E)) (hr : meth.sig.returnType = (some .long)) (hlk : meth.locks = false) {Q : Int64 → Mem → Prop} : ∀ (x3 : Int32) (x4 : Int64) (σ : Mem) (H : Heap) (locs : List Loc) (ls : Array Slot), wd E (wA E) s σ H locs → lv_has ls 11 [(0, .ref (gE E 0)), (3, .int x3), (4, .long x4)] → wX6_digestOfDancer_102 Q x3 x4 σ → W p l e rX6_digestOfDancer s m args below meth c H locs 0 0 (MQ below (wQl E Q) args s 0 0 (wA E)) (F0 m 102 ls []) := by
  have hx := C.1.1
  have hb := C.1.2.1
  intro x3 x4 σ  H locs ls hw hl h
  unfold wX6_digestOfDancer_102 at h
  refine lv_ldc2 (v := 31) hx hb C.1.2.2.2.1 (C.1.2.2.2.2 _ ck_X6_299) (dAt dX6_digestOfDancer 53 rfl) ?_
  refine lv_lload hx hb (dAt dX6_digestOfDancer 54 rfl) (lv_at hl 2 rfl) ?_
  refine lv_lmul hx hb (dAt dX6_digestOfDancer 55 rfl) ?_
  refine lv_aload_n hx hb (dAt dX6_digestOfDancer 56 rfl) rfl (lv_at hl 0 rfl) ?_
  refine lv_iload_n hx hb (dAt dX6_digestOfDancer 57 rfl) rfl (lv_at hl 1 rfl) ?_
  refine lv_iconst (v := 0) hx hb (dAt dX6_digestOfDancer 58 rfl) (by decide) ?_
  refine x_calli C hw (x_runV (As := [.int x3, .int (0 : Int32)]) (rest := [.long ((31 : Int64) * x4)]) C hw (kX6_begin l E hE x3 (0 : Int32) σ _ h) mtX6_begin lk_X6_372 (hE.1 0) (nX hE (by decide)) rfl ⟨by decide, by decide⟩ ⟨rfl, rfl⟩ rfl hl.1 rfl (Nat.le_of_ble_eq_true rfl) (dAt dX6_digestOfDancer 59 rfl) ⟨Nat.zero_le _, Nat.zero_le _⟩) (fun r111 σ111 H locs h hw => ?_)
  refine lv_i2l hx hb (dAt dX6_digestOfDancer 60 rfl) rfl ?_
  refine lv_ladd hx hb (dAt dX6_digestOfDancer 61 rfl) ?_
  refine lv_topl (fun x4_116 ex4_116 => ?_)
  replace h := h x4_116 ex4_116
  refine lv_lstore (lv' := [(4, .long x4_116), (0, .ref (gE E 0)), (3, .int x3)]) hx hb (dAt dX6_digestOfDancer 62 rfl) hl (by decide) rfl (fun ls hl => ?_)
  refine lv_ldc2 (v := 31) hx hb C.1.2.2.2.1 (C.1.2.2.2.2 _ ck_X6_299) (dAt dX6_digestOfDancer 63 rfl) ?_
  refine lv_lload hx hb (dAt dX6_digestOfDancer 64 rfl) (lv_at hl 0 rfl) ?_
  refine lv_lmul hx hb (dAt dX6_digestOfDancer 65 rfl) ?_
  refine lv_aload_n hx hb (dAt dX6_digestOfDancer 66 rfl) rfl (lv_at hl 1 rfl) ?_
  refine lv_iload_n hx hb (dAt dX6_digestOfDancer 67 rfl) rfl (lv_at hl 2 rfl) ?_
  refine lv_iconst (v := 1) hx hb (dAt dX6_digestOfDancer 68 rfl) (by decide) ?_
  refine x_calli C hw (x_runV (As := [.int x3, .int (1 : Int32)]) (rest := [.long ((31 : Int64) * x4_116)]) C hw (kX6_begin l E hE x3 (1 : Int32) σ111 _ h) mtX6_begin lk_X6_372 (hE.1 0) (nX hE (by decide)) rfl ⟨by decide, by decide⟩ ⟨rfl, rfl⟩ rfl hl.1 rfl (Nat.le_of_ble_eq_true rfl) (dAt dX6_digestOfDancer 69 rfl) ⟨Nat.zero_le _, Nat.zero_le _⟩) (fun r127 σ127 H locs h hw => ?_)
  refine lv_i2l hx hb (dAt dX6_digestOfDancer 70 rfl) rfl ?_
  refine lv_ladd hx hb (dAt dX6_digestOfDancer 71 rfl) ?_
  refine lv_topl (fun x4_132 ex4_132 => ?_)
  replace h := h x4_132 ex4_132
  refine lv_lstore (lv' := [(4, .long x4_132), (0, .ref (gE E 0)), (3, .int x3)]) hx hb (dAt dX6_digestOfDancer 72 rfl) hl (by decide) rfl (fun ls hl => ?_)
  refine lv_ldc2 (v := 31) hx hb C.1.2.2.2.1 (C.1.2.2.2.2 _ ck_X6_299) (dAt dX6_digestOfDancer 73 rfl) ?_
  refine lv_lload hx hb (dAt dX6_digestOfDancer 74 rfl) (lv_at hl 0 rfl) ?_
  refine lv_lmul hx hb (dAt dX6_digestOfDancer 75 rfl) ?_
  refine lv_aload_n hx hb (dAt dX6_digestOfDancer 76 rfl) rfl (lv_at hl 1 rfl) ?_
  refine lv_iload_n hx hb (dAt dX6_digestOfDancer 77 rfl) rfl (lv_at hl 2 rfl) ?_
  refine lv_iconst (v := 0) hx hb (dAt dX6_digestOfDancer 78 rfl) (by decide) ?_
  refine x_calli C hw (x_runV (As := [.int x3, .int (0 : Int32)]) (rest := [.long ((31 : Int64) * x4_132)]) C hw (kX6_dress l E hE x3 (0 : Int32) σ127 _ h) mtX6_dress lk_X6_375 (hE.1 0) (nX hE (by decide)) rfl ⟨by decide, by decide⟩ ⟨rfl, rfl⟩ rfl hl.1 rfl (Nat.le_of_ble_eq_true rfl) (dAt dX6_digestOfDancer 79 rfl) ⟨Nat.zero_le _, Nat.zero_le _⟩) (fun r143 σ143 H locs h hw => ?_)
  refine lv_i2l hx hb (dAt dX6_digestOfDancer 80 rfl) rfl ?_
  refine lv_ladd hx hb (dAt dX6_digestOfDancer 81 rfl) ?_
  refine lv_topl (fun x4_148 ex4_148 => ?_)
  replace h := h x4_148 ex4_148
  refine lv_lstore (lv' := [(4, .long x4_148), (0, .ref (gE E 0)), (3, .int x3)]) hx hb (dAt dX6_digestOfDancer 82 rfl) hl (by decide) rfl (fun ls hl => ?_)
  refine lv_ldc2 (v := 31) hx hb C.1.2.2.2.1 (C.1.2.2.2.2 _ ck_X6_299) (dAt dX6_digestOfDancer 83 rfl) ?_
  refine lv_lload hx hb (dAt dX6_digestOfDancer 84 rfl) (lv_at hl 0 rfl) ?_
  refine lv_lmul hx hb (dAt dX6_digestOfDancer 85 rfl) ?_
  refine lv_aload_n hx hb (dAt dX6_digestOfDancer 86 rfl) rfl (lv_at hl 1 rfl) ?_
  refine lv_iload_n hx hb (dAt dX6_digestOfDancer 87 rfl) rfl (lv_at hl 2 rfl) ?_
  refine lv_iconst (v := 1) hx hb (dAt dX6_digestOfDancer 88 rfl) (by decide) ?_
  refine x_calli C hw (x_runV (As := [.int x3, .int (1 : Int32)]) (rest := [.long ((31 : Int64) * x4_148)]) C hw (kX6_dress l E hE x3 (1 : Int32) σ143 _ h) mtX6_dress lk_X6_375 (hE.1 0) (nX hE (by decide)) rfl ⟨by decide, by decide⟩ ⟨rfl, rfl⟩ rfl hl.1 rfl (Nat.le_of_ble_eq_true rfl) (dAt dX6_digestOfDancer 89 rfl) ⟨Nat.zero_le _, Nat.zero_le _⟩) (fun r159 σ159 H locs h hw => ?_)
  refine lv_i2l hx hb (dAt dX6_digestOfDancer 90 rfl) rfl ?_
  refine lv_ladd hx hb (dAt dX6_digestOfDancer 91 rfl) ?_
  refine lv_topl (fun x4_164 ex4_164 => ?_)
  replace h := h x4_164 ex4_164
  refine lv_lstore (lv' := [(4, .long x4_164), (0, .ref (gE E 0)), (3, .int x3)]) hx hb (dAt dX6_digestOfDancer 92 rfl) hl (by decide) rfl (fun ls hl => ?_)
  refine lv_ldc2 (v := 31) hx hb C.1.2.2.2.1 (C.1.2.2.2.2 _ ck_X6_299) (dAt dX6_digestOfDancer 93 rfl) ?_
  refine lv_lload hx hb (dAt dX6_digestOfDancer 94 rfl) (lv_at hl 0 rfl) ?_
  refine lv_lmul hx hb (dAt dX6_digestOfDancer 95 rfl) ?_
  refine lv_aload_n hx hb (dAt dX6_digestOfDancer 96 rfl) rfl (lv_at hl 1 rfl) ?_
  refine lv_iload_n hx hb (dAt dX6_digestOfDancer 97 rfl) rfl (lv_at hl 2 rfl) ?_
  refine x_calli C hw (x_runV (As := [.int x3]) (rest := [.long ((31 : Int64) * x4_164)]) C hw (kX6_ways l E hE x3 σ159 _ h) mtX6_ways lk_X6_378 (hE.1 0) (nX hE (by decide)) rfl ⟨by decide, by decide⟩ ⟨rfl, rfl⟩ rfl hl.1 rfl (Nat.le_of_ble_eq_true rfl) (dAt dX6_digestOfDancer 98 rfl) ⟨Nat.zero_le _, Nat.zero_le _⟩) (fun r174 σ174 H locs h hw => ?_)
  refine lv_i2l hx hb (dAt dX6_digestOfDancer 99 rfl) rfl ?_
  refine lv_ladd hx hb (dAt dX6_digestOfDancer 100 rfl) ?_
  exact x_lret C hw hr hlk h (dAt dX6_digestOfDancer 101 rfl)
set_option maxHeartbeats 4000000 in
set_option maxRecDepth 100000 in
theorem kX6_digestOfDancer_65 {p : Program} {l : Launch} {e : Env} {s : State} {m : MethodId} {args : Array Value} {below : List Frame} {meth : Method} {c : Code} {E : wE} (hE : wX E) (C : Cx p s m args c cX6_digestOfDancer 11 RX6 E (wA E)) (hr : meth.sig.returnType = (some .long)) (hlk : meth.locks = false) {Q : Int64 → Mem → Prop} {K48 : Int32 → Int64 → Int32 → Int32 → Mem → Prop} (hK48 : ∀ (x3 : Int32) (x4 : Int64) (x7 : Int32) (x8 : Int32) (σ : Mem) (H : Heap) (locs : List Loc) (ls : Array Slot), wd E (wA E) s σ H locs → lv_has ls 11 [(0, .ref (gE E 0)), (3, .int x3), (4, .long x4), (6, .ref (aE E).1), (7, .int x7), (8, .int x8)] → K48 x3 x4 x7 x8 σ → W p l e rX6_digestOfDancer s m args below meth c H locs 0 0 (MQ below (wQl E Q) args s 0 0 (wA E)) (F0 m 48 ls [])) : ∀ (n : Nat) (x3 : Int32) (x4 : Int64) (x7 : Int32) (x8 : Int32) (x9 : Int32) (x10 : Int32) (σ : Mem) (H : Heap) (locs : List Loc) (ls : Array Slot), wd E (wA E) s σ H locs → lv_has ls 11 [(0, .ref (gE E 0)), (3, .int x3), (4, .long x4), (6, .ref (aE E).1), (7, .int x7), (8, .int x8), (9, .int x9), (10, .int x10)] → wX6_digestOfDancer_65 K48 Q n x3 x4 x7 x8 x9 x10 σ → W p l e rX6_digestOfDancer s m args below meth c H locs 0 0 (MQ below (wQl E Q) args s 0 0 (wA E)) (F0 m 65 ls []) := by
  have hx := C.1.1
  have hb := C.1.2.1
  intro n
  induction n with
  | zero =>
    intro x3 x4 x7 x8 x9 x10 σ  H locs ls hw hl h
    exact h.elim
  | succ n ih =>
    intro x3 x4 x7 x8 x9 x10 σ  H locs ls hw hl h
    rw [wX6_digestOfDancer_65] at h
    refine lv_iload hx hb (dAt dX6_digestOfDancer 35 rfl) (lv_at hl 7 rfl) ?_
    refine lv_iconst (v := 2) hx hb (dAt dX6_digestOfDancer 36 rfl) (by decide) ?_
    refine lv_icmp_gt (tgt := 96) hx hb (dAt dX6_digestOfDancer 37 rfl) (by decide) (fun c68 => ?_) (fun c68 => ?_)
    · replace h := h.1 c68
      refine lv_iinc (v := (x8 + (1 : Int32))) (lv' := [(8, .int (x8 + (1 : Int32))), (0, .ref (gE E 0)), (3, .int x3), (4, .long x4), (6, .ref (aE E).1), (7, .int x7), (9, .int x9), (10, .int x10)]) hx hb (dAt dX6_digestOfDancer 51 rfl) hl (k := 5) rfl rfl (by decide) rfl (fun ls hl => ?_)
      refine lv_goto (tgt := 48) hx hb (dAt dX6_digestOfDancer 52 rfl) (by decide) ?_
      exact hK48 x3 x4 x7 (x8 + (1 : Int32)) σ  _ _ _ hw (lv_sub hl [1, 2, 3, 4, 5, 0] rfl) h
    · replace h := h.2 c68
      refine lv_ldc2 (v := 31) hx hb C.1.2.2.2.1 (C.1.2.2.2.2 _ ck_X6_299) (dAt dX6_digestOfDancer 38 rfl) ?_
      refine lv_lload hx hb (dAt dX6_digestOfDancer 39 rfl) (lv_at hl 2 rfl) ?_
      refine lv_lmul hx hb (dAt dX6_digestOfDancer 40 rfl) ?_
      refine lv_aload_n hx hb (dAt dX6_digestOfDancer 41 rfl) rfl (lv_at hl 0 rfl) ?_
      refine lv_iload hx hb (dAt dX6_digestOfDancer 42 rfl) (lv_at hl 6 rfl) ?_
      refine lv_iload_n hx hb (dAt dX6_digestOfDancer 43 rfl) rfl (lv_at hl 1 rfl) ?_
      refine lv_iload hx hb (dAt dX6_digestOfDancer 44 rfl) (lv_at hl 7 rfl) ?_
      refine x_calli C hw (x_runV (As := [.int x9, .int x3, .int x10]) (rest := [.long ((31 : Int64) * x4)]) C hw (kX6_at l E hE x9 x3 x10 σ _ h) mtX6_at lk_X6_369 (hE.1 0) (nX hE (by decide)) rfl ⟨by decide, by decide⟩ ⟨rfl, rfl⟩ rfl hl.1 rfl (Nat.le_of_ble_eq_true rfl) (dAt dX6_digestOfDancer 45 rfl) ⟨Nat.zero_le _, Nat.zero_le _⟩) (fun r83 σ83 H locs h hw => ?_)
      refine lv_i2l hx hb (dAt dX6_digestOfDancer 46 rfl) rfl ?_
      refine lv_ladd hx hb (dAt dX6_digestOfDancer 47 rfl) ?_
      refine lv_topl (fun x4_88 ex4_88 => ?_)
      replace h := h x4_88 ex4_88
      refine lv_lstore (lv' := [(4, .long x4_88), (0, .ref (gE E 0)), (3, .int x3), (6, .ref (aE E).1), (7, .int x7), (8, .int x8), (9, .int x9), (10, .int x10)]) hx hb (dAt dX6_digestOfDancer 48 rfl) hl (by decide) rfl (fun ls hl => ?_)
      refine lv_iinc (v := (x10 + (1 : Int32))) (lv' := [(10, .int (x10 + (1 : Int32))), (4, .long x4_88), (0, .ref (gE E 0)), (3, .int x3), (6, .ref (aE E).1), (7, .int x7), (8, .int x8), (9, .int x9)]) hx hb (dAt dX6_digestOfDancer 49 rfl) hl (k := 7) rfl rfl (by decide) rfl (fun ls hl => ?_)
      refine lv_goto (tgt := 65) hx hb (dAt dX6_digestOfDancer 50 rfl) (by decide) ?_
      exact ih x3 x4_88 x7 x8 x9 (x10 + (1 : Int32)) σ83  _ _ _ hw (lv_sub hl [2, 3, 1, 4, 5, 6, 7, 0] rfl) h
set_option maxHeartbeats 4000000 in
set_option maxRecDepth 100000 in
theorem kX6_digestOfDancer_48 {p : Program} {l : Launch} {e : Env} {s : State} {m : MethodId} {args : Array Value} {below : List Frame} {meth : Method} {c : Code} {E : wE} (hE : wX E) (C : Cx p s m args c cX6_digestOfDancer 11 RX6 E (wA E)) (hr : meth.sig.returnType = (some .long)) (hlk : meth.locks = false) {Q : Int64 → Mem → Prop} : ∀ (n : Nat) (x3 : Int32) (x4 : Int64) (x7 : Int32) (x8 : Int32) (σ : Mem) (H : Heap) (locs : List Loc) (ls : Array Slot), wd E (wA E) s σ H locs → lv_has ls 11 [(0, .ref (gE E 0)), (3, .int x3), (4, .long x4), (6, .ref (aE E).1), (7, .int x7), (8, .int x8)] → wX6_digestOfDancer_48 Q n x3 x4 x7 x8 σ → W p l e rX6_digestOfDancer s m args below meth c H locs 0 0 (MQ below (wQl E Q) args s 0 0 (wA E)) (F0 m 48 ls []) := by
  have hx := C.1.1
  have hb := C.1.2.1
  intro n
  induction n with
  | zero =>
    intro x3 x4 x7 x8 σ  H locs ls hw hl h
    exact h.elim
  | succ n ih =>
    intro x3 x4 x7 x8 σ  H locs ls hw hl h
    rw [wX6_digestOfDancer_48] at h
    refine lv_iload hx hb (dAt dX6_digestOfDancer 26 rfl) (lv_at hl 5 rfl) ?_
    refine lv_iload hx hb (dAt dX6_digestOfDancer 27 rfl) (lv_at hl 4 rfl) ?_
    refine lv_icmp_ge (tgt := 102) hx hb (dAt dX6_digestOfDancer 28 rfl) (by decide) (fun c52 => ?_) (fun c52 => ?_)
    · replace h := h.1 c52
      exact kX6_digestOfDancer_102 hE C hr hlk x3 x4 σ  _ _ _ hw (lv_sub hl [0, 1, 2] rfl) h
    · replace h := h.2 c52
      refine lv_aload hx hb (dAt dX6_digestOfDancer 29 rfl) (lv_at hl 3 rfl) ?_
      refine lv_iload hx hb (dAt dX6_digestOfDancer 30 rfl) (lv_at hl 5 rfl) ?_
      obtain ⟨z59, h⟩ := h
      refine x_ldP C hw z59 (dAt dX6_digestOfDancer 31 rfl) ?_
      refine lv_topi (fun x9_60 ex9_60 => ?_)
      replace h := h x9_60 ex9_60
      refine lv_istore (lv' := [(9, .int x9_60), (0, .ref (gE E 0)), (3, .int x3), (4, .long x4), (6, .ref (aE E).1), (7, .int x7), (8, .int x8)]) hx hb (dAt dX6_digestOfDancer 32 rfl) hl (by decide) rfl (fun ls hl => ?_)
      refine lv_iconst (v := 0) hx hb (dAt dX6_digestOfDancer 33 rfl) (by decide) ?_
      refine lv_istore (lv' := [(10, .int (0 : Int32)), (9, .int x9_60), (0, .ref (gE E 0)), (3, .int x3), (4, .long x4), (6, .ref (aE E).1), (7, .int x7), (8, .int x8)]) hx hb (dAt dX6_digestOfDancer 34 rfl) hl (by decide) rfl (fun ls hl => ?_)
      obtain ⟨n65, h⟩ := h
      exact kX6_digestOfDancer_65 hE C hr hlk ih n65 x3 x4 x7 x8 x9_60 (0 : Int32) σ  _ _ _ hw (lv_sub hl [2, 3, 4, 5, 6, 7, 1, 0] rfl) h
set_option maxHeartbeats 4000000 in
set_option maxRecDepth 100000 in
theorem kX6_digestOfDancer_35 {p : Program} {l : Launch} {e : Env} {s : State} {m : MethodId} {args : Array Value} {below : List Frame} {meth : Method} {c : Code} {E : wE} (hE : wX E) (C : Cx p s m args c cX6_digestOfDancer 11 RX6 E (wA E)) (hr : meth.sig.returnType = (some .long)) (hlk : meth.locks = false) {Q : Int64 → Mem → Prop} : ∀ (x3 : Int32) (x4 : Int64) (σ : Mem) (H : Heap) (locs : List Loc) (ls : Array Slot), wd E (wA E) s σ H locs → lv_has ls 11 [(0, .ref (gE E 0)), (3, .int x3), (4, .long x4)] → wX6_digestOfDancer_35 Q x3 x4 σ → W p l e rX6_digestOfDancer s m args below meth c H locs 0 0 (MQ below (wQl E Q) args s 0 0 (wA E)) (F0 m 35 ls []) := by
  have hx := C.1.1
  have hb := C.1.2.1
  intro x3 x4 σ  H locs ls hw hl h
  unfold wX6_digestOfDancer_35 at h
  refine x_stP C hw (TB_of 722 (by decide +kernel) rfl) (dAt dX6_digestOfDancer 19 rfl) ?_
  refine lv_astore (lv' := [(6, .ref (aE E).1), (0, .ref (gE E 0)), (3, .int x3), (4, .long x4)]) hx hb (dAt dX6_digestOfDancer 20 rfl) hl (by decide) rfl (fun ls hl => ?_)
  refine lv_aload hx hb (dAt dX6_digestOfDancer 21 rfl) (lv_at hl 0 rfl) ?_
  refine x_lenP C hw (dAt dX6_digestOfDancer 22 rfl) ?_
  refine lv_istore (lv' := [(7, .int (4 : Int32)), (6, .ref (aE E).1), (0, .ref (gE E 0)), (3, .int x3), (4, .long x4)]) hx hb (dAt dX6_digestOfDancer 23 rfl) hl (by decide) rfl (fun ls hl => ?_)
  refine lv_iconst (v := 0) hx hb (dAt dX6_digestOfDancer 24 rfl) (by decide) ?_
  refine lv_istore (lv' := [(8, .int (0 : Int32)), (7, .int (4 : Int32)), (6, .ref (aE E).1), (0, .ref (gE E 0)), (3, .int x3), (4, .long x4)]) hx hb (dAt dX6_digestOfDancer 25 rfl) hl (by decide) rfl (fun ls hl => ?_)
  obtain ⟨n48, h⟩ := h
  exact kX6_digestOfDancer_48 hE C hr hlk n48 x3 x4 (4 : Int32) (0 : Int32) σ  _ _ _ hw (lv_sub hl [3, 4, 5, 2, 1, 0] rfl) h
set_option maxHeartbeats 4000000 in
set_option maxRecDepth 100000 in
theorem kX6_digestOfDancer_6 {p : Program} {l : Launch} {e : Env} {s : State} {m : MethodId} {args : Array Value} {below : List Frame} {meth : Method} {c : Code} {E : wE} (hE : wX E) (C : Cx p s m args c cX6_digestOfDancer 11 RX6 E (wA E)) (hr : meth.sig.returnType = (some .long)) (hlk : meth.locks = false) {Q : Int64 → Mem → Prop} : ∀ (n : Nat) (x3 : Int32) (x4 : Int64) (x6 : Int32) (σ : Mem) (H : Heap) (locs : List Loc) (ls : Array Slot), wd E (wA E) s σ H locs → lv_has ls 11 [(0, .ref (gE E 0)), (3, .int x3), (4, .long x4), (6, .int x6)] → wX6_digestOfDancer_6 Q n x3 x4 x6 σ → W p l e rX6_digestOfDancer s m args below meth c H locs 0 0 (MQ below (wQl E Q) args s 0 0 (wA E)) (F0 m 6 ls []) := by
  have hx := C.1.1
  have hb := C.1.2.1
  intro n
  induction n with
  | zero =>
    intro x3 x4 x6 σ  H locs ls hw hl h
    exact h.elim
  | succ n ih =>
    intro x3 x4 x6 σ  H locs ls hw hl h
    rw [wX6_digestOfDancer_6] at h
    refine lv_iload hx hb (dAt dX6_digestOfDancer 4 rfl) (lv_at hl 3 rfl) ?_
    refine lv_iconst (v := 2) hx hb (dAt dX6_digestOfDancer 5 rfl) (by decide) ?_
    refine lv_icmp_gt (tgt := 35) hx hb (dAt dX6_digestOfDancer 6 rfl) (by decide) (fun c9 => ?_) (fun c9 => ?_)
    · replace h := h.1 c9
      exact kX6_digestOfDancer_35 hE C hr hlk x3 x4 σ  _ _ _ hw (lv_sub hl [0, 1, 2] rfl) h
    · replace h := h.2 c9
      refine lv_ldc2 (v := 31) hx hb C.1.2.2.2.1 (C.1.2.2.2.2 _ ck_X6_299) (dAt dX6_digestOfDancer 7 rfl) ?_
      refine lv_lload hx hb (dAt dX6_digestOfDancer 8 rfl) (lv_at hl 2 rfl) ?_
      refine lv_lmul hx hb (dAt dX6_digestOfDancer 9 rfl) ?_
      refine lv_aload_n hx hb (dAt dX6_digestOfDancer 10 rfl) rfl (lv_at hl 0 rfl) ?_
      refine lv_iload_n hx hb (dAt dX6_digestOfDancer 11 rfl) rfl (lv_at hl 1 rfl) ?_
      refine lv_iload hx hb (dAt dX6_digestOfDancer 12 rfl) (lv_at hl 3 rfl) ?_
      refine x_calli C hw (x_runV (As := [.int x3, .int x6]) (rest := [.long ((31 : Int64) * x4)]) C hw (kX6_dancer l E hE x3 x6 σ _ h) mtX6_dancer lk_X6_363 (hE.1 0) (nX hE (by decide)) rfl ⟨by decide, by decide⟩ ⟨rfl, rfl⟩ rfl hl.1 rfl (Nat.le_of_ble_eq_true rfl) (dAt dX6_digestOfDancer 13 rfl) ⟨Nat.zero_le _, Nat.zero_le _⟩) (fun r22 σ22 H locs h hw => ?_)
      refine lv_i2l hx hb (dAt dX6_digestOfDancer 14 rfl) rfl ?_
      refine lv_ladd hx hb (dAt dX6_digestOfDancer 15 rfl) ?_
      refine lv_topl (fun x4_27 ex4_27 => ?_)
      replace h := h x4_27 ex4_27
      refine lv_lstore (lv' := [(4, .long x4_27), (0, .ref (gE E 0)), (3, .int x3), (6, .int x6)]) hx hb (dAt dX6_digestOfDancer 16 rfl) hl (by decide) rfl (fun ls hl => ?_)
      refine lv_iinc (v := (x6 + (1 : Int32))) (lv' := [(6, .int (x6 + (1 : Int32))), (4, .long x4_27), (0, .ref (gE E 0)), (3, .int x3)]) hx hb (dAt dX6_digestOfDancer 17 rfl) hl (k := 3) rfl rfl (by decide) rfl (fun ls hl => ?_)
      refine lv_goto (tgt := 6) hx hb (dAt dX6_digestOfDancer 18 rfl) (by decide) ?_
      exact ih x3 x4_27 (x6 + (1 : Int32)) σ22  _ _ _ hw (lv_sub hl [2, 3, 1, 0] rfl) h
set_option maxHeartbeats 4000000 in
set_option maxRecDepth 100000 in
theorem kX6_digestOfDancer (l : Launch) (E : wE) (hE : wX E) (x1 : Int64) (x3 : Int32) (σ : Mem) (Q : Int64 → Mem → Prop) (h : wX6_digestOfDancer x1 x3 σ Q) : Met l yX6_digestOfDancer (Cond.code yX6_digestOfDancer cX6_digestOfDancer 11 (some .long) :: TB) rX6_digestOfDancer (wPc E σ [.ref (gE E 0), .long x1, .int x3]) (wQl E Q) 0 0 (wA E) := by
  refine wMet (by decide) hE.2.2 (Nat.le_of_ble_eq_true rfl) ?_
  intro p e s m args below meth c ls C hr hlk hl hw
  have hx := C.1.1
  have hb := C.1.2.1
  replace C : Cx p s m args c cX6_digestOfDancer 11 RX6 E (wA E) := C
  replace hl : lv_has ls 11 [(0, .ref (gE E 0)), (1, .long x1), (3, .int x3)] := hl
  unfold wX6_digestOfDancer at h
  refine lv_lload_n hx hb (dAt dX6_digestOfDancer 0 rfl) rfl (lv_at hl 1 rfl) ?_
  refine lv_lstore (lv' := [(4, .long x1), (0, .ref (gE E 0)), (1, .long x1), (3, .int x3)]) hx hb (dAt dX6_digestOfDancer 1 rfl) hl (by decide) rfl (fun ls hl => ?_)
  refine lv_iconst (v := 0) hx hb (dAt dX6_digestOfDancer 2 rfl) (by decide) ?_
  refine lv_istore (lv' := [(6, .int (0 : Int32)), (4, .long x1), (0, .ref (gE E 0)), (1, .long x1), (3, .int x3)]) hx hb (dAt dX6_digestOfDancer 3 rfl) hl (by decide) rfl (fun ls hl => ?_)
  obtain ⟨n6, h⟩ := h
  exact kX6_digestOfDancer_6 hE C hr hlk n6 x3 x1 (0 : Int32) σ  _ _ _ hw (lv_sub hl [2, 4, 1, 0] rfl) h
def tX6_digest : List (Nat × Instr × Nat) := [(0, .ldc2_w 297, 3), (3, .lstore_n 1, 1), (4, .iconst 0, 1), (5, .istore_n 3, 1), (6, .iload_n 3, 1), (7, .bipush 7, 2), (9, .if_icmp .gt 22, 3), (12, .ldc2_w 299, 3), (15, .lload_n 1, 1), (16, .lmul, 1), (17, .aload_n 0, 1), (18, .iload_n 3, 1), (19, .invokevirtual 301, 3), (22, .i2l, 1), (23, .ladd, 1), (24, .lstore_n 1, 1), (25, .iinc 3 1, 3), (28, .goto (-22), 3), (31, .iconst 0, 1), (32, .istore_n 3, 1), (33, .iload_n 3, 1), (34, .iconst 1, 1), (35, .if_icmp .gt 22, 3), (38, .ldc2_w 299, 3), (41, .lload_n 1, 1), (42, .lmul, 1), (43, .aload_n 0, 1), (44, .iload_n 3, 1), (45, .invokevirtual 304, 3), (48, .i2l, 1), (49, .ladd, 1), (50, .lstore_n 1, 1), (51, .iinc 3 1, 3), (54, .goto (-21), 3), (57, .aload_n 0, 1), (58, .lload_n 1, 1), (59, .invokevirtual 307, 3), (62, .lstore_n 1, 1), (63, .iconst 0, 1), (64, .istore_n 3, 1), (65, .iload_n 3, 1), (66, .aload_n 0, 1), (67, .getfield 28, 3), (70, .getfield 193, 3), (73, .if_icmp .ge 16, 3), (76, .aload_n 0, 1), (77, .lload_n 1, 1), (78, .iload_n 3, 1), (79, .invokevirtual 311, 3), (82, .lstore_n 1, 1), (83, .iinc 3 1, 3), (86, .goto (-21), 3), (89, .getstatic 315, 3), (92, .astore_n 3, 1), (93, .aload_n 3, 1), (94, .arraylength, 1), (95, .istore 4, 2), (97, .iconst 0, 1), (98, .istore 5, 2), (100, .iload 5, 2), (102, .iload 4, 2), (104, .if_icmp .ge 75, 3), (107, .aload_n 3, 1), (108, .iload 5, 2), (110, .iaload, 1), (111, .istore 6, 2), (113, .ldc2_w 299, 3), (116, .lload_n 1, 1), (117, .lmul, 1), (118, .aload_n 0, 1), (119, .iload 6, 2), (121, .iconst 0, 1), (122, .invokevirtual 318, 3), (125, .i2l, 1), (126, .ladd, 1), (127, .lstore_n 1, 1), (128, .ldc2_w 299, 3), (131, .lload_n 1, 1), (132, .lmul, 1), (133, .aload_n 0, 1), (134, .iload 6, 2), (136, .iconst 1, 1), (137, .invokevirtual 318, 3), (140, .i2l, 1), (141, .ladd, 1), (142, .lstore_n 1, 1), (143, .ldc2_w 299, 3), (146, .lload_n 1, 1), (147, .lmul, 1), (148, .aload_n 0, 1), (149, .iconst 5, 1), (150, .iload 6, 2), (152, .iconst 0, 1), (153, .invokevirtual 320, 3), (156, .ladd, 1), (157, .lstore_n 1, 1), (158, .ldc2_w 299, 3), (161, .lload_n 1, 1), (162, .lmul, 1), (163, .aload_n 0, 1), (164, .iconst 5, 1), (165, .iload 6, 2), (167, .iconst 1, 1), (168, .invokevirtual 320, 3), (171, .ladd, 1), (172, .lstore_n 1, 1), (173, .iinc 5 1, 3), (176, .goto (-76), 3), (179, .iconst 0, 1), (180, .istore_n 3, 1), (181, .iload_n 3, 1), (182, .iconst 2, 1), (183, .if_icmp .gt 22, 3), (186, .ldc2_w 299, 3), (189, .lload_n 1, 1), (190, .lmul, 1), (191, .aload_n 0, 1), (192, .iload_n 3, 1), (193, .invokevirtual 324, 3), (196, .i2l, 1), (197, .ladd, 1), (198, .lstore_n 1, 1), (199, .iinc 3 1, 3), (202, .goto (-21), 3), (205, .ldc2_w 299, 3), (208, .lload_n 1, 1), (209, .lmul, 1), (210, .aload_n 0, 1), (211, .iconst 0, 1), (212, .invokevirtual 327, 3), (215, .i2l, 1), (216, .ladd, 1), (217, .lstore_n 1, 1), (218, .ldc2_w 299, 3), (221, .lload_n 1, 1), (222, .lmul, 1), (223, .aload_n 0, 1), (224, .iconst 1, 1), (225, .invokevirtual 327, 3), (228, .i2l, 1), (229, .ladd, 1), (230, .lstore_n 1, 1), (231, .ldc2_w 299, 3), (234, .lload_n 1, 1), (235, .lmul, 1), (236, .aload_n 0, 1), (237, .invokevirtual 330, 3), (240, .i2l, 1), (241, .ladd, 1), (242, .lstore_n 1, 1), (243, .ldc2_w 299, 3), (246, .lload_n 1, 1), (247, .lmul, 1), (248, .aload_n 0, 1), (249, .invokevirtual 333, 3), (252, .i2l, 1), (253, .ladd, 1), (254, .lstore_n 1, 1), (255, .ldc2_w 299, 3), (258, .lload_n 1, 1), (259, .lmul, 1), (260, .aload_n 0, 1), (261, .invokevirtual 336, 3), (264, .i2l, 1), (265, .ladd, 1), (266, .lstore_n 1, 1), (267, .ldc2_w 299, 3), (270, .lload_n 1, 1), (271, .lmul, 1), (272, .aload_n 0, 1), (273, .iconst (-1), 1), (274, .invokevirtual 339, 3), (277, .i2l, 1), (278, .ladd, 1), (279, .lstore_n 1, 1), (280, .ldc2_w 299, 3), (283, .lload_n 1, 1), (284, .lmul, 1), (285, .aload_n 0, 1), (286, .iconst 0, 1), (287, .invokevirtual 339, 3), (290, .i2l, 1), (291, .ladd, 1), (292, .lstore_n 1, 1), (293, .ldc2_w 299, 3), (296, .lload_n 1, 1), (297, .lmul, 1), (298, .aload_n 0, 1), (299, .invokevirtual 342, 3), (302, .i2l, 1), (303, .ladd, 1), (304, .lstore_n 1, 1), (305, .ldc2_w 299, 3), (308, .lload_n 1, 1), (309, .lmul, 1), (310, .aload_n 0, 1), (311, .invokevirtual 244, 3), (314, .i2l, 1), (315, .ladd, 1), (316, .lstore_n 1, 1), (317, .ldc2_w 299, 3), (320, .lload_n 1, 1), (321, .lmul, 1), (322, .aload_n 0, 1), (323, .invokevirtual 345, 3), (326, .i2l, 1), (327, .ladd, 1), (328, .lstore_n 1, 1), (329, .ldc2_w 299, 3), (332, .lload_n 1, 1), (333, .lmul, 1), (334, .aload_n 0, 1), (335, .bipush 7, 2), (337, .bipush 18, 2), (339, .iconst 0, 1), (340, .invokevirtual 348, 3), (343, .i2l, 1), (344, .ladd, 1), (345, .lstore_n 1, 1), (346, .ldc2_w 299, 3), (349, .lload_n 1, 1), (350, .lmul, 1), (351, .aload_n 0, 1), (352, .bipush 7, 2), (354, .bipush 18, 2), (356, .iconst 1, 1), (357, .invokevirtual 348, 3), (360, .i2l, 1), (361, .ladd, 1), (362, .lreturn, 1)]
theorem dX6_digest : dOk cX6_digest tX6_digest = true := by decide +kernel
abbrev rX6_digest : Room := { frames := 6, cells := 0, slots := 0, locals := 171 }
def wX6_digest_205 (Q : Int64 → Mem → Prop) (x1 : Int64) (σ : Mem) : Prop := (wX6_run (0 : Int32) σ (fun r212 σ212 => (∀ x1_217 : Int64, x1_217 = (((31 : Int64) * x1) + ((r212).toInt64)) → (wX6_run (1 : Int32) σ212 (fun r225 σ225 => (∀ x1_230 : Int64, x1_230 = (((31 : Int64) * x1_217) + ((r225).toInt64)) → (wX6_bare  σ225 (fun r237 σ237 => (∀ x1_242 : Int64, x1_242 = (((31 : Int64) * x1_230) + ((r237).toInt64)) → (wX6_top  σ237 (fun r249 σ249 => (∀ x1_254 : Int64, x1_254 = (((31 : Int64) * x1_242) + ((r249).toInt64)) → (wX6_lacks  σ249 (fun r261 σ261 => (∀ x1_266 : Int64, x1_266 = (((31 : Int64) * x1_254) + ((r261).toInt64)) → (wX6_spare (-1 : Int32) σ261 (fun r274 σ274 => (∀ x1_279 : Int64, x1_279 = (((31 : Int64) * x1_266) + ((r274).toInt64)) → (wX6_spare (0 : Int32) σ274 (fun r287 σ287 => (∀ x1_292 : Int64, x1_292 = (((31 : Int64) * x1_279) + ((r287).toInt64)) → (wX6_never  σ287 (fun r299 σ299 => (∀ x1_304 : Int64, x1_304 = (((31 : Int64) * x1_292) + ((r299).toInt64)) → (wX6_lengths  σ299 (fun r311 σ311 => (∀ x1_316 : Int64, x1_316 = (((31 : Int64) * x1_304) + ((r311).toInt64)) → (wX6_ask  σ311 (fun r323 σ323 => (∀ x1_328 : Int64, x1_328 = (((31 : Int64) * x1_316) + ((r323).toInt64)) → (wX6_dances (7 : Int32) (18 : Int32) (0 : Int32) σ323 (fun r340 σ340 => (∀ x1_345 : Int64, x1_345 = (((31 : Int64) * x1_328) + ((r340).toInt64)) → (wX6_dances (7 : Int32) (18 : Int32) (1 : Int32) σ340 (fun r357 σ357 => (Q (((31 : Int64) * x1_345) + ((r357).toInt64)) σ357))))))))))))))))))))))))))))))))))))
def wX6_digest_181 (Q : Int64 → Mem → Prop) : Nat → Int64 → Int32 → Mem → Prop
  | 0, _, _, _ => False
  | n + 1, x1, x3, σ => ((((2 : Int32) < x3) → (wX6_digest_205 Q x1 σ)) ∧ ((¬ (2 : Int32) < x3) → (wX6_sum x3 σ (fun r193 σ193 => (∀ x1_198 : Int64, x1_198 = (((31 : Int64) * x1) + ((r193).toInt64)) → (wX6_digest_181 Q n x1_198 (x3 + (1 : Int32)) σ193))))))
def wX6_digest_100 (Q : Int64 → Mem → Prop) : Nat → Int64 → Int32 → Int32 → Mem → Prop
  | 0, _, _, _, _ => False
  | n + 1, x1, x4, x5, σ => (((x4 ≤ x5) → (∃ N181, wX6_digest_181 Q N181 x1 (0 : Int32) σ)) ∧ ((¬ x4 ≤ x5) → (vp_in x5 3 ∧ (∀ x6_111 : Int32, x6_111 = (stQi (x5).toNatClampNeg) → (wX6_step x6_111 (0 : Int32) σ (fun r122 σ122 => (∀ x1_127 : Int64, x1_127 = (((31 : Int64) * x1) + ((r122).toInt64)) → (wX6_step x6_111 (1 : Int32) σ122 (fun r137 σ137 => (∀ x1_142 : Int64, x1_142 = (((31 : Int64) * x1_127) + ((r137).toInt64)) → (wX6_chance (5 : Int32) x6_111 (0 : Int32) σ137 (fun r153 σ153 => (∀ x1_157 : Int64, x1_157 = (((31 : Int64) * x1_142) + r153) → (wX6_chance (5 : Int32) x6_111 (1 : Int32) σ153 (fun r168 σ168 => (∀ x1_172 : Int64, x1_172 = (((31 : Int64) * x1_157) + r168) → (wX6_digest_100 Q n x1_172 x4 (x5 + (1 : Int32)) σ168)))))))))))))))))
def wX6_digest_89 (Q : Int64 → Mem → Prop) (x1 : Int64) (σ : Mem) : Prop := (∃ N100, wX6_digest_100 Q N100 x1 (3 : Int32) (0 : Int32) σ)
def wX6_digest_65 (Q : Int64 → Mem → Prop) : Nat → Int64 → Int32 → Mem → Prop
  | 0, _, _, _ => False
  | n + 1, x1, x3, σ => ((((σ 10 4) ≤ x3) → (wX6_digest_89 Q x1 σ)) ∧ ((¬ (σ 10 4) ≤ x3) → (wX6_digestOfDancer x1 x3 σ (fun r79 σ79 => (wX6_digest_65 Q n r79 (x3 + (1 : Int32)) σ79)))))
def wX6_digest_33 (Q : Int64 → Mem → Prop) : Nat → Int64 → Int32 → Mem → Prop
  | 0, _, _, _ => False
  | n + 1, x1, x3, σ => ((((1 : Int32) < x3) → (wX6_digestOfBeats x1 σ (fun r59 σ59 => (∃ N65, wX6_digest_65 Q N65 r59 (0 : Int32) σ59)))) ∧ ((¬ (1 : Int32) < x3) → (wX6_fault x3 σ (fun r45 σ45 => (∀ x1_50 : Int64, x1_50 = (((31 : Int64) * x1) + ((r45).toInt64)) → (wX6_digest_33 Q n x1_50 (x3 + (1 : Int32)) σ45))))))
def wX6_digest_6 (Q : Int64 → Mem → Prop) : Nat → Int64 → Int32 → Mem → Prop
  | 0, _, _, _ => False
  | n + 1, x1, x3, σ => ((((7 : Int32) < x3) → (∃ N33, wX6_digest_33 Q N33 x1 (0 : Int32) σ)) ∧ ((¬ (7 : Int32) < x3) → (wX6_count x3 σ (fun r19 σ19 => (∀ x1_24 : Int64, x1_24 = (((31 : Int64) * x1) + ((r19).toInt64)) → (wX6_digest_6 Q n x1_24 (x3 + (1 : Int32)) σ19))))))
def wX6_digest (σ : Mem) (Q : Int64 → Mem → Prop) : Prop := (∃ N6, wX6_digest_6 Q N6 (17 : Int64) (0 : Int32) σ)
set_option maxHeartbeats 4000000 in
set_option maxRecDepth 100000 in
theorem kX6_digest_205 {p : Program} {l : Launch} {e : Env} {s : State} {m : MethodId} {args : Array Value} {below : List Frame} {meth : Method} {c : Code} {E : wE} (hE : wX E) (C : Cx p s m args c cX6_digest 7 RX6 E (wA E)) (hr : meth.sig.returnType = (some .long)) (hlk : meth.locks = false) {Q : Int64 → Mem → Prop} : ∀ (x1 : Int64) (σ : Mem) (H : Heap) (locs : List Loc) (ls : Array Slot), wd E (wA E) s σ H locs → lv_has ls 7 [(0, .ref (gE E 0)), (1, .long x1)] → wX6_digest_205 Q x1 σ → W p l e rX6_digest s m args below meth c H locs 0 0 (MQ below (wQl E Q) args s 0 0 (wA E)) (F0 m 205 ls []) := by
  have hx := C.1.1
  have hb := C.1.2.1
  intro x1 σ  H locs ls hw hl h
  unfold wX6_digest_205 at h
  refine lv_ldc2 (v := 31) hx hb C.1.2.2.2.1 (C.1.2.2.2.2 _ ck_X6_299) (dAt dX6_digest 124 rfl) ?_
  refine lv_lload_n hx hb (dAt dX6_digest 125 rfl) rfl (lv_at hl 1 rfl) ?_
  refine lv_lmul hx hb (dAt dX6_digest 126 rfl) ?_
  refine lv_aload_n hx hb (dAt dX6_digest 127 rfl) rfl (lv_at hl 0 rfl) ?_
  refine lv_iconst (v := 0) hx hb (dAt dX6_digest 128 rfl) (by decide) ?_
  refine x_calli C hw (x_runV (As := [.int (0 : Int32)]) (rest := [.long ((31 : Int64) * x1)]) C hw (kX6_run l E hE (0 : Int32) σ _ h) mtX6_run lk_X6_327 (hE.1 0) (nX hE (by decide)) rfl ⟨by decide, by decide⟩ ⟨rfl, rfl⟩ rfl hl.1 rfl (Nat.le_of_ble_eq_true rfl) (dAt dX6_digest 129 rfl) ⟨Nat.zero_le _, Nat.zero_le _⟩) (fun r212 σ212 H locs h hw => ?_)
  refine lv_i2l hx hb (dAt dX6_digest 130 rfl) rfl ?_
  refine lv_ladd hx hb (dAt dX6_digest 131 rfl) ?_
  refine lv_topl (fun x1_217 ex1_217 => ?_)
  replace h := h x1_217 ex1_217
  refine lv_lstore_n (lv' := [(1, .long x1_217), (0, .ref (gE E 0))]) hx hb (dAt dX6_digest 132 rfl) rfl hl (by decide) rfl (fun ls hl => ?_)
  refine lv_ldc2 (v := 31) hx hb C.1.2.2.2.1 (C.1.2.2.2.2 _ ck_X6_299) (dAt dX6_digest 133 rfl) ?_
  refine lv_lload_n hx hb (dAt dX6_digest 134 rfl) rfl (lv_at hl 0 rfl) ?_
  refine lv_lmul hx hb (dAt dX6_digest 135 rfl) ?_
  refine lv_aload_n hx hb (dAt dX6_digest 136 rfl) rfl (lv_at hl 1 rfl) ?_
  refine lv_iconst (v := 1) hx hb (dAt dX6_digest 137 rfl) (by decide) ?_
  refine x_calli C hw (x_runV (As := [.int (1 : Int32)]) (rest := [.long ((31 : Int64) * x1_217)]) C hw (kX6_run l E hE (1 : Int32) σ212 _ h) mtX6_run lk_X6_327 (hE.1 0) (nX hE (by decide)) rfl ⟨by decide, by decide⟩ ⟨rfl, rfl⟩ rfl hl.1 rfl (Nat.le_of_ble_eq_true rfl) (dAt dX6_digest 138 rfl) ⟨Nat.zero_le _, Nat.zero_le _⟩) (fun r225 σ225 H locs h hw => ?_)
  refine lv_i2l hx hb (dAt dX6_digest 139 rfl) rfl ?_
  refine lv_ladd hx hb (dAt dX6_digest 140 rfl) ?_
  refine lv_topl (fun x1_230 ex1_230 => ?_)
  replace h := h x1_230 ex1_230
  refine lv_lstore_n (lv' := [(1, .long x1_230), (0, .ref (gE E 0))]) hx hb (dAt dX6_digest 141 rfl) rfl hl (by decide) rfl (fun ls hl => ?_)
  refine lv_ldc2 (v := 31) hx hb C.1.2.2.2.1 (C.1.2.2.2.2 _ ck_X6_299) (dAt dX6_digest 142 rfl) ?_
  refine lv_lload_n hx hb (dAt dX6_digest 143 rfl) rfl (lv_at hl 0 rfl) ?_
  refine lv_lmul hx hb (dAt dX6_digest 144 rfl) ?_
  refine lv_aload_n hx hb (dAt dX6_digest 145 rfl) rfl (lv_at hl 1 rfl) ?_
  refine x_calli C hw (x_runV (As := []) (rest := [.long ((31 : Int64) * x1_230)]) C hw (kX6_bare l E hE  σ225 _ h) mtX6_bare lk_X6_330 (hE.1 0) (nX hE (by decide)) rfl ⟨by decide, by decide⟩ ⟨rfl, rfl⟩ rfl hl.1 rfl (Nat.le_of_ble_eq_true rfl) (dAt dX6_digest 146 rfl) ⟨Nat.zero_le _, Nat.zero_le _⟩) (fun r237 σ237 H locs h hw => ?_)
  refine lv_i2l hx hb (dAt dX6_digest 147 rfl) rfl ?_
  refine lv_ladd hx hb (dAt dX6_digest 148 rfl) ?_
  refine lv_topl (fun x1_242 ex1_242 => ?_)
  replace h := h x1_242 ex1_242
  refine lv_lstore_n (lv' := [(1, .long x1_242), (0, .ref (gE E 0))]) hx hb (dAt dX6_digest 149 rfl) rfl hl (by decide) rfl (fun ls hl => ?_)
  refine lv_ldc2 (v := 31) hx hb C.1.2.2.2.1 (C.1.2.2.2.2 _ ck_X6_299) (dAt dX6_digest 150 rfl) ?_
  refine lv_lload_n hx hb (dAt dX6_digest 151 rfl) rfl (lv_at hl 0 rfl) ?_
  refine lv_lmul hx hb (dAt dX6_digest 152 rfl) ?_
  refine lv_aload_n hx hb (dAt dX6_digest 153 rfl) rfl (lv_at hl 1 rfl) ?_
  refine x_calli C hw (x_runV (As := []) (rest := [.long ((31 : Int64) * x1_242)]) C hw (kX6_top l E hE  σ237 _ h) mtX6_top lk_X6_333 (hE.1 0) (nX hE (by decide)) rfl ⟨by decide, by decide⟩ ⟨rfl, rfl⟩ rfl hl.1 rfl (Nat.le_of_ble_eq_true rfl) (dAt dX6_digest 154 rfl) ⟨Nat.zero_le _, Nat.zero_le _⟩) (fun r249 σ249 H locs h hw => ?_)
  refine lv_i2l hx hb (dAt dX6_digest 155 rfl) rfl ?_
  refine lv_ladd hx hb (dAt dX6_digest 156 rfl) ?_
  refine lv_topl (fun x1_254 ex1_254 => ?_)
  replace h := h x1_254 ex1_254
  refine lv_lstore_n (lv' := [(1, .long x1_254), (0, .ref (gE E 0))]) hx hb (dAt dX6_digest 157 rfl) rfl hl (by decide) rfl (fun ls hl => ?_)
  refine lv_ldc2 (v := 31) hx hb C.1.2.2.2.1 (C.1.2.2.2.2 _ ck_X6_299) (dAt dX6_digest 158 rfl) ?_
  refine lv_lload_n hx hb (dAt dX6_digest 159 rfl) rfl (lv_at hl 0 rfl) ?_
  refine lv_lmul hx hb (dAt dX6_digest 160 rfl) ?_
  refine lv_aload_n hx hb (dAt dX6_digest 161 rfl) rfl (lv_at hl 1 rfl) ?_
  refine x_calli C hw (x_runV (As := []) (rest := [.long ((31 : Int64) * x1_254)]) C hw (kX6_lacks l E hE  σ249 _ h) mtX6_lacks lk_X6_336 (hE.1 0) (nX hE (by decide)) rfl ⟨by decide, by decide⟩ ⟨rfl, rfl⟩ rfl hl.1 rfl (Nat.le_of_ble_eq_true rfl) (dAt dX6_digest 162 rfl) ⟨Nat.zero_le _, Nat.zero_le _⟩) (fun r261 σ261 H locs h hw => ?_)
  refine lv_i2l hx hb (dAt dX6_digest 163 rfl) rfl ?_
  refine lv_ladd hx hb (dAt dX6_digest 164 rfl) ?_
  refine lv_topl (fun x1_266 ex1_266 => ?_)
  replace h := h x1_266 ex1_266
  refine lv_lstore_n (lv' := [(1, .long x1_266), (0, .ref (gE E 0))]) hx hb (dAt dX6_digest 165 rfl) rfl hl (by decide) rfl (fun ls hl => ?_)
  refine lv_ldc2 (v := 31) hx hb C.1.2.2.2.1 (C.1.2.2.2.2 _ ck_X6_299) (dAt dX6_digest 166 rfl) ?_
  refine lv_lload_n hx hb (dAt dX6_digest 167 rfl) rfl (lv_at hl 0 rfl) ?_
  refine lv_lmul hx hb (dAt dX6_digest 168 rfl) ?_
  refine lv_aload_n hx hb (dAt dX6_digest 169 rfl) rfl (lv_at hl 1 rfl) ?_
  refine lv_iconst (v := -1) hx hb (dAt dX6_digest 170 rfl) (by decide) ?_
  refine x_calli C hw (x_runV (As := [.int (-1 : Int32)]) (rest := [.long ((31 : Int64) * x1_266)]) C hw (kX6_spare l E hE (-1 : Int32) σ261 _ h) mtX6_spare lk_X6_339 (hE.1 0) (nX hE (by decide)) rfl ⟨by decide, by decide⟩ ⟨rfl, rfl⟩ rfl hl.1 rfl (Nat.le_of_ble_eq_true rfl) (dAt dX6_digest 171 rfl) ⟨Nat.zero_le _, Nat.zero_le _⟩) (fun r274 σ274 H locs h hw => ?_)
  refine lv_i2l hx hb (dAt dX6_digest 172 rfl) rfl ?_
  refine lv_ladd hx hb (dAt dX6_digest 173 rfl) ?_
  refine lv_topl (fun x1_279 ex1_279 => ?_)
  replace h := h x1_279 ex1_279
  refine lv_lstore_n (lv' := [(1, .long x1_279), (0, .ref (gE E 0))]) hx hb (dAt dX6_digest 174 rfl) rfl hl (by decide) rfl (fun ls hl => ?_)
  refine lv_ldc2 (v := 31) hx hb C.1.2.2.2.1 (C.1.2.2.2.2 _ ck_X6_299) (dAt dX6_digest 175 rfl) ?_
  refine lv_lload_n hx hb (dAt dX6_digest 176 rfl) rfl (lv_at hl 0 rfl) ?_
  refine lv_lmul hx hb (dAt dX6_digest 177 rfl) ?_
  refine lv_aload_n hx hb (dAt dX6_digest 178 rfl) rfl (lv_at hl 1 rfl) ?_
  refine lv_iconst (v := 0) hx hb (dAt dX6_digest 179 rfl) (by decide) ?_
  refine x_calli C hw (x_runV (As := [.int (0 : Int32)]) (rest := [.long ((31 : Int64) * x1_279)]) C hw (kX6_spare l E hE (0 : Int32) σ274 _ h) mtX6_spare lk_X6_339 (hE.1 0) (nX hE (by decide)) rfl ⟨by decide, by decide⟩ ⟨rfl, rfl⟩ rfl hl.1 rfl (Nat.le_of_ble_eq_true rfl) (dAt dX6_digest 180 rfl) ⟨Nat.zero_le _, Nat.zero_le _⟩) (fun r287 σ287 H locs h hw => ?_)
  refine lv_i2l hx hb (dAt dX6_digest 181 rfl) rfl ?_
  refine lv_ladd hx hb (dAt dX6_digest 182 rfl) ?_
  refine lv_topl (fun x1_292 ex1_292 => ?_)
  replace h := h x1_292 ex1_292
  refine lv_lstore_n (lv' := [(1, .long x1_292), (0, .ref (gE E 0))]) hx hb (dAt dX6_digest 183 rfl) rfl hl (by decide) rfl (fun ls hl => ?_)
  refine lv_ldc2 (v := 31) hx hb C.1.2.2.2.1 (C.1.2.2.2.2 _ ck_X6_299) (dAt dX6_digest 184 rfl) ?_
  refine lv_lload_n hx hb (dAt dX6_digest 185 rfl) rfl (lv_at hl 0 rfl) ?_
  refine lv_lmul hx hb (dAt dX6_digest 186 rfl) ?_
  refine lv_aload_n hx hb (dAt dX6_digest 187 rfl) rfl (lv_at hl 1 rfl) ?_
  refine x_calli C hw (x_runV (As := []) (rest := [.long ((31 : Int64) * x1_292)]) C hw (kX6_never l E hE  σ287 _ h) mtX6_never lk_X6_342 (hE.1 0) (nX hE (by decide)) rfl ⟨by decide, by decide⟩ ⟨rfl, rfl⟩ rfl hl.1 rfl (Nat.le_of_ble_eq_true rfl) (dAt dX6_digest 188 rfl) ⟨Nat.zero_le _, Nat.zero_le _⟩) (fun r299 σ299 H locs h hw => ?_)
  refine lv_i2l hx hb (dAt dX6_digest 189 rfl) rfl ?_
  refine lv_ladd hx hb (dAt dX6_digest 190 rfl) ?_
  refine lv_topl (fun x1_304 ex1_304 => ?_)
  replace h := h x1_304 ex1_304
  refine lv_lstore_n (lv' := [(1, .long x1_304), (0, .ref (gE E 0))]) hx hb (dAt dX6_digest 191 rfl) rfl hl (by decide) rfl (fun ls hl => ?_)
  refine lv_ldc2 (v := 31) hx hb C.1.2.2.2.1 (C.1.2.2.2.2 _ ck_X6_299) (dAt dX6_digest 192 rfl) ?_
  refine lv_lload_n hx hb (dAt dX6_digest 193 rfl) rfl (lv_at hl 0 rfl) ?_
  refine lv_lmul hx hb (dAt dX6_digest 194 rfl) ?_
  refine lv_aload_n hx hb (dAt dX6_digest 195 rfl) rfl (lv_at hl 1 rfl) ?_
  refine x_calli C hw (x_runV (As := []) (rest := [.long ((31 : Int64) * x1_304)]) C hw (kX6_lengths l E hE  σ299 _ h) mtX6_lengths lk_X6_244 (hE.1 0) (nX hE (by decide)) rfl ⟨by decide, by decide⟩ ⟨rfl, rfl⟩ rfl hl.1 rfl (Nat.le_of_ble_eq_true rfl) (dAt dX6_digest 196 rfl) ⟨Nat.zero_le _, Nat.zero_le _⟩) (fun r311 σ311 H locs h hw => ?_)
  refine lv_i2l hx hb (dAt dX6_digest 197 rfl) rfl ?_
  refine lv_ladd hx hb (dAt dX6_digest 198 rfl) ?_
  refine lv_topl (fun x1_316 ex1_316 => ?_)
  replace h := h x1_316 ex1_316
  refine lv_lstore_n (lv' := [(1, .long x1_316), (0, .ref (gE E 0))]) hx hb (dAt dX6_digest 199 rfl) rfl hl (by decide) rfl (fun ls hl => ?_)
  refine lv_ldc2 (v := 31) hx hb C.1.2.2.2.1 (C.1.2.2.2.2 _ ck_X6_299) (dAt dX6_digest 200 rfl) ?_
  refine lv_lload_n hx hb (dAt dX6_digest 201 rfl) rfl (lv_at hl 0 rfl) ?_
  refine lv_lmul hx hb (dAt dX6_digest 202 rfl) ?_
  refine lv_aload_n hx hb (dAt dX6_digest 203 rfl) rfl (lv_at hl 1 rfl) ?_
  refine x_calli C hw (x_runV (As := []) (rest := [.long ((31 : Int64) * x1_316)]) C hw (kX6_ask l E hE  σ311 _ h) mtX6_ask lk_X6_345 (hE.1 0) (nX hE (by decide)) rfl ⟨by decide, by decide⟩ ⟨rfl, rfl⟩ rfl hl.1 rfl (Nat.le_of_ble_eq_true rfl) (dAt dX6_digest 204 rfl) ⟨Nat.zero_le _, Nat.zero_le _⟩) (fun r323 σ323 H locs h hw => ?_)
  refine lv_i2l hx hb (dAt dX6_digest 205 rfl) rfl ?_
  refine lv_ladd hx hb (dAt dX6_digest 206 rfl) ?_
  refine lv_topl (fun x1_328 ex1_328 => ?_)
  replace h := h x1_328 ex1_328
  refine lv_lstore_n (lv' := [(1, .long x1_328), (0, .ref (gE E 0))]) hx hb (dAt dX6_digest 207 rfl) rfl hl (by decide) rfl (fun ls hl => ?_)
  refine lv_ldc2 (v := 31) hx hb C.1.2.2.2.1 (C.1.2.2.2.2 _ ck_X6_299) (dAt dX6_digest 208 rfl) ?_
  refine lv_lload_n hx hb (dAt dX6_digest 209 rfl) rfl (lv_at hl 0 rfl) ?_
  refine lv_lmul hx hb (dAt dX6_digest 210 rfl) ?_
  refine lv_aload_n hx hb (dAt dX6_digest 211 rfl) rfl (lv_at hl 1 rfl) ?_
  refine lv_bipush (v := 7) hx hb (dAt dX6_digest 212 rfl) (by decide) ?_
  refine lv_bipush (v := 18) hx hb (dAt dX6_digest 213 rfl) (by decide) ?_
  refine lv_iconst (v := 0) hx hb (dAt dX6_digest 214 rfl) (by decide) ?_
  refine x_calli C hw (x_runV (As := [.int (7 : Int32), .int (18 : Int32), .int (0 : Int32)]) (rest := [.long ((31 : Int64) * x1_328)]) C hw (kX6_dances l E hE (7 : Int32) (18 : Int32) (0 : Int32) σ323 _ h) mtX6_dances lk_X6_348 (hE.1 0) (nX hE (by decide)) rfl ⟨by decide, by decide⟩ ⟨rfl, rfl⟩ rfl hl.1 rfl (Nat.le_of_ble_eq_true rfl) (dAt dX6_digest 215 rfl) ⟨Nat.zero_le _, Nat.zero_le _⟩) (fun r340 σ340 H locs h hw => ?_)
  refine lv_i2l hx hb (dAt dX6_digest 216 rfl) rfl ?_
  refine lv_ladd hx hb (dAt dX6_digest 217 rfl) ?_
  refine lv_topl (fun x1_345 ex1_345 => ?_)
  replace h := h x1_345 ex1_345
  refine lv_lstore_n (lv' := [(1, .long x1_345), (0, .ref (gE E 0))]) hx hb (dAt dX6_digest 218 rfl) rfl hl (by decide) rfl (fun ls hl => ?_)
  refine lv_ldc2 (v := 31) hx hb C.1.2.2.2.1 (C.1.2.2.2.2 _ ck_X6_299) (dAt dX6_digest 219 rfl) ?_
  refine lv_lload_n hx hb (dAt dX6_digest 220 rfl) rfl (lv_at hl 0 rfl) ?_
  refine lv_lmul hx hb (dAt dX6_digest 221 rfl) ?_
  refine lv_aload_n hx hb (dAt dX6_digest 222 rfl) rfl (lv_at hl 1 rfl) ?_
  refine lv_bipush (v := 7) hx hb (dAt dX6_digest 223 rfl) (by decide) ?_
  refine lv_bipush (v := 18) hx hb (dAt dX6_digest 224 rfl) (by decide) ?_
  refine lv_iconst (v := 1) hx hb (dAt dX6_digest 225 rfl) (by decide) ?_
  refine x_calli C hw (x_runV (As := [.int (7 : Int32), .int (18 : Int32), .int (1 : Int32)]) (rest := [.long ((31 : Int64) * x1_345)]) C hw (kX6_dances l E hE (7 : Int32) (18 : Int32) (1 : Int32) σ340 _ h) mtX6_dances lk_X6_348 (hE.1 0) (nX hE (by decide)) rfl ⟨by decide, by decide⟩ ⟨rfl, rfl⟩ rfl hl.1 rfl (Nat.le_of_ble_eq_true rfl) (dAt dX6_digest 226 rfl) ⟨Nat.zero_le _, Nat.zero_le _⟩) (fun r357 σ357 H locs h hw => ?_)
  refine lv_i2l hx hb (dAt dX6_digest 227 rfl) rfl ?_
  refine lv_ladd hx hb (dAt dX6_digest 228 rfl) ?_
  exact x_lret C hw hr hlk h (dAt dX6_digest 229 rfl)
set_option maxHeartbeats 4000000 in
set_option maxRecDepth 100000 in
theorem kX6_digest_181 {p : Program} {l : Launch} {e : Env} {s : State} {m : MethodId} {args : Array Value} {below : List Frame} {meth : Method} {c : Code} {E : wE} (hE : wX E) (C : Cx p s m args c cX6_digest 7 RX6 E (wA E)) (hr : meth.sig.returnType = (some .long)) (hlk : meth.locks = false) {Q : Int64 → Mem → Prop} : ∀ (n : Nat) (x1 : Int64) (x3 : Int32) (σ : Mem) (H : Heap) (locs : List Loc) (ls : Array Slot), wd E (wA E) s σ H locs → lv_has ls 7 [(0, .ref (gE E 0)), (1, .long x1), (3, .int x3)] → wX6_digest_181 Q n x1 x3 σ → W p l e rX6_digest s m args below meth c H locs 0 0 (MQ below (wQl E Q) args s 0 0 (wA E)) (F0 m 181 ls []) := by
  have hx := C.1.1
  have hb := C.1.2.1
  intro n
  induction n with
  | zero =>
    intro x1 x3 σ  H locs ls hw hl h
    exact h.elim
  | succ n ih =>
    intro x1 x3 σ  H locs ls hw hl h
    rw [wX6_digest_181] at h
    refine lv_iload_n hx hb (dAt dX6_digest 110 rfl) rfl (lv_at hl 2 rfl) ?_
    refine lv_iconst (v := 2) hx hb (dAt dX6_digest 111 rfl) (by decide) ?_
    refine lv_icmp_gt (tgt := 205) hx hb (dAt dX6_digest 112 rfl) (by decide) (fun c183 => ?_) (fun c183 => ?_)
    · replace h := h.1 c183
      exact kX6_digest_205 hE C hr hlk x1 σ  _ _ _ hw (lv_sub hl [0, 1] rfl) h
    · replace h := h.2 c183
      refine lv_ldc2 (v := 31) hx hb C.1.2.2.2.1 (C.1.2.2.2.2 _ ck_X6_299) (dAt dX6_digest 113 rfl) ?_
      refine lv_lload_n hx hb (dAt dX6_digest 114 rfl) rfl (lv_at hl 1 rfl) ?_
      refine lv_lmul hx hb (dAt dX6_digest 115 rfl) ?_
      refine lv_aload_n hx hb (dAt dX6_digest 116 rfl) rfl (lv_at hl 0 rfl) ?_
      refine lv_iload_n hx hb (dAt dX6_digest 117 rfl) rfl (lv_at hl 2 rfl) ?_
      refine x_calli C hw (x_runV (As := [.int x3]) (rest := [.long ((31 : Int64) * x1)]) C hw (kX6_sum l E hE x3 σ _ h) mtX6_sum lk_X6_324 (hE.1 0) (nX hE (by decide)) rfl ⟨by decide, by decide⟩ ⟨rfl, rfl⟩ rfl hl.1 rfl (Nat.le_of_ble_eq_true rfl) (dAt dX6_digest 118 rfl) ⟨Nat.zero_le _, Nat.zero_le _⟩) (fun r193 σ193 H locs h hw => ?_)
      refine lv_i2l hx hb (dAt dX6_digest 119 rfl) rfl ?_
      refine lv_ladd hx hb (dAt dX6_digest 120 rfl) ?_
      refine lv_topl (fun x1_198 ex1_198 => ?_)
      replace h := h x1_198 ex1_198
      refine lv_lstore_n (lv' := [(1, .long x1_198), (0, .ref (gE E 0)), (3, .int x3)]) hx hb (dAt dX6_digest 121 rfl) rfl hl (by decide) rfl (fun ls hl => ?_)
      refine lv_iinc (v := (x3 + (1 : Int32))) (lv' := [(3, .int (x3 + (1 : Int32))), (1, .long x1_198), (0, .ref (gE E 0))]) hx hb (dAt dX6_digest 122 rfl) hl (k := 2) rfl rfl (by decide) rfl (fun ls hl => ?_)
      refine lv_goto (tgt := 181) hx hb (dAt dX6_digest 123 rfl) (by decide) ?_
      exact ih x1_198 (x3 + (1 : Int32)) σ193  _ _ _ hw (lv_sub hl [2, 1, 0] rfl) h
set_option maxHeartbeats 4000000 in
set_option maxRecDepth 100000 in
theorem kX6_digest_100 {p : Program} {l : Launch} {e : Env} {s : State} {m : MethodId} {args : Array Value} {below : List Frame} {meth : Method} {c : Code} {E : wE} (hE : wX E) (C : Cx p s m args c cX6_digest 7 RX6 E (wA E)) (hr : meth.sig.returnType = (some .long)) (hlk : meth.locks = false) {Q : Int64 → Mem → Prop} : ∀ (n : Nat) (x1 : Int64) (x4 : Int32) (x5 : Int32) (σ : Mem) (H : Heap) (locs : List Loc) (ls : Array Slot), wd E (wA E) s σ H locs → lv_has ls 7 [(0, .ref (gE E 0)), (1, .long x1), (3, .ref (aE E).2), (4, .int x4), (5, .int x5)] → wX6_digest_100 Q n x1 x4 x5 σ → W p l e rX6_digest s m args below meth c H locs 0 0 (MQ below (wQl E Q) args s 0 0 (wA E)) (F0 m 100 ls []) := by
  have hx := C.1.1
  have hb := C.1.2.1
  intro n
  induction n with
  | zero =>
    intro x1 x4 x5 σ  H locs ls hw hl h
    exact h.elim
  | succ n ih =>
    intro x1 x4 x5 σ  H locs ls hw hl h
    rw [wX6_digest_100] at h
    refine lv_iload hx hb (dAt dX6_digest 59 rfl) (lv_at hl 4 rfl) ?_
    refine lv_iload hx hb (dAt dX6_digest 60 rfl) (lv_at hl 3 rfl) ?_
    refine lv_icmp_ge (tgt := 179) hx hb (dAt dX6_digest 61 rfl) (by decide) (fun c104 => ?_) (fun c104 => ?_)
    · replace h := h.1 c104
      refine lv_iconst (v := 0) hx hb (dAt dX6_digest 108 rfl) (by decide) ?_
      refine lv_istore_n (lv' := [(3, .int (0 : Int32)), (0, .ref (gE E 0)), (1, .long x1), (4, .int x4), (5, .int x5)]) hx hb (dAt dX6_digest 109 rfl) rfl hl (by decide) rfl (fun ls hl => ?_)
      obtain ⟨n181, h⟩ := h
      exact kX6_digest_181 hE C hr hlk n181 x1 (0 : Int32) σ  _ _ _ hw (lv_sub hl [1, 2, 0] rfl) h
    · replace h := h.2 c104
      refine lv_aload_n hx hb (dAt dX6_digest 62 rfl) rfl (lv_at hl 2 rfl) ?_
      refine lv_iload hx hb (dAt dX6_digest 63 rfl) (lv_at hl 4 rfl) ?_
      obtain ⟨z110, h⟩ := h
      refine x_ldQ C hw z110 (dAt dX6_digest 64 rfl) ?_
      refine lv_topi (fun x6_111 ex6_111 => ?_)
      replace h := h x6_111 ex6_111
      refine lv_istore (lv' := [(6, .int x6_111), (0, .ref (gE E 0)), (1, .long x1), (3, .ref (aE E).2), (4, .int x4), (5, .int x5)]) hx hb (dAt dX6_digest 65 rfl) hl (by decide) rfl (fun ls hl => ?_)
      refine lv_ldc2 (v := 31) hx hb C.1.2.2.2.1 (C.1.2.2.2.2 _ ck_X6_299) (dAt dX6_digest 66 rfl) ?_
      refine lv_lload_n hx hb (dAt dX6_digest 67 rfl) rfl (lv_at hl 2 rfl) ?_
      refine lv_lmul hx hb (dAt dX6_digest 68 rfl) ?_
      refine lv_aload_n hx hb (dAt dX6_digest 69 rfl) rfl (lv_at hl 1 rfl) ?_
      refine lv_iload hx hb (dAt dX6_digest 70 rfl) (lv_at hl 0 rfl) ?_
      refine lv_iconst (v := 0) hx hb (dAt dX6_digest 71 rfl) (by decide) ?_
      refine x_calli C hw (x_runV (As := [.int x6_111, .int (0 : Int32)]) (rest := [.long ((31 : Int64) * x1)]) C hw (kX6_step l E hE x6_111 (0 : Int32) σ _ h) mtX6_step lk_X6_318 (hE.1 0) (nX hE (by decide)) rfl ⟨by decide, by decide⟩ ⟨rfl, rfl⟩ rfl hl.1 rfl (Nat.le_of_ble_eq_true rfl) (dAt dX6_digest 72 rfl) ⟨Nat.zero_le _, Nat.zero_le _⟩) (fun r122 σ122 H locs h hw => ?_)
      refine lv_i2l hx hb (dAt dX6_digest 73 rfl) rfl ?_
      refine lv_ladd hx hb (dAt dX6_digest 74 rfl) ?_
      refine lv_topl (fun x1_127 ex1_127 => ?_)
      replace h := h x1_127 ex1_127
      refine lv_lstore_n (lv' := [(1, .long x1_127), (6, .int x6_111), (0, .ref (gE E 0)), (3, .ref (aE E).2), (4, .int x4), (5, .int x5)]) hx hb (dAt dX6_digest 75 rfl) rfl hl (by decide) rfl (fun ls hl => ?_)
      refine lv_ldc2 (v := 31) hx hb C.1.2.2.2.1 (C.1.2.2.2.2 _ ck_X6_299) (dAt dX6_digest 76 rfl) ?_
      refine lv_lload_n hx hb (dAt dX6_digest 77 rfl) rfl (lv_at hl 0 rfl) ?_
      refine lv_lmul hx hb (dAt dX6_digest 78 rfl) ?_
      refine lv_aload_n hx hb (dAt dX6_digest 79 rfl) rfl (lv_at hl 2 rfl) ?_
      refine lv_iload hx hb (dAt dX6_digest 80 rfl) (lv_at hl 1 rfl) ?_
      refine lv_iconst (v := 1) hx hb (dAt dX6_digest 81 rfl) (by decide) ?_
      refine x_calli C hw (x_runV (As := [.int x6_111, .int (1 : Int32)]) (rest := [.long ((31 : Int64) * x1_127)]) C hw (kX6_step l E hE x6_111 (1 : Int32) σ122 _ h) mtX6_step lk_X6_318 (hE.1 0) (nX hE (by decide)) rfl ⟨by decide, by decide⟩ ⟨rfl, rfl⟩ rfl hl.1 rfl (Nat.le_of_ble_eq_true rfl) (dAt dX6_digest 82 rfl) ⟨Nat.zero_le _, Nat.zero_le _⟩) (fun r137 σ137 H locs h hw => ?_)
      refine lv_i2l hx hb (dAt dX6_digest 83 rfl) rfl ?_
      refine lv_ladd hx hb (dAt dX6_digest 84 rfl) ?_
      refine lv_topl (fun x1_142 ex1_142 => ?_)
      replace h := h x1_142 ex1_142
      refine lv_lstore_n (lv' := [(1, .long x1_142), (6, .int x6_111), (0, .ref (gE E 0)), (3, .ref (aE E).2), (4, .int x4), (5, .int x5)]) hx hb (dAt dX6_digest 85 rfl) rfl hl (by decide) rfl (fun ls hl => ?_)
      refine lv_ldc2 (v := 31) hx hb C.1.2.2.2.1 (C.1.2.2.2.2 _ ck_X6_299) (dAt dX6_digest 86 rfl) ?_
      refine lv_lload_n hx hb (dAt dX6_digest 87 rfl) rfl (lv_at hl 0 rfl) ?_
      refine lv_lmul hx hb (dAt dX6_digest 88 rfl) ?_
      refine lv_aload_n hx hb (dAt dX6_digest 89 rfl) rfl (lv_at hl 2 rfl) ?_
      refine lv_iconst (v := 5) hx hb (dAt dX6_digest 90 rfl) (by decide) ?_
      refine lv_iload hx hb (dAt dX6_digest 91 rfl) (lv_at hl 1 rfl) ?_
      refine lv_iconst (v := 0) hx hb (dAt dX6_digest 92 rfl) (by decide) ?_
      refine x_calll C hw (x_runV (As := [.int (5 : Int32), .int x6_111, .int (0 : Int32)]) (rest := [.long ((31 : Int64) * x1_142)]) C hw (kX6_chance l E hE (5 : Int32) x6_111 (0 : Int32) σ137 _ h) mtX6_chance lk_X6_320 (hE.1 0) (nX hE (by decide)) rfl ⟨by decide, by decide⟩ ⟨rfl, rfl⟩ rfl hl.1 rfl (Nat.le_of_ble_eq_true rfl) (dAt dX6_digest 93 rfl) ⟨Nat.zero_le _, Nat.zero_le _⟩) (fun r153 σ153 H locs h hw => ?_)
      refine lv_ladd hx hb (dAt dX6_digest 94 rfl) ?_
      refine lv_topl (fun x1_157 ex1_157 => ?_)
      replace h := h x1_157 ex1_157
      refine lv_lstore_n (lv' := [(1, .long x1_157), (6, .int x6_111), (0, .ref (gE E 0)), (3, .ref (aE E).2), (4, .int x4), (5, .int x5)]) hx hb (dAt dX6_digest 95 rfl) rfl hl (by decide) rfl (fun ls hl => ?_)
      refine lv_ldc2 (v := 31) hx hb C.1.2.2.2.1 (C.1.2.2.2.2 _ ck_X6_299) (dAt dX6_digest 96 rfl) ?_
      refine lv_lload_n hx hb (dAt dX6_digest 97 rfl) rfl (lv_at hl 0 rfl) ?_
      refine lv_lmul hx hb (dAt dX6_digest 98 rfl) ?_
      refine lv_aload_n hx hb (dAt dX6_digest 99 rfl) rfl (lv_at hl 2 rfl) ?_
      refine lv_iconst (v := 5) hx hb (dAt dX6_digest 100 rfl) (by decide) ?_
      refine lv_iload hx hb (dAt dX6_digest 101 rfl) (lv_at hl 1 rfl) ?_
      refine lv_iconst (v := 1) hx hb (dAt dX6_digest 102 rfl) (by decide) ?_
      refine x_calll C hw (x_runV (As := [.int (5 : Int32), .int x6_111, .int (1 : Int32)]) (rest := [.long ((31 : Int64) * x1_157)]) C hw (kX6_chance l E hE (5 : Int32) x6_111 (1 : Int32) σ153 _ h) mtX6_chance lk_X6_320 (hE.1 0) (nX hE (by decide)) rfl ⟨by decide, by decide⟩ ⟨rfl, rfl⟩ rfl hl.1 rfl (Nat.le_of_ble_eq_true rfl) (dAt dX6_digest 103 rfl) ⟨Nat.zero_le _, Nat.zero_le _⟩) (fun r168 σ168 H locs h hw => ?_)
      refine lv_ladd hx hb (dAt dX6_digest 104 rfl) ?_
      refine lv_topl (fun x1_172 ex1_172 => ?_)
      replace h := h x1_172 ex1_172
      refine lv_lstore_n (lv' := [(1, .long x1_172), (6, .int x6_111), (0, .ref (gE E 0)), (3, .ref (aE E).2), (4, .int x4), (5, .int x5)]) hx hb (dAt dX6_digest 105 rfl) rfl hl (by decide) rfl (fun ls hl => ?_)
      refine lv_iinc (v := (x5 + (1 : Int32))) (lv' := [(5, .int (x5 + (1 : Int32))), (1, .long x1_172), (6, .int x6_111), (0, .ref (gE E 0)), (3, .ref (aE E).2), (4, .int x4)]) hx hb (dAt dX6_digest 106 rfl) hl (k := 5) rfl rfl (by decide) rfl (fun ls hl => ?_)
      refine lv_goto (tgt := 100) hx hb (dAt dX6_digest 107 rfl) (by decide) ?_
      exact ih x1_172 x4 (x5 + (1 : Int32)) σ168  _ _ _ hw (lv_sub hl [3, 1, 4, 5, 0] rfl) h
set_option maxHeartbeats 4000000 in
set_option maxRecDepth 100000 in
theorem kX6_digest_89 {p : Program} {l : Launch} {e : Env} {s : State} {m : MethodId} {args : Array Value} {below : List Frame} {meth : Method} {c : Code} {E : wE} (hE : wX E) (C : Cx p s m args c cX6_digest 7 RX6 E (wA E)) (hr : meth.sig.returnType = (some .long)) (hlk : meth.locks = false) {Q : Int64 → Mem → Prop} : ∀ (x1 : Int64) (σ : Mem) (H : Heap) (locs : List Loc) (ls : Array Slot), wd E (wA E) s σ H locs → lv_has ls 7 [(0, .ref (gE E 0)), (1, .long x1)] → wX6_digest_89 Q x1 σ → W p l e rX6_digest s m args below meth c H locs 0 0 (MQ below (wQl E Q) args s 0 0 (wA E)) (F0 m 89 ls []) := by
  have hx := C.1.1
  have hb := C.1.2.1
  intro x1 σ  H locs ls hw hl h
  unfold wX6_digest_89 at h
  refine x_stQ C hw (TB_of 728 (by decide +kernel) rfl) (dAt dX6_digest 52 rfl) ?_
  refine lv_astore_n (lv' := [(3, .ref (aE E).2), (0, .ref (gE E 0)), (1, .long x1)]) hx hb (dAt dX6_digest 53 rfl) rfl hl (by decide) rfl (fun ls hl => ?_)
  refine lv_aload_n hx hb (dAt dX6_digest 54 rfl) rfl (lv_at hl 0 rfl) ?_
  refine x_lenQ C hw (dAt dX6_digest 55 rfl) ?_
  refine lv_istore (lv' := [(4, .int (3 : Int32)), (3, .ref (aE E).2), (0, .ref (gE E 0)), (1, .long x1)]) hx hb (dAt dX6_digest 56 rfl) hl (by decide) rfl (fun ls hl => ?_)
  refine lv_iconst (v := 0) hx hb (dAt dX6_digest 57 rfl) (by decide) ?_
  refine lv_istore (lv' := [(5, .int (0 : Int32)), (4, .int (3 : Int32)), (3, .ref (aE E).2), (0, .ref (gE E 0)), (1, .long x1)]) hx hb (dAt dX6_digest 58 rfl) hl (by decide) rfl (fun ls hl => ?_)
  obtain ⟨n100, h⟩ := h
  exact kX6_digest_100 hE C hr hlk n100 x1 (3 : Int32) (0 : Int32) σ  _ _ _ hw (lv_sub hl [3, 4, 2, 1, 0] rfl) h
set_option maxHeartbeats 4000000 in
set_option maxRecDepth 100000 in
theorem kX6_digest_65 {p : Program} {l : Launch} {e : Env} {s : State} {m : MethodId} {args : Array Value} {below : List Frame} {meth : Method} {c : Code} {E : wE} (hE : wX E) (C : Cx p s m args c cX6_digest 7 RX6 E (wA E)) (hr : meth.sig.returnType = (some .long)) (hlk : meth.locks = false) {Q : Int64 → Mem → Prop} : ∀ (n : Nat) (x1 : Int64) (x3 : Int32) (σ : Mem) (H : Heap) (locs : List Loc) (ls : Array Slot), wd E (wA E) s σ H locs → lv_has ls 7 [(0, .ref (gE E 0)), (1, .long x1), (3, .int x3)] → wX6_digest_65 Q n x1 x3 σ → W p l e rX6_digest s m args below meth c H locs 0 0 (MQ below (wQl E Q) args s 0 0 (wA E)) (F0 m 65 ls []) := by
  have hx := C.1.1
  have hb := C.1.2.1
  intro n
  induction n with
  | zero =>
    intro x1 x3 σ  H locs ls hw hl h
    exact h.elim
  | succ n ih =>
    intro x1 x3 σ  H locs ls hw hl h
    rw [wX6_digest_65] at h
    refine lv_iload_n hx hb (dAt dX6_digest 40 rfl) rfl (lv_at hl 2 rfl) ?_
    refine lv_aload_n hx hb (dAt dX6_digest 41 rfl) rfl (lv_at hl 0 rfl) ?_
    refine x_getr C hw fl_X6_28 (hE.1 0) (nX hE (by decide)) rfl (dAt dX6_digest 42 rfl) ?_
    refine x_getiN C hw fl_X6_193 (hE.1 10) (nX hE (by decide)) rfl (dAt dX6_digest 43 rfl) ?_
    refine lv_icmp_ge (tgt := 89) hx hb (dAt dX6_digest 44 rfl) (by decide) (fun c73 => ?_) (fun c73 => ?_)
    · replace h := h.1 c73
      exact kX6_digest_89 hE C hr hlk x1 σ  _ _ _ hw (lv_sub hl [0, 1] rfl) h
    · replace h := h.2 c73
      refine lv_aload_n hx hb (dAt dX6_digest 45 rfl) rfl (lv_at hl 0 rfl) ?_
      refine lv_lload_n hx hb (dAt dX6_digest 46 rfl) rfl (lv_at hl 1 rfl) ?_
      refine lv_iload_n hx hb (dAt dX6_digest 47 rfl) rfl (lv_at hl 2 rfl) ?_
      refine x_calll C hw (x_runV (As := [.long x1, .int x3]) (rest := []) C hw (kX6_digestOfDancer l E hE x1 x3 σ _ h) mtX6_digestOfDancer lk_X6_311 (hE.1 0) (nX hE (by decide)) rfl ⟨by decide, by decide⟩ ⟨rfl, rfl⟩ rfl hl.1 rfl (Nat.le_of_ble_eq_true rfl) (dAt dX6_digest 48 rfl) ⟨Nat.zero_le _, Nat.zero_le _⟩) (fun r79 σ79 H locs h hw => ?_)
      refine lv_lstore_n (lv' := [(1, .long r79), (0, .ref (gE E 0)), (3, .int x3)]) hx hb (dAt dX6_digest 49 rfl) rfl hl (by decide) rfl (fun ls hl => ?_)
      refine lv_iinc (v := (x3 + (1 : Int32))) (lv' := [(3, .int (x3 + (1 : Int32))), (1, .long r79), (0, .ref (gE E 0))]) hx hb (dAt dX6_digest 50 rfl) hl (k := 2) rfl rfl (by decide) rfl (fun ls hl => ?_)
      refine lv_goto (tgt := 65) hx hb (dAt dX6_digest 51 rfl) (by decide) ?_
      exact ih r79 (x3 + (1 : Int32)) σ79  _ _ _ hw (lv_sub hl [2, 1, 0] rfl) h
set_option maxHeartbeats 4000000 in
set_option maxRecDepth 100000 in
theorem kX6_digest_33 {p : Program} {l : Launch} {e : Env} {s : State} {m : MethodId} {args : Array Value} {below : List Frame} {meth : Method} {c : Code} {E : wE} (hE : wX E) (C : Cx p s m args c cX6_digest 7 RX6 E (wA E)) (hr : meth.sig.returnType = (some .long)) (hlk : meth.locks = false) {Q : Int64 → Mem → Prop} : ∀ (n : Nat) (x1 : Int64) (x3 : Int32) (σ : Mem) (H : Heap) (locs : List Loc) (ls : Array Slot), wd E (wA E) s σ H locs → lv_has ls 7 [(0, .ref (gE E 0)), (1, .long x1), (3, .int x3)] → wX6_digest_33 Q n x1 x3 σ → W p l e rX6_digest s m args below meth c H locs 0 0 (MQ below (wQl E Q) args s 0 0 (wA E)) (F0 m 33 ls []) := by
  have hx := C.1.1
  have hb := C.1.2.1
  intro n
  induction n with
  | zero =>
    intro x1 x3 σ  H locs ls hw hl h
    exact h.elim
  | succ n ih =>
    intro x1 x3 σ  H locs ls hw hl h
    rw [wX6_digest_33] at h
    refine lv_iload_n hx hb (dAt dX6_digest 20 rfl) rfl (lv_at hl 2 rfl) ?_
    refine lv_iconst (v := 1) hx hb (dAt dX6_digest 21 rfl) (by decide) ?_
    refine lv_icmp_gt (tgt := 57) hx hb (dAt dX6_digest 22 rfl) (by decide) (fun c35 => ?_) (fun c35 => ?_)
    · replace h := h.1 c35
      refine lv_aload_n hx hb (dAt dX6_digest 34 rfl) rfl (lv_at hl 0 rfl) ?_
      refine lv_lload_n hx hb (dAt dX6_digest 35 rfl) rfl (lv_at hl 1 rfl) ?_
      refine x_calll C hw (x_runV (As := [.long x1]) (rest := []) C hw (kX6_digestOfBeats l E hE x1 σ _ h) mtX6_digestOfBeats lk_X6_307 (hE.1 0) (nX hE (by decide)) rfl ⟨by decide, by decide⟩ ⟨rfl, rfl⟩ rfl hl.1 rfl (Nat.le_of_ble_eq_true rfl) (dAt dX6_digest 36 rfl) ⟨Nat.zero_le _, Nat.zero_le _⟩) (fun r59 σ59 H locs h hw => ?_)
      refine lv_lstore_n (lv' := [(1, .long r59), (0, .ref (gE E 0)), (3, .int x3)]) hx hb (dAt dX6_digest 37 rfl) rfl hl (by decide) rfl (fun ls hl => ?_)
      refine lv_iconst (v := 0) hx hb (dAt dX6_digest 38 rfl) (by decide) ?_
      refine lv_istore_n (lv' := [(3, .int (0 : Int32)), (1, .long r59), (0, .ref (gE E 0))]) hx hb (dAt dX6_digest 39 rfl) rfl hl (by decide) rfl (fun ls hl => ?_)
      obtain ⟨n65, h⟩ := h
      exact kX6_digest_65 hE C hr hlk n65 r59 (0 : Int32) σ59  _ _ _ hw (lv_sub hl [2, 1, 0] rfl) h
    · replace h := h.2 c35
      refine lv_ldc2 (v := 31) hx hb C.1.2.2.2.1 (C.1.2.2.2.2 _ ck_X6_299) (dAt dX6_digest 23 rfl) ?_
      refine lv_lload_n hx hb (dAt dX6_digest 24 rfl) rfl (lv_at hl 1 rfl) ?_
      refine lv_lmul hx hb (dAt dX6_digest 25 rfl) ?_
      refine lv_aload_n hx hb (dAt dX6_digest 26 rfl) rfl (lv_at hl 0 rfl) ?_
      refine lv_iload_n hx hb (dAt dX6_digest 27 rfl) rfl (lv_at hl 2 rfl) ?_
      refine x_calli C hw (x_runV (As := [.int x3]) (rest := [.long ((31 : Int64) * x1)]) C hw (kX6_fault l E hE x3 σ _ h) mtX6_fault lk_X6_304 (hE.1 0) (nX hE (by decide)) rfl ⟨by decide, by decide⟩ ⟨rfl, rfl⟩ rfl hl.1 rfl (Nat.le_of_ble_eq_true rfl) (dAt dX6_digest 28 rfl) ⟨Nat.zero_le _, Nat.zero_le _⟩) (fun r45 σ45 H locs h hw => ?_)
      refine lv_i2l hx hb (dAt dX6_digest 29 rfl) rfl ?_
      refine lv_ladd hx hb (dAt dX6_digest 30 rfl) ?_
      refine lv_topl (fun x1_50 ex1_50 => ?_)
      replace h := h x1_50 ex1_50
      refine lv_lstore_n (lv' := [(1, .long x1_50), (0, .ref (gE E 0)), (3, .int x3)]) hx hb (dAt dX6_digest 31 rfl) rfl hl (by decide) rfl (fun ls hl => ?_)
      refine lv_iinc (v := (x3 + (1 : Int32))) (lv' := [(3, .int (x3 + (1 : Int32))), (1, .long x1_50), (0, .ref (gE E 0))]) hx hb (dAt dX6_digest 32 rfl) hl (k := 2) rfl rfl (by decide) rfl (fun ls hl => ?_)
      refine lv_goto (tgt := 33) hx hb (dAt dX6_digest 33 rfl) (by decide) ?_
      exact ih x1_50 (x3 + (1 : Int32)) σ45  _ _ _ hw (lv_sub hl [2, 1, 0] rfl) h
set_option maxHeartbeats 4000000 in
set_option maxRecDepth 100000 in
theorem kX6_digest_6 {p : Program} {l : Launch} {e : Env} {s : State} {m : MethodId} {args : Array Value} {below : List Frame} {meth : Method} {c : Code} {E : wE} (hE : wX E) (C : Cx p s m args c cX6_digest 7 RX6 E (wA E)) (hr : meth.sig.returnType = (some .long)) (hlk : meth.locks = false) {Q : Int64 → Mem → Prop} : ∀ (n : Nat) (x1 : Int64) (x3 : Int32) (σ : Mem) (H : Heap) (locs : List Loc) (ls : Array Slot), wd E (wA E) s σ H locs → lv_has ls 7 [(0, .ref (gE E 0)), (1, .long x1), (3, .int x3)] → wX6_digest_6 Q n x1 x3 σ → W p l e rX6_digest s m args below meth c H locs 0 0 (MQ below (wQl E Q) args s 0 0 (wA E)) (F0 m 6 ls []) := by
  have hx := C.1.1
  have hb := C.1.2.1
  intro n
  induction n with
  | zero =>
    intro x1 x3 σ  H locs ls hw hl h
    exact h.elim
  | succ n ih =>
    intro x1 x3 σ  H locs ls hw hl h
    rw [wX6_digest_6] at h
    refine lv_iload_n hx hb (dAt dX6_digest 4 rfl) rfl (lv_at hl 2 rfl) ?_
    refine lv_bipush (v := 7) hx hb (dAt dX6_digest 5 rfl) (by decide) ?_
    refine lv_icmp_gt (tgt := 31) hx hb (dAt dX6_digest 6 rfl) (by decide) (fun c9 => ?_) (fun c9 => ?_)
    · replace h := h.1 c9
      refine lv_iconst (v := 0) hx hb (dAt dX6_digest 18 rfl) (by decide) ?_
      refine lv_istore_n (lv' := [(3, .int (0 : Int32)), (0, .ref (gE E 0)), (1, .long x1)]) hx hb (dAt dX6_digest 19 rfl) rfl hl (by decide) rfl (fun ls hl => ?_)
      obtain ⟨n33, h⟩ := h
      exact kX6_digest_33 hE C hr hlk n33 x1 (0 : Int32) σ  _ _ _ hw (lv_sub hl [1, 2, 0] rfl) h
    · replace h := h.2 c9
      refine lv_ldc2 (v := 31) hx hb C.1.2.2.2.1 (C.1.2.2.2.2 _ ck_X6_299) (dAt dX6_digest 7 rfl) ?_
      refine lv_lload_n hx hb (dAt dX6_digest 8 rfl) rfl (lv_at hl 1 rfl) ?_
      refine lv_lmul hx hb (dAt dX6_digest 9 rfl) ?_
      refine lv_aload_n hx hb (dAt dX6_digest 10 rfl) rfl (lv_at hl 0 rfl) ?_
      refine lv_iload_n hx hb (dAt dX6_digest 11 rfl) rfl (lv_at hl 2 rfl) ?_
      refine x_calli C hw (x_runV (As := [.int x3]) (rest := [.long ((31 : Int64) * x1)]) C hw (kX6_count l E hE x3 σ _ h) mtX6_count lk_X6_301 (hE.1 0) (nX hE (by decide)) rfl ⟨by decide, by decide⟩ ⟨rfl, rfl⟩ rfl hl.1 rfl (Nat.le_of_ble_eq_true rfl) (dAt dX6_digest 12 rfl) ⟨Nat.zero_le _, Nat.zero_le _⟩) (fun r19 σ19 H locs h hw => ?_)
      refine lv_i2l hx hb (dAt dX6_digest 13 rfl) rfl ?_
      refine lv_ladd hx hb (dAt dX6_digest 14 rfl) ?_
      refine lv_topl (fun x1_24 ex1_24 => ?_)
      replace h := h x1_24 ex1_24
      refine lv_lstore_n (lv' := [(1, .long x1_24), (0, .ref (gE E 0)), (3, .int x3)]) hx hb (dAt dX6_digest 15 rfl) rfl hl (by decide) rfl (fun ls hl => ?_)
      refine lv_iinc (v := (x3 + (1 : Int32))) (lv' := [(3, .int (x3 + (1 : Int32))), (1, .long x1_24), (0, .ref (gE E 0))]) hx hb (dAt dX6_digest 16 rfl) hl (k := 2) rfl rfl (by decide) rfl (fun ls hl => ?_)
      refine lv_goto (tgt := 6) hx hb (dAt dX6_digest 17 rfl) (by decide) ?_
      exact ih x1_24 (x3 + (1 : Int32)) σ19  _ _ _ hw (lv_sub hl [2, 1, 0] rfl) h
set_option maxHeartbeats 4000000 in
set_option maxRecDepth 100000 in
theorem kX6_digest (l : Launch) (E : wE) (hE : wX E) (σ : Mem) (Q : Int64 → Mem → Prop) (h : wX6_digest  σ Q) : Met l yX6_digest (Cond.code yX6_digest cX6_digest 7 (some .long) :: TB) rX6_digest (wPc E σ [.ref (gE E 0)]) (wQl E Q) 0 0 (wA E) := by
  refine wMet (by decide) hE.2.2 (Nat.le_of_ble_eq_true rfl) ?_
  intro p e s m args below meth c ls C hr hlk hl hw
  have hx := C.1.1
  have hb := C.1.2.1
  replace C : Cx p s m args c cX6_digest 7 RX6 E (wA E) := C
  replace hl : lv_has ls 7 [(0, .ref (gE E 0))] := hl
  unfold wX6_digest at h
  refine lv_ldc2 (v := 17) hx hb C.1.2.2.2.1 (C.1.2.2.2.2 _ ck_X6_297) (dAt dX6_digest 0 rfl) ?_
  refine lv_lstore_n (lv' := [(1, .long (17 : Int64)), (0, .ref (gE E 0))]) hx hb (dAt dX6_digest 1 rfl) rfl hl (by decide) rfl (fun ls hl => ?_)
  refine lv_iconst (v := 0) hx hb (dAt dX6_digest 2 rfl) (by decide) ?_
  refine lv_istore_n (lv' := [(3, .int (0 : Int32)), (1, .long (17 : Int64)), (0, .ref (gE E 0))]) hx hb (dAt dX6_digest 3 rfl) rfl hl (by decide) rfl (fun ls hl => ?_)
  obtain ⟨n6, h⟩ := h
  exact kX6_digest_6 hE C hr hlk n6 (17 : Int64) (0 : Int32) σ  _ _ _ hw (lv_sub hl [2, 1, 0] rfl) h
