def tL_h : List (Nat × Instr × Nat) := [(0, .new 7, 3), (3, .dup, 1), (4, .invokespecial 9, 3), (7, .astore_n 1, 1), (8, .new 10, 3), (11, .dup, 1), (12, .invokespecial 12, 3), (15, .astore_n 2, 1), (16, .iconst 0, 1), (17, .istore_n 3, 1), (18, .iload_n 3, 1), (19, .aload_n 0, 1), (20, .arraylength, 1), (21, .bipush 6, 2), (23, .isub, 1), (24, .if_icmp .gt 1265, 3), (27, .aload_n 0, 1), (28, .iload_n 3, 1), (29, .iaload, 1), (30, .bipush 63, 2), (32, .iand, 1), (33, .tableswitch 1250 0 38 #[171, 204, 227, 250, 273, 306, 329, 352, 395, 408, 431, 474, 507, 540, 563, 586, 609, 622, 635, 648, 681, 714, 747, 770, 803, 816, 829, 852, 865, 878, 922, 965, 1008, 1031, 1084, 1127, 1190, 1213, 1236], 171), (1283, .iinc 3 6, 3), (1286, .goto (-1268), 3), (1289, .iconst 1, 1), (1290, .ireturn, 1)]
theorem dL_h : dOk cL_law tL_h = true := by decide +kernel
theorem lw_le {i L : Nat} (hL : L ≤ 3072) (hi : i ≤ 3072) (h : ¬ Int32.ofNat L - (6 : Int32) < nI i) : i + 6 ≤ L := by
  have e1 : (nI L - nI 6).toInt = (L : Int) - 6 := pk_sub_toInt (by omega) (by omega)
  have e2 : (nI i).toInt = (i : Int) := nI_toInt (by omega)
  have h2 : ¬ (nI L - nI 6) < nI i := h
  rw [Int32.lt_iff_toInt_lt, e1, e2] at h2
  omega
set_option maxHeartbeats 4000000 in
set_option maxRecDepth 100000 in
theorem law_loop {p : Program} {l : Launch} {e : Env} {s : State} {m : MethodId} {below : List Frame} {meth : Method} {c : Code} {b L : Nat} {xs : Nat → Int32} {EX EM : wE} {R : Mem → Mem → Prop} (hok : LawOk R) (hL : L ≤ 3072) (CX : Cx p s m #[Value.ref b] c cL_law 4 RL EX (fun q : Nat => s.heap.size ≤ q)) (CM : Cx p s m #[Value.ref b] c cL_law 4 RL EM (fun q : Nat => s.heap.size ≤ q)) (hX : wX EX) (hM : wM EM) (hd1 : ∀ q, wA EX q → ¬ wA EM q) (hd2 : ∀ q, wA EM q → ¬ wA EX q) (hX0 : va_X b L xs s s.heap) (hbl : b < s.heap.size) (hr : meth.sig.returnType = ret) (hlocks : meth.locks = false) : ∀ (n i : Nat), i ≤ L → L + 1 ≤ i + n → ∀ (σ τ : Mem) (H : Heap) (locs : List Loc) (ls : Array Slot), wd EX (fun q : Nat => s.heap.size ≤ q) s σ H locs → va_P EM.1 vwCl (wL EM τ) H → R σ τ → lv_has ls 4 [(0, .ref b), (1, .ref (gE EX 0)), (2, .ref (gE EM 0)), (3, .int (nI i))] → W p l e room_1 s m #[Value.ref b] below meth c H locs 90 6406 (lw_Z below #[Value.ref b] s) (F0 m 18 ls []) := by
  have hx := CX.1.1
  have hb := CX.1.2.1
  have hbA : ¬ (fun q : Nat => s.heap.size ≤ q) b := Nat.not_le.mpr hbl
  intro n
  induction n with
  | zero =>
    intro i h1 h2
    exact absurd h2 (by omega)
  | succ n ih =>
    intro i hiL hin σ τ H locs ls hw hPM hR hl
    refine lv_iload_n hx hb (dAt dL_h 10 rfl) rfl (lv_at hl 3 rfl) ?_
    refine lv_aload_n hx hb (dAt dL_h 11 rfl) rfl (lv_at hl 0 rfl) ?_
    refine va_slen hx hb hX0 hbl hbA hw.2 (dAt dL_h 12 rfl) ?_
    refine lv_bipush (v := 6) hx hb (dAt dL_h 13 rfl) (by decide) ?_
    refine lv_isub hx hb (dAt dL_h 14 rfl) ?_
    refine lv_icmp_gt (tgt := 1289) hx hb (dAt dL_h 15 rfl) (by decide) (fun c24 => ?_) (fun c24 => ?_)
    · refine lv_iconst (v := 1) hx hb (dAt dL_h 24 rfl) (by decide) ?_
      refine va_forget (fun q hq => hw.2.2.2 q hq) ?_
      exact lw_ret hx hb hr hlocks (dAt dL_h 25 rfl)
    · have hi6 : i + 6 ≤ L := lw_le hL (by omega) c24
      refine lv_aload_n hx hb (dAt dL_h 16 rfl) rfl (lv_at hl 0 rfl) ?_
      refine lv_iload_n hx hb (dAt dL_h 17 rfl) rfl (lv_at hl 3 rfl) ?_
      refine va_sld hx hb hX0 hbl hbA hw.2 (vp_in_nI (by omega) (by omega)) (dAt dL_h 18 rfl) ?_
      refine lv_bipush (v := 63) hx hb (dAt dL_h 19 rfl) (by decide) ?_
      refine lv_iand hx hb (dAt dL_h 20 rfl) ?_
      have hnext : ∀ (σ τ : Mem) (H : Heap) (locs : List Loc) (ls : Array Slot), wd EX (fun q : Nat => s.heap.size ≤ q) s σ H locs → va_P EM.1 vwCl (wL EM τ) H → R σ τ → lv_has ls 4 [(0, .ref b), (1, .ref (gE EX 0)), (2, .ref (gE EM 0)), (3, .int (nI i))] → W p l e room_1 s m #[Value.ref b] below meth c H locs 90 6406 (lw_Z below #[Value.ref b] s) (F0 m 1283 ls []) := by
        intro σ τ H locs ls hw hPM hR hl
        refine lv_iinc (v := nI (i + 6)) (lv' := [(3, .int (nI (i + 6))), (0, .ref b), (1, .ref (gE EX 0)), (2, .ref (gE EM 0))]) hx hb (dAt dL_h 22 rfl) hl (k := 3) rfl (nI_add i 6) (by decide) rfl (fun ls hl => ?_)
        refine lv_goto (tgt := 18) hx hb (dAt dL_h 23 rfl) (by decide) ?_
        exact ih (i + 6) (by omega) (by omega) σ τ H locs ls hw hPM hR (lv_sub hl [1, 2, 3, 0] rfl)
      generalize hy : xs (nI i).toNatClampNeg &&& 63 = y
      rcases swT y 0 39 (by decide) with ⟨j, hj, ej⟩ | ej
      · match j, hj, ej with
        | 0, _, ej =>
          have ej : y = (0 : Int32) := ej
          refine lv_tableIn (off := 171) (tgt := 204) hx hb (dAt dL_h 21 rfl) (by rw [ej]; decide) (by rw [ej]; decide) (by rw [ej]; rfl) (by decide) ?_
          exact kL_0 hok.1 hL CX CM hX hM hd1 hd2 hX0 hbl hi6 hw hPM hR hl hnext
        | 1, _, ej =>
          have ej : y = (1 : Int32) := ej
          refine lv_tableIn (off := 204) (tgt := 237) hx hb (dAt dL_h 21 rfl) (by rw [ej]; decide) (by rw [ej]; decide) (by rw [ej]; rfl) (by decide) ?_
          exact kL_1 hok.2.1 hL CX CM hX hM hd1 hd2 hX0 hbl hi6 hw hPM hR hl hnext
        | 2, _, ej =>
          have ej : y = (2 : Int32) := ej
          refine lv_tableIn (off := 227) (tgt := 260) hx hb (dAt dL_h 21 rfl) (by rw [ej]; decide) (by rw [ej]; decide) (by rw [ej]; rfl) (by decide) ?_
          exact kL_2 hok.2.2.1 hL CX CM hX hM hd1 hd2 hX0 hbl hi6 hw hPM hR hl hnext
        | 3, _, ej =>
          have ej : y = (3 : Int32) := ej
          refine lv_tableIn (off := 250) (tgt := 283) hx hb (dAt dL_h 21 rfl) (by rw [ej]; decide) (by rw [ej]; decide) (by rw [ej]; rfl) (by decide) ?_
          exact kL_3 hok.2.2.2.1 hL CX CM hX hM hd1 hd2 hX0 hbl hi6 hw hPM hR hl hnext
        | 4, _, ej =>
          have ej : y = (4 : Int32) := ej
          refine lv_tableIn (off := 273) (tgt := 306) hx hb (dAt dL_h 21 rfl) (by rw [ej]; decide) (by rw [ej]; decide) (by rw [ej]; rfl) (by decide) ?_
          exact kL_4 hok.2.2.2.2.1 hL CX CM hX hM hd1 hd2 hX0 hbl hi6 hw hPM hR hl hnext
        | 5, _, ej =>
          have ej : y = (5 : Int32) := ej
          refine lv_tableIn (off := 306) (tgt := 339) hx hb (dAt dL_h 21 rfl) (by rw [ej]; decide) (by rw [ej]; decide) (by rw [ej]; rfl) (by decide) ?_
          exact kL_5 hok.2.2.2.2.2.1 hL CX CM hX hM hd1 hd2 hX0 hbl hi6 hw hPM hR hl hnext
        | 6, _, ej =>
          have ej : y = (6 : Int32) := ej
          refine lv_tableIn (off := 329) (tgt := 362) hx hb (dAt dL_h 21 rfl) (by rw [ej]; decide) (by rw [ej]; decide) (by rw [ej]; rfl) (by decide) ?_
          exact kL_6 hok.2.2.2.2.2.2.1 hL CX CM hX hM hd1 hd2 hX0 hbl hi6 hw hPM hR hl hnext
        | 7, _, ej =>
          have ej : y = (7 : Int32) := ej
          refine lv_tableIn (off := 352) (tgt := 385) hx hb (dAt dL_h 21 rfl) (by rw [ej]; decide) (by rw [ej]; decide) (by rw [ej]; rfl) (by decide) ?_
          exact kL_7 hok.2.2.2.2.2.2.2.1 hL CX CM hX hM hd1 hd2 hX0 hbl hi6 hw hPM hR hl hnext
        | 8, _, ej =>
          have ej : y = (8 : Int32) := ej
          refine lv_tableIn (off := 395) (tgt := 428) hx hb (dAt dL_h 21 rfl) (by rw [ej]; decide) (by rw [ej]; decide) (by rw [ej]; rfl) (by decide) ?_
          exact kL_8 hok.2.2.2.2.2.2.2.2.1 hL CX CM hX hM hd1 hd2 hX0 hbl hi6 hw hPM hR hl hnext
        | 9, _, ej =>
          have ej : y = (9 : Int32) := ej
          refine lv_tableIn (off := 408) (tgt := 441) hx hb (dAt dL_h 21 rfl) (by rw [ej]; decide) (by rw [ej]; decide) (by rw [ej]; rfl) (by decide) ?_
          exact kL_9 hok.2.2.2.2.2.2.2.2.2.1 hL CX CM hX hM hd1 hd2 hX0 hbl hi6 hw hPM hR hl hnext
        | 10, _, ej =>
          have ej : y = (10 : Int32) := ej
          refine lv_tableIn (off := 431) (tgt := 464) hx hb (dAt dL_h 21 rfl) (by rw [ej]; decide) (by rw [ej]; decide) (by rw [ej]; rfl) (by decide) ?_
          exact kL_10 hok.2.2.2.2.2.2.2.2.2.2.1 hL CX CM hX hM hd1 hd2 hX0 hbl hi6 hw hPM hR hl hnext
        | 11, _, ej =>
          have ej : y = (11 : Int32) := ej
          refine lv_tableIn (off := 474) (tgt := 507) hx hb (dAt dL_h 21 rfl) (by rw [ej]; decide) (by rw [ej]; decide) (by rw [ej]; rfl) (by decide) ?_
          exact kL_11 hok.2.2.2.2.2.2.2.2.2.2.2.1 hL CX CM hX hM hd1 hd2 hX0 hbl hi6 hw hPM hR hl hnext
        | 12, _, ej =>
          have ej : y = (12 : Int32) := ej
          refine lv_tableIn (off := 507) (tgt := 540) hx hb (dAt dL_h 21 rfl) (by rw [ej]; decide) (by rw [ej]; decide) (by rw [ej]; rfl) (by decide) ?_
          exact kL_12 hok.2.2.2.2.2.2.2.2.2.2.2.2.1 hL CX CM hX hM hd1 hd2 hX0 hbl hi6 hw hPM hR hl hnext
        | 13, _, ej =>
          have ej : y = (13 : Int32) := ej
          refine lv_tableIn (off := 540) (tgt := 573) hx hb (dAt dL_h 21 rfl) (by rw [ej]; decide) (by rw [ej]; decide) (by rw [ej]; rfl) (by decide) ?_
          exact kL_13 hok.2.2.2.2.2.2.2.2.2.2.2.2.2.1 hL CX CM hX hM hd1 hd2 hX0 hbl hi6 hw hPM hR hl hnext
        | 14, _, ej =>
          have ej : y = (14 : Int32) := ej
          refine lv_tableIn (off := 563) (tgt := 596) hx hb (dAt dL_h 21 rfl) (by rw [ej]; decide) (by rw [ej]; decide) (by rw [ej]; rfl) (by decide) ?_
          exact kL_14 hok.2.2.2.2.2.2.2.2.2.2.2.2.2.2.1 hL CX CM hX hM hd1 hd2 hX0 hbl hi6 hw hPM hR hl hnext
        | 15, _, ej =>
          have ej : y = (15 : Int32) := ej
          refine lv_tableIn (off := 586) (tgt := 619) hx hb (dAt dL_h 21 rfl) (by rw [ej]; decide) (by rw [ej]; decide) (by rw [ej]; rfl) (by decide) ?_
          exact kL_15 hok.2.2.2.2.2.2.2.2.2.2.2.2.2.2.2.1 hL CX CM hX hM hd1 hd2 hX0 hbl hi6 hw hPM hR hl hnext
        | 16, _, ej =>
          have ej : y = (16 : Int32) := ej
          refine lv_tableIn (off := 609) (tgt := 642) hx hb (dAt dL_h 21 rfl) (by rw [ej]; decide) (by rw [ej]; decide) (by rw [ej]; rfl) (by decide) ?_
          exact kL_16 hok.2.2.2.2.2.2.2.2.2.2.2.2.2.2.2.2.1 hL CX CM hX hM hd1 hd2 hX0 hbl hi6 hw hPM hR hl hnext
        | 17, _, ej =>
          have ej : y = (17 : Int32) := ej
          refine lv_tableIn (off := 622) (tgt := 655) hx hb (dAt dL_h 21 rfl) (by rw [ej]; decide) (by rw [ej]; decide) (by rw [ej]; rfl) (by decide) ?_
          exact kL_17 hok.2.2.2.2.2.2.2.2.2.2.2.2.2.2.2.2.2.1 hL CX CM hX hM hd1 hd2 hX0 hbl hi6 hw hPM hR hl hnext
        | 18, _, ej =>
          have ej : y = (18 : Int32) := ej
          refine lv_tableIn (off := 635) (tgt := 668) hx hb (dAt dL_h 21 rfl) (by rw [ej]; decide) (by rw [ej]; decide) (by rw [ej]; rfl) (by decide) ?_
          exact kL_18 hok.2.2.2.2.2.2.2.2.2.2.2.2.2.2.2.2.2.2.1 hL CX CM hX hM hd1 hd2 hX0 hbl hi6 hw hPM hR hl hnext
        | 19, _, ej =>
          have ej : y = (19 : Int32) := ej
          refine lv_tableIn (off := 648) (tgt := 681) hx hb (dAt dL_h 21 rfl) (by rw [ej]; decide) (by rw [ej]; decide) (by rw [ej]; rfl) (by decide) ?_
          exact kL_19 hok.2.2.2.2.2.2.2.2.2.2.2.2.2.2.2.2.2.2.2.1 hL CX CM hX hM hd1 hd2 hX0 hbl hi6 hw hPM hR hl hnext
        | 20, _, ej =>
          have ej : y = (20 : Int32) := ej
          refine lv_tableIn (off := 681) (tgt := 714) hx hb (dAt dL_h 21 rfl) (by rw [ej]; decide) (by rw [ej]; decide) (by rw [ej]; rfl) (by decide) ?_
          exact kL_20 hok.2.2.2.2.2.2.2.2.2.2.2.2.2.2.2.2.2.2.2.2.1 hL CX CM hX hM hd1 hd2 hX0 hbl hi6 hw hPM hR hl hnext
        | 21, _, ej =>
          have ej : y = (21 : Int32) := ej
          refine lv_tableIn (off := 714) (tgt := 747) hx hb (dAt dL_h 21 rfl) (by rw [ej]; decide) (by rw [ej]; decide) (by rw [ej]; rfl) (by decide) ?_
          exact kL_21 hok.2.2.2.2.2.2.2.2.2.2.2.2.2.2.2.2.2.2.2.2.2.1 hL CX CM hX hM hd1 hd2 hX0 hbl hi6 hw hPM hR hl hnext
        | 22, _, ej =>
          have ej : y = (22 : Int32) := ej
          refine lv_tableIn (off := 747) (tgt := 780) hx hb (dAt dL_h 21 rfl) (by rw [ej]; decide) (by rw [ej]; decide) (by rw [ej]; rfl) (by decide) ?_
          exact kL_22 hok.2.2.2.2.2.2.2.2.2.2.2.2.2.2.2.2.2.2.2.2.2.2.1 hL CX CM hX hM hd1 hd2 hX0 hbl hi6 hw hPM hR hl hnext
        | 23, _, ej =>
          have ej : y = (23 : Int32) := ej
          refine lv_tableIn (off := 770) (tgt := 803) hx hb (dAt dL_h 21 rfl) (by rw [ej]; decide) (by rw [ej]; decide) (by rw [ej]; rfl) (by decide) ?_
          exact kL_23 hok.2.2.2.2.2.2.2.2.2.2.2.2.2.2.2.2.2.2.2.2.2.2.2.1 hL CX CM hX hM hd1 hd2 hX0 hbl hi6 hw hPM hR hl hnext
        | 24, _, ej =>
          have ej : y = (24 : Int32) := ej
          refine lv_tableIn (off := 803) (tgt := 836) hx hb (dAt dL_h 21 rfl) (by rw [ej]; decide) (by rw [ej]; decide) (by rw [ej]; rfl) (by decide) ?_
          exact kL_24 hok.2.2.2.2.2.2.2.2.2.2.2.2.2.2.2.2.2.2.2.2.2.2.2.2.1 hL CX CM hX hM hd1 hd2 hX0 hbl hi6 hw hPM hR hl hnext
        | 25, _, ej =>
          have ej : y = (25 : Int32) := ej
          refine lv_tableIn (off := 816) (tgt := 849) hx hb (dAt dL_h 21 rfl) (by rw [ej]; decide) (by rw [ej]; decide) (by rw [ej]; rfl) (by decide) ?_
          exact kL_25 hok.2.2.2.2.2.2.2.2.2.2.2.2.2.2.2.2.2.2.2.2.2.2.2.2.2.1 hL CX CM hX hM hd1 hd2 hX0 hbl hi6 hw hPM hR hl hnext
        | 26, _, ej =>
          have ej : y = (26 : Int32) := ej
          refine lv_tableIn (off := 829) (tgt := 862) hx hb (dAt dL_h 21 rfl) (by rw [ej]; decide) (by rw [ej]; decide) (by rw [ej]; rfl) (by decide) ?_
          exact kL_26 hok.2.2.2.2.2.2.2.2.2.2.2.2.2.2.2.2.2.2.2.2.2.2.2.2.2.2.1 hL CX CM hX hM hd1 hd2 hX0 hbl hi6 hw hPM hR hl hnext
        | 27, _, ej =>
          have ej : y = (27 : Int32) := ej
          refine lv_tableIn (off := 852) (tgt := 885) hx hb (dAt dL_h 21 rfl) (by rw [ej]; decide) (by rw [ej]; decide) (by rw [ej]; rfl) (by decide) ?_
          exact kL_27 hok.2.2.2.2.2.2.2.2.2.2.2.2.2.2.2.2.2.2.2.2.2.2.2.2.2.2.2.1 hL CX CM hX hM hd1 hd2 hX0 hbl hi6 hw hPM hR hl hnext
        | 28, _, ej =>
          have ej : y = (28 : Int32) := ej
          refine lv_tableIn (off := 865) (tgt := 898) hx hb (dAt dL_h 21 rfl) (by rw [ej]; decide) (by rw [ej]; decide) (by rw [ej]; rfl) (by decide) ?_
          exact kL_28 hok.2.2.2.2.2.2.2.2.2.2.2.2.2.2.2.2.2.2.2.2.2.2.2.2.2.2.2.2.1 hL CX CM hX hM hd1 hd2 hX0 hbl hi6 hw hPM hR hl hnext
        | 29, _, ej =>
          have ej : y = (29 : Int32) := ej
          refine lv_tableIn (off := 878) (tgt := 911) hx hb (dAt dL_h 21 rfl) (by rw [ej]; decide) (by rw [ej]; decide) (by rw [ej]; rfl) (by decide) ?_
          exact kL_29 hok.2.2.2.2.2.2.2.2.2.2.2.2.2.2.2.2.2.2.2.2.2.2.2.2.2.2.2.2.2.1 hL CX CM hX hM hd1 hd2 hX0 hbl hi6 hw hPM hR hl hnext
        | 30, _, ej =>
          have ej : y = (30 : Int32) := ej
          refine lv_tableIn (off := 922) (tgt := 955) hx hb (dAt dL_h 21 rfl) (by rw [ej]; decide) (by rw [ej]; decide) (by rw [ej]; rfl) (by decide) ?_
          exact kL_30 hok.2.2.2.2.2.2.2.2.2.2.2.2.2.2.2.2.2.2.2.2.2.2.2.2.2.2.2.2.2.2.1 hL CX CM hX hM hd1 hd2 hX0 hbl hi6 hw hPM hR hl hnext
        | 31, _, ej =>
          have ej : y = (31 : Int32) := ej
          refine lv_tableIn (off := 965) (tgt := 998) hx hb (dAt dL_h 21 rfl) (by rw [ej]; decide) (by rw [ej]; decide) (by rw [ej]; rfl) (by decide) ?_
          exact kL_31 hok.2.2.2.2.2.2.2.2.2.2.2.2.2.2.2.2.2.2.2.2.2.2.2.2.2.2.2.2.2.2.2.1 hL CX CM hX hM hd1 hd2 hX0 hbl hi6 hw hPM hR hl hnext
        | 32, _, ej =>
          have ej : y = (32 : Int32) := ej
          refine lv_tableIn (off := 1008) (tgt := 1041) hx hb (dAt dL_h 21 rfl) (by rw [ej]; decide) (by rw [ej]; decide) (by rw [ej]; rfl) (by decide) ?_
          exact kL_32 hok.2.2.2.2.2.2.2.2.2.2.2.2.2.2.2.2.2.2.2.2.2.2.2.2.2.2.2.2.2.2.2.2.1 hL CX CM hX hM hd1 hd2 hX0 hbl hi6 hw hPM hR hl hnext
        | 33, _, ej =>
          have ej : y = (33 : Int32) := ej
          refine lv_tableIn (off := 1031) (tgt := 1064) hx hb (dAt dL_h 21 rfl) (by rw [ej]; decide) (by rw [ej]; decide) (by rw [ej]; rfl) (by decide) ?_
          exact kL_33 hok.2.2.2.2.2.2.2.2.2.2.2.2.2.2.2.2.2.2.2.2.2.2.2.2.2.2.2.2.2.2.2.2.2.1 hL CX CM hX hM hd1 hd2 hX0 hbl hi6 hw hPM hR hl hnext
        | 34, _, ej =>
          have ej : y = (34 : Int32) := ej
          refine lv_tableIn (off := 1084) (tgt := 1117) hx hb (dAt dL_h 21 rfl) (by rw [ej]; decide) (by rw [ej]; decide) (by rw [ej]; rfl) (by decide) ?_
          exact kL_34 hok.2.2.2.2.2.2.2.2.2.2.2.2.2.2.2.2.2.2.2.2.2.2.2.2.2.2.2.2.2.2.2.2.2.2.1 hL CX CM hX hM hd1 hd2 hX0 hbl hi6 hw hPM hR hl hnext
        | 35, _, ej =>
          have ej : y = (35 : Int32) := ej
          refine lv_tableIn (off := 1127) (tgt := 1160) hx hb (dAt dL_h 21 rfl) (by rw [ej]; decide) (by rw [ej]; decide) (by rw [ej]; rfl) (by decide) ?_
          exact kL_35 hok.2.2.2.2.2.2.2.2.2.2.2.2.2.2.2.2.2.2.2.2.2.2.2.2.2.2.2.2.2.2.2.2.2.2.2.1 hL CX CM hX hM hd1 hd2 hX0 hbl hi6 hw hPM hR hl hnext
        | 36, _, ej =>
          have ej : y = (36 : Int32) := ej
          refine lv_tableIn (off := 1190) (tgt := 1223) hx hb (dAt dL_h 21 rfl) (by rw [ej]; decide) (by rw [ej]; decide) (by rw [ej]; rfl) (by decide) ?_
          exact kL_36 hok.2.2.2.2.2.2.2.2.2.2.2.2.2.2.2.2.2.2.2.2.2.2.2.2.2.2.2.2.2.2.2.2.2.2.2.2.1 hL CX CM hX hM hd1 hd2 hX0 hbl hi6 hw hPM hR hl hnext
        | 37, _, ej =>
          have ej : y = (37 : Int32) := ej
          refine lv_tableIn (off := 1213) (tgt := 1246) hx hb (dAt dL_h 21 rfl) (by rw [ej]; decide) (by rw [ej]; decide) (by rw [ej]; rfl) (by decide) ?_
          exact kL_37 hok.2.2.2.2.2.2.2.2.2.2.2.2.2.2.2.2.2.2.2.2.2.2.2.2.2.2.2.2.2.2.2.2.2.2.2.2.2.1 hL CX CM hX hM hd1 hd2 hX0 hbl hi6 hw hPM hR hl hnext
        | 38, _, ej =>
          have ej : y = (38 : Int32) := ej
          refine lv_tableIn (off := 1236) (tgt := 1269) hx hb (dAt dL_h 21 rfl) (by rw [ej]; decide) (by rw [ej]; decide) (by rw [ej]; rfl) (by decide) ?_
          exact kL_38 hok.2.2.2.2.2.2.2.2.2.2.2.2.2.2.2.2.2.2.2.2.2.2.2.2.2.2.2.2.2.2.2.2.2.2.2.2.2.2 hL CX CM hX hM hd1 hd2 hX0 hbl hi6 hw hPM hR hl hnext
        | j + 39, hj, _ => exact absurd hj (by omega)
      · refine lv_tableOut (tgt := 1283) hx hb (dAt dL_h 21 rfl) ej (by decide) ?_
        exact hnext σ τ H locs ls hw hPM hR hl
