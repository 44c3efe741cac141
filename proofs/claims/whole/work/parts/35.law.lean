section YL
variable {p : Program} {l : Launch} {e : Env} {R : Room} {s : State} {m : MethodId} {args : Array Value} {below : List Frame} {meth : Method} {c : Code} {H : Heap} {locs : List Loc} {cells slots : Nat} {Q : State → Prop}
variable {cc : ByteArray} {nL : Nat} {own : String} {E E2 : wE} {A : Nat → Prop} {σ τ : Mem} {pc : Nat} {ls : Array Slot} {rest st0 : List Value}
theorem y_keep {H1 : Heap} (hPM : va_P E2.1 vwCl (wL E2 τ) H) (hd : ∀ q, wA E q → ¬ wA E2 q) (hk : ∀ q : Nat, q < H.size → ¬ wA E q → H1[q]? = H[q]?) : va_P E2.1 vwCl (wL E2 τ) H1 :=
  hPM.kept (fun k q hq => by
    obtain ⟨h1, rfl⟩ := wL_in hq
    exact hk _ (hPM k _ hq).lt (fun z => hd _ z ⟨k, h1, rfl⟩))
theorem y_calli (C : Cx p s m args c cc nL own E A) (hw : wd E A s σ H locs) (hPM : va_P E2.1 vwCl (wL E2 τ) H) (hd : ∀ q, wA E q → ¬ wA E2 q) {Qf : Int32 → Mem → Prop} {a : Array Value} (hr : va_Run p l e R s m args below meth c H locs cells slots 0 0 (F0 m pc ls st0) rest (wQi E Qf a) (wA E))
    (kk : ∀ (r : Int32) (τ1 : Mem) (H1 : Heap) (locs1 : List Loc), Qf r τ1 → wd E A s τ1 H1 locs1 → va_P E2.1 vwCl (wL E2 τ) H1 → W p l e R s m args below meth c H1 locs1 cells slots Q (F0 m (pc + 3) ls (.int r :: rest))) : W p l e R s m args below meth c H locs cells slots Q (F0 m pc ls st0) :=
  va_calli hr hw.2 (fun q _ h => C.2.2.2.2.2 q h) C.2.2.2.2.2 (fun r u t H1 locs1 ht _ hq hB _ hk hS => kk r u H1 locs1 hq ⟨by rw [← ht]; exact hB.1, hS⟩ (y_keep hPM hd hk))
theorem y_calll (C : Cx p s m args c cc nL own E A) (hw : wd E A s σ H locs) (hPM : va_P E2.1 vwCl (wL E2 τ) H) (hd : ∀ q, wA E q → ¬ wA E2 q) {Qf : Int64 → Mem → Prop} {a : Array Value} (hr : va_Run p l e R s m args below meth c H locs cells slots 0 0 (F0 m pc ls st0) rest (wQl E Qf a) (wA E))
    (kk : ∀ (r : Int64) (τ1 : Mem) (H1 : Heap) (locs1 : List Loc), Qf r τ1 → wd E A s τ1 H1 locs1 → va_P E2.1 vwCl (wL E2 τ) H1 → W p l e R s m args below meth c H1 locs1 cells slots Q (F0 m (pc + 3) ls (.long r :: rest))) : W p l e R s m args below meth c H locs cells slots Q (F0 m pc ls st0) :=
  va_calll hr hw.2 (fun q _ h => C.2.2.2.2.2 q h) C.2.2.2.2.2 (fun r u t H1 locs1 ht _ hq hB _ hk hS => kk r u H1 locs1 hq ⟨by rw [← ht]; exact hB.1, hS⟩ (y_keep hPM hd hk))
theorem lw_in {i L : Nat} (hi : i + 6 ≤ L) (hL : L ≤ 3072) (k : Nat) (hk : k < 6) : vp_in (nI i + (OfNat.ofNat k : Int32)) L := by
  have e : nI i + (OfNat.ofNat k : Int32) = nI (i + k) := by
    have : (OfNat.ofNat k : Int32) = nI k := rfl
    rw [this, nI_add]
  rw [e]
  exact vp_in_nI (by omega) (by omega)
end YL
def okL_0 (R : Mem → Mem → Prop) : Prop := ∀ (σ τ : Mem) (a1 a2 : Int32), R σ τ → wX6_type a1 a2 σ (fun r σ1 => wX7_type a1 a2 τ (fun r1 τ1 => r = r1 ∧ R σ1 τ1))
def okL_1 (R : Mem → Mem → Prop) : Prop := ∀ (σ τ : Mem) (a1 : Int32), R σ τ → wX6_wipe a1 σ (fun r σ1 => wX7_wipe a1 τ (fun r1 τ1 => r = r1 ∧ R σ1 τ1))
def okL_2 (R : Mem → Mem → Prop) : Prop := ∀ (σ τ : Mem) (a1 : Int32), R σ τ → wX6_undo a1 σ (fun r σ1 => wX7_undo a1 τ (fun r1 τ1 => r = r1 ∧ R σ1 τ1))
def okL_3 (R : Mem → Mem → Prop) : Prop := ∀ (σ τ : Mem) (a1 : Int32), R σ τ → wX6_fault a1 σ (fun r σ1 => wX7_fault a1 τ (fun r1 τ1 => r = r1 ∧ R σ1 τ1))
def okL_4 (R : Mem → Mem → Prop) : Prop := ∀ (σ τ : Mem) (a1 a2 : Int32), R σ τ → wX6_dancer a1 a2 σ (fun r σ1 => wX7_dancer a1 a2 τ (fun r1 τ1 => r = r1 ∧ R σ1 τ1))
def okL_5 (R : Mem → Mem → Prop) : Prop := ∀ (σ τ : Mem) (a1 : Int32), R σ τ → wX6_steps a1 σ (fun r σ1 => wX7_steps a1 τ (fun r1 τ1 => r = r1 ∧ R σ1 τ1))
def okL_6 (R : Mem → Mem → Prop) : Prop := ∀ (σ τ : Mem) (a1 : Int32), R σ τ → wX6_ribbons a1 σ (fun r σ1 => wX7_ribbons a1 τ (fun r1 τ1 => r = r1 ∧ R σ1 τ1))
def okL_7 (R : Mem → Mem → Prop) : Prop := ∀ (σ τ : Mem) (a1 a2 a3 : Int32), R σ τ → wX6_event a1 a2 a3 σ (fun r σ1 => wX7_event a1 a2 a3 τ (fun r1 τ1 => r = r1 ∧ R σ1 τ1))
def okL_8 (R : Mem → Mem → Prop) : Prop := ∀ (σ τ : Mem), R σ τ → wX6_back  σ (fun r σ1 => wX7_back  τ (fun r1 τ1 => r = r1 ∧ R σ1 τ1))
def okL_9 (R : Mem → Mem → Prop) : Prop := ∀ (σ τ : Mem) (a1 : Int32), R σ τ → wX6_read a1 σ (fun r σ1 => wX7_read a1 τ (fun r1 τ1 => r = r1 ∧ R σ1 τ1))
def okL_10 (R : Mem → Mem → Prop) : Prop := ∀ (σ τ : Mem) (a1 a2 a3 : Int32), R σ τ → wX6_at a1 a2 a3 σ (fun r σ1 => wX7_at a1 a2 a3 τ (fun r1 τ1 => r = r1 ∧ R σ1 τ1))
def okL_11 (R : Mem → Mem → Prop) : Prop := ∀ (σ τ : Mem) (a1 a2 : Int32), R σ τ → wX6_high a1 a2 σ (fun r σ1 => wX7_high a1 a2 τ (fun r1 τ1 => r = r1 ∧ R σ1 τ1))
def okL_12 (R : Mem → Mem → Prop) : Prop := ∀ (σ τ : Mem) (a1 a2 : Int32), R σ τ → wX6_weave a1 a2 σ (fun r σ1 => wX7_weave a1 a2 τ (fun r1 τ1 => r = r1 ∧ R σ1 τ1))
def okL_13 (R : Mem → Mem → Prop) : Prop := ∀ (σ τ : Mem) (a1 : Int32), R σ τ → wX6_shows a1 σ (fun r σ1 => wX7_shows a1 τ (fun r1 τ1 => r = r1 ∧ R σ1 τ1))
def okL_14 (R : Mem → Mem → Prop) : Prop := ∀ (σ τ : Mem) (a1 : Int32), R σ τ → wX6_sum a1 σ (fun r σ1 => wX7_sum a1 τ (fun r1 τ1 => r = r1 ∧ R σ1 τ1))
def okL_15 (R : Mem → Mem → Prop) : Prop := ∀ (σ τ : Mem) (a1 : Int32), R σ τ → wX6_run a1 σ (fun r σ1 => wX7_run a1 τ (fun r1 τ1 => r = r1 ∧ R σ1 τ1))
def okL_16 (R : Mem → Mem → Prop) : Prop := ∀ (σ τ : Mem), R σ τ → wX6_bare  σ (fun r σ1 => wX7_bare  τ (fun r1 τ1 => r = r1 ∧ R σ1 τ1))
def okL_17 (R : Mem → Mem → Prop) : Prop := ∀ (σ τ : Mem), R σ τ → wX6_top  σ (fun r σ1 => wX7_top  τ (fun r1 τ1 => r = r1 ∧ R σ1 τ1))
def okL_18 (R : Mem → Mem → Prop) : Prop := ∀ (σ τ : Mem), R σ τ → wX6_lacks  σ (fun r σ1 => wX7_lacks_  τ (fun r1 τ1 => r = r1 ∧ R σ1 τ1))
def okL_19 (R : Mem → Mem → Prop) : Prop := ∀ (σ τ : Mem) (a1 a2 : Int32), R σ τ → wX6_step a1 a2 σ (fun r σ1 => wX7_step a1 a2 τ (fun r1 τ1 => r = r1 ∧ R σ1 τ1))
def okL_20 (R : Mem → Mem → Prop) : Prop := ∀ (σ τ : Mem) (a1 a2 : Int32), R σ τ → wX6_begin a1 a2 σ (fun r σ1 => wX7_begin a1 a2 τ (fun r1 τ1 => r = r1 ∧ R σ1 τ1))
def okL_21 (R : Mem → Mem → Prop) : Prop := ∀ (σ τ : Mem) (a1 a2 : Int32), R σ τ → wX6_dress a1 a2 σ (fun r σ1 => wX7_dress a1 a2 τ (fun r1 τ1 => r = r1 ∧ R σ1 τ1))
def okL_22 (R : Mem → Mem → Prop) : Prop := ∀ (σ τ : Mem) (a1 : Int32), R σ τ → wX6_spare a1 σ (fun r σ1 => wX7_spare a1 τ (fun r1 τ1 => r = r1 ∧ R σ1 τ1))
def okL_23 (R : Mem → Mem → Prop) : Prop := ∀ (σ τ : Mem) (a1 a2 : Int32), R σ τ → wX6_seen a1 a2 σ (fun r σ1 => wX7_seen a1 a2 τ (fun r1 τ1 => r = r1 ∧ R σ1 τ1))
def okL_24 (R : Mem → Mem → Prop) : Prop := ∀ (σ τ : Mem), R σ τ → wX6_forget  σ (fun r σ1 => wX7_forget  τ (fun r1 τ1 => r = r1 ∧ R σ1 τ1))
def okL_25 (R : Mem → Mem → Prop) : Prop := ∀ (σ τ : Mem), R σ τ → wX6_never  σ (fun r σ1 => wX7_never  τ (fun r1 τ1 => r = r1 ∧ R σ1 τ1))
def okL_26 (R : Mem → Mem → Prop) : Prop := ∀ (σ τ : Mem) (a1 : Int32), R σ τ → wX6_ways a1 σ (fun r σ1 => wX7_ways a1 τ (fun r1 τ1 => r = r1 ∧ R σ1 τ1))
def okL_27 (R : Mem → Mem → Prop) : Prop := ∀ (σ τ : Mem), R σ τ → wX6_lengths  σ (fun r σ1 => wX7_lengths  τ (fun r1 τ1 => r = r1 ∧ R σ1 τ1))
def okL_28 (R : Mem → Mem → Prop) : Prop := ∀ (σ τ : Mem), R σ τ → wX6_ask  σ (fun r σ1 => wX7_ask  τ (fun r1 τ1 => r = r1 ∧ R σ1 τ1))
def okL_29 (R : Mem → Mem → Prop) : Prop := ∀ (σ τ : Mem) (a1 a2 a3 : Int32), R σ τ → wX6_chance a1 a2 a3 σ (fun r σ1 => wX7_chance a1 a2 a3 τ (fun r1 τ1 => r = r1 ∧ R σ1 τ1))
def okL_30 (R : Mem → Mem → Prop) : Prop := ∀ (σ τ : Mem) (a1 a2 a3 : Int32), R σ τ → wX6_dances a1 a2 a3 σ (fun r σ1 => wX7_dances a1 a2 a3 τ (fun r1 τ1 => r = r1 ∧ R σ1 τ1))
def okL_31 (R : Mem → Mem → Prop) : Prop := ∀ (σ τ : Mem) (a1 a2 a3 : Int32), R σ τ → wX6_sheet a1 a2 a3 σ (fun r σ1 => wX7_sheet a1 a2 a3 τ (fun r1 τ1 => r = r1 ∧ R σ1 τ1))
def okL_32 (R : Mem → Mem → Prop) : Prop := ∀ (σ τ : Mem) (a1 : Int32), R σ τ → wX6_lose a1 σ (fun r σ1 => wX7_lose a1 τ (fun r1 τ1 => r = r1 ∧ R σ1 τ1))
def okL_33 (R : Mem → Mem → Prop) : Prop := ∀ (σ τ : Mem) (a1 a2 a3 a4 : Int32), R σ τ → wX6_lay a1 a2 a3 a4 σ (fun r σ1 => wX7_lay a1 a2 a3 a4 τ (fun r1 τ1 => r = r1 ∧ R σ1 τ1))
def okL_34 (R : Mem → Mem → Prop) : Prop := ∀ (σ τ : Mem) (a1 a2 a3 : Int32), R σ τ → wX6_get a1 a2 a3 σ (fun r σ1 => wX7_get a1 a2 a3 τ (fun r1 τ1 => r = r1 ∧ R σ1 τ1))
def okL_35 (R : Mem → Mem → Prop) : Prop := ∀ (σ τ : Mem) (a1 a2 a3 a4 a5 : Int32), R σ τ → wX6_copy a1 a2 a3 a4 a5 σ (fun r σ1 => wX7_copy a1 a2 a3 a4 a5 τ (fun r1 τ1 => r = r1 ∧ R σ1 τ1))
def okL_36 (R : Mem → Mem → Prop) : Prop := ∀ (σ τ : Mem) (a1 : Int32), R σ τ → wX6_write a1 σ (fun r σ1 => wX7_write a1 τ (fun r1 τ1 => r = r1 ∧ R σ1 τ1))
def okL_37 (R : Mem → Mem → Prop) : Prop := ∀ (σ τ : Mem) (a1 : Int32), R σ τ → wX6_count a1 σ (fun r σ1 => wX7_count a1 τ (fun r1 τ1 => r = r1 ∧ R σ1 τ1))
def okL_38 (R : Mem → Mem → Prop) : Prop := ∀ (σ τ : Mem), R σ τ → wX6_digest  σ (fun r σ1 => wX7_digest  τ (fun r1 τ1 => r = r1 ∧ R σ1 τ1))
def LawOk (R : Mem → Mem → Prop) : Prop := okL_0 R ∧ okL_1 R ∧ okL_2 R ∧ okL_3 R ∧ okL_4 R ∧ okL_5 R ∧ okL_6 R ∧ okL_7 R ∧ okL_8 R ∧ okL_9 R ∧ okL_10 R ∧ okL_11 R ∧ okL_12 R ∧ okL_13 R ∧ okL_14 R ∧ okL_15 R ∧ okL_16 R ∧ okL_17 R ∧ okL_18 R ∧ okL_19 R ∧ okL_20 R ∧ okL_21 R ∧ okL_22 R ∧ okL_23 R ∧ okL_24 R ∧ okL_25 R ∧ okL_26 R ∧ okL_27 R ∧ okL_28 R ∧ okL_29 R ∧ okL_30 R ∧ okL_31 R ∧ okL_32 R ∧ okL_33 R ∧ okL_34 R ∧ okL_35 R ∧ okL_36 R ∧ okL_37 R ∧ okL_38 R
def tL_0 : List (Nat × Instr × Nat) := [(204, .aload_n 1, 1), (205, .aload_n 0, 1), (206, .iload_n 3, 1), (207, .iconst 1, 1), (208, .iadd, 1), (209, .iaload, 1), (210, .aload_n 0, 1), (211, .iload_n 3, 1), (212, .iconst 2, 1), (213, .iadd, 1), (214, .iaload, 1), (215, .invokevirtual 13, 3), (218, .aload_n 2, 1), (219, .aload_n 0, 1), (220, .iload_n 3, 1), (221, .iconst 1, 1), (222, .iadd, 1), (223, .iaload, 1), (224, .aload_n 0, 1), (225, .iload_n 3, 1), (226, .iconst 2, 1), (227, .iadd, 1), (228, .iaload, 1), (229, .invokevirtual 17, 3), (232, .if_icmp .eq 1051, 3), (235, .iconst 0, 1), (236, .ireturn, 1)]
theorem dL_0 : dOk cL_law tL_0 = true := by decide +kernel
set_option maxHeartbeats 4000000 in
set_option maxRecDepth 100000 in
theorem kL_0 {p : Program} {l : Launch} {e : Env} {s : State} {m : MethodId} {below : List Frame} {meth : Method} {c : Code} {b L : Nat} {xs : Nat → Int32} {EX EM : wE} {R : Mem → Mem → Prop} (hok : okL_0 R) (hL : L ≤ 3072) (CX : Cx p s m #[Value.ref b] c cL_law 4 RL EX (fun q : Nat => s.heap.size ≤ q)) (CM : Cx p s m #[Value.ref b] c cL_law 4 RL EM (fun q : Nat => s.heap.size ≤ q)) (hX : wX EX) (hM : wM EM) (hd1 : ∀ q, wA EX q → ¬ wA EM q) (hd2 : ∀ q, wA EM q → ¬ wA EX q) (hX0 : va_X b L xs s s.heap) (hbl : b < s.heap.size) {i : Nat} (hi6 : i + 6 ≤ L) {σ τ : Mem} {H : Heap} {locs : List Loc} {ls : Array Slot} (hw : wd EX (fun q : Nat => s.heap.size ≤ q) s σ H locs) (hPM : va_P EM.1 vwCl (wL EM τ) H) (hR : R σ τ) (hl : lv_has ls 4 [(0, .ref b), (1, .ref (gE EX 0)), (2, .ref (gE EM 0)), (3, .int (nI i))]) (hnext : ∀ (σ τ : Mem) (H : Heap) (locs : List Loc) (ls : Array Slot), wd EX (fun q : Nat => s.heap.size ≤ q) s σ H locs → va_P EM.1 vwCl (wL EM τ) H → R σ τ → lv_has ls 4 [(0, .ref b), (1, .ref (gE EX 0)), (2, .ref (gE EM 0)), (3, .int (nI i))] → W p l e room_1 s m #[Value.ref b] below meth c H locs 90 6406 (lw_Z below #[Value.ref b] s) (F0 m 1283 ls [])) : W p l e room_1 s m #[Value.ref b] below meth c H locs 90 6406 (lw_Z below #[Value.ref b] s) (F0 m 204 ls []) := by
  have hx := CX.1.1
  have hb := CX.1.2.1
  have hbA : ¬ (fun q : Nat => s.heap.size ≤ q) b := Nat.not_le.mpr hbl
  refine lv_aload_n hx hb (dAt dL_0 0 rfl) rfl (lv_at hl 1 rfl) ?_
  refine lv_aload_n hx hb (dAt dL_0 1 rfl) rfl (lv_at hl 0 rfl) ?_
  refine lv_iload_n hx hb (dAt dL_0 2 rfl) rfl (lv_at hl 3 rfl) ?_
  refine lv_iconst (v := 1) hx hb (dAt dL_0 3 rfl) (by decide) ?_
  refine lv_iadd hx hb (dAt dL_0 4 rfl) ?_
  refine va_sld hx hb hX0 hbl hbA hw.2 (lw_in hi6 hL 1 (by decide)) (dAt dL_0 5 rfl) ?_
  refine lv_aload_n hx hb (dAt dL_0 6 rfl) rfl (lv_at hl 0 rfl) ?_
  refine lv_iload_n hx hb (dAt dL_0 7 rfl) rfl (lv_at hl 3 rfl) ?_
  refine lv_iconst (v := 2) hx hb (dAt dL_0 8 rfl) (by decide) ?_
  refine lv_iadd hx hb (dAt dL_0 9 rfl) ?_
  refine va_sld hx hb hX0 hbl hbA hw.2 (lw_in hi6 hL 2 (by decide)) (dAt dL_0 10 rfl) ?_
  refine y_calli CX hw hPM hd1 (x_runV (As := [.int (xs (nI i + (1 : Int32)).toNatClampNeg), .int (xs (nI i + (2 : Int32)).toNatClampNeg)]) (rest := []) CX hw (kX6_type l EX hX (xs (nI i + (1 : Int32)).toNatClampNeg) (xs (nI i + (2 : Int32)).toNatClampNeg) σ _ (hok σ τ (xs (nI i + (1 : Int32)).toNatClampNeg) (xs (nI i + (2 : Int32)).toNatClampNeg) hR)) mtX6_type lk_L_13 (hX.1 0) (nX hX (by decide)) rfl ⟨by decide, by decide⟩ ⟨rfl, rfl⟩ rfl hl.1 rfl (Nat.le_of_ble_eq_true rfl) (dAt dL_0 11 rfl) ⟨Nat.le_of_ble_eq_true rfl, Nat.le_of_ble_eq_true rfl⟩) (fun r1 σ1 H locs h hw hPM => ?_)
  refine lv_aload_n hx hb (dAt dL_0 12 rfl) rfl (lv_at hl 2 rfl) ?_
  refine lv_aload_n hx hb (dAt dL_0 13 rfl) rfl (lv_at hl 0 rfl) ?_
  refine lv_iload_n hx hb (dAt dL_0 14 rfl) rfl (lv_at hl 3 rfl) ?_
  refine lv_iconst (v := 1) hx hb (dAt dL_0 15 rfl) (by decide) ?_
  refine lv_iadd hx hb (dAt dL_0 16 rfl) ?_
  refine va_sld hx hb hX0 hbl hbA hw.2 (lw_in hi6 hL 1 (by decide)) (dAt dL_0 17 rfl) ?_
  refine lv_aload_n hx hb (dAt dL_0 18 rfl) rfl (lv_at hl 0 rfl) ?_
  refine lv_iload_n hx hb (dAt dL_0 19 rfl) rfl (lv_at hl 3 rfl) ?_
  refine lv_iconst (v := 2) hx hb (dAt dL_0 20 rfl) (by decide) ?_
  refine lv_iadd hx hb (dAt dL_0 21 rfl) ?_
  refine va_sld hx hb hX0 hbl hbA hw.2 (lw_in hi6 hL 2 (by decide)) (dAt dL_0 22 rfl) ?_
  refine y_calli CM ⟨hPM, hw.2⟩ hw.1 hd2 (x_runV (As := [.int (xs (nI i + (1 : Int32)).toNatClampNeg), .int (xs (nI i + (2 : Int32)).toNatClampNeg)]) (rest := [.int r1]) CM ⟨hPM, hw.2⟩ (kX7_type l EM hM (xs (nI i + (1 : Int32)).toNatClampNeg) (xs (nI i + (2 : Int32)).toNatClampNeg) τ _ h) mtX7_type lk_L_17 (hM.1 0) (nM hM (by decide)) rfl ⟨by decide, by decide⟩ ⟨rfl, rfl⟩ rfl hl.1 rfl (Nat.le_of_ble_eq_true rfl) (dAt dL_0 23 rfl) ⟨Nat.le_of_ble_eq_true rfl, Nat.le_of_ble_eq_true rfl⟩) (fun r2 τ1 H locs h hwM hPX => ?_)
  refine lv_icmp_eq (tgt := 1283) hx hb (dAt dL_0 24 rfl) (by decide) (fun _ => ?_) (fun z => absurd h.1 z)
  exact hnext σ1 τ1 H locs ls ⟨hPX, hwM.2⟩ hwM.1 h.2 hl
def tL_1 : List (Nat × Instr × Nat) := [(237, .aload_n 1, 1), (238, .aload_n 0, 1), (239, .iload_n 3, 1), (240, .iconst 1, 1), (241, .iadd, 1), (242, .iaload, 1), (243, .invokevirtual 18, 3), (246, .aload_n 2, 1), (247, .aload_n 0, 1), (248, .iload_n 3, 1), (249, .iconst 1, 1), (250, .iadd, 1), (251, .iaload, 1), (252, .invokevirtual 22, 3), (255, .if_icmp .eq 1028, 3), (258, .iconst 0, 1), (259, .ireturn, 1)]
theorem dL_1 : dOk cL_law tL_1 = true := by decide +kernel
set_option maxHeartbeats 4000000 in
set_option maxRecDepth 100000 in
theorem kL_1 {p : Program} {l : Launch} {e : Env} {s : State} {m : MethodId} {below : List Frame} {meth : Method} {c : Code} {b L : Nat} {xs : Nat → Int32} {EX EM : wE} {R : Mem → Mem → Prop} (hok : okL_1 R) (hL : L ≤ 3072) (CX : Cx p s m #[Value.ref b] c cL_law 4 RL EX (fun q : Nat => s.heap.size ≤ q)) (CM : Cx p s m #[Value.ref b] c cL_law 4 RL EM (fun q : Nat => s.heap.size ≤ q)) (hX : wX EX) (hM : wM EM) (hd1 : ∀ q, wA EX q → ¬ wA EM q) (hd2 : ∀ q, wA EM q → ¬ wA EX q) (hX0 : va_X b L xs s s.heap) (hbl : b < s.heap.size) {i : Nat} (hi6 : i + 6 ≤ L) {σ τ : Mem} {H : Heap} {locs : List Loc} {ls : Array Slot} (hw : wd EX (fun q : Nat => s.heap.size ≤ q) s σ H locs) (hPM : va_P EM.1 vwCl (wL EM τ) H) (hR : R σ τ) (hl : lv_has ls 4 [(0, .ref b), (1, .ref (gE EX 0)), (2, .ref (gE EM 0)), (3, .int (nI i))]) (hnext : ∀ (σ τ : Mem) (H : Heap) (locs : List Loc) (ls : Array Slot), wd EX (fun q : Nat => s.heap.size ≤ q) s σ H locs → va_P EM.1 vwCl (wL EM τ) H → R σ τ → lv_has ls 4 [(0, .ref b), (1, .ref (gE EX 0)), (2, .ref (gE EM 0)), (3, .int (nI i))] → W p l e room_1 s m #[Value.ref b] below meth c H locs 90 6406 (lw_Z below #[Value.ref b] s) (F0 m 1283 ls [])) : W p l e room_1 s m #[Value.ref b] below meth c H locs 90 6406 (lw_Z below #[Value.ref b] s) (F0 m 237 ls []) := by
  have hx := CX.1.1
  have hb := CX.1.2.1
  have hbA : ¬ (fun q : Nat => s.heap.size ≤ q) b := Nat.not_le.mpr hbl
  refine lv_aload_n hx hb (dAt dL_1 0 rfl) rfl (lv_at hl 1 rfl) ?_
  refine lv_aload_n hx hb (dAt dL_1 1 rfl) rfl (lv_at hl 0 rfl) ?_
  refine lv_iload_n hx hb (dAt dL_1 2 rfl) rfl (lv_at hl 3 rfl) ?_
  refine lv_iconst (v := 1) hx hb (dAt dL_1 3 rfl) (by decide) ?_
  refine lv_iadd hx hb (dAt dL_1 4 rfl) ?_
  refine va_sld hx hb hX0 hbl hbA hw.2 (lw_in hi6 hL 1 (by decide)) (dAt dL_1 5 rfl) ?_
  refine y_calli CX hw hPM hd1 (x_runV (As := [.int (xs (nI i + (1 : Int32)).toNatClampNeg)]) (rest := []) CX hw (kX6_wipe l EX hX (xs (nI i + (1 : Int32)).toNatClampNeg) σ _ (hok σ τ (xs (nI i + (1 : Int32)).toNatClampNeg) hR)) mtX6_wipe lk_L_18 (hX.1 0) (nX hX (by decide)) rfl ⟨by decide, by decide⟩ ⟨rfl, rfl⟩ rfl hl.1 rfl (Nat.le_of_ble_eq_true rfl) (dAt dL_1 6 rfl) ⟨Nat.le_of_ble_eq_true rfl, Nat.le_of_ble_eq_true rfl⟩) (fun r1 σ1 H locs h hw hPM => ?_)
  refine lv_aload_n hx hb (dAt dL_1 7 rfl) rfl (lv_at hl 2 rfl) ?_
  refine lv_aload_n hx hb (dAt dL_1 8 rfl) rfl (lv_at hl 0 rfl) ?_
  refine lv_iload_n hx hb (dAt dL_1 9 rfl) rfl (lv_at hl 3 rfl) ?_
  refine lv_iconst (v := 1) hx hb (dAt dL_1 10 rfl) (by decide) ?_
  refine lv_iadd hx hb (dAt dL_1 11 rfl) ?_
  refine va_sld hx hb hX0 hbl hbA hw.2 (lw_in hi6 hL 1 (by decide)) (dAt dL_1 12 rfl) ?_
  refine y_calli CM ⟨hPM, hw.2⟩ hw.1 hd2 (x_runV (As := [.int (xs (nI i + (1 : Int32)).toNatClampNeg)]) (rest := [.int r1]) CM ⟨hPM, hw.2⟩ (kX7_wipe l EM hM (xs (nI i + (1 : Int32)).toNatClampNeg) τ _ h) mtX7_wipe lk_L_22 (hM.1 0) (nM hM (by decide)) rfl ⟨by decide, by decide⟩ ⟨rfl, rfl⟩ rfl hl.1 rfl (Nat.le_of_ble_eq_true rfl) (dAt dL_1 13 rfl) ⟨Nat.le_of_ble_eq_true rfl, Nat.le_of_ble_eq_true rfl⟩) (fun r2 τ1 H locs h hwM hPX => ?_)
  refine lv_icmp_eq (tgt := 1283) hx hb (dAt dL_1 14 rfl) (by decide) (fun _ => ?_) (fun z => absurd h.1 z)
  exact hnext σ1 τ1 H locs ls ⟨hPX, hwM.2⟩ hwM.1 h.2 hl
def tL_2 : List (Nat × Instr × Nat) := [(260, .aload_n 1, 1), (261, .aload_n 0, 1), (262, .iload_n 3, 1), (263, .iconst 1, 1), (264, .iadd, 1), (265, .iaload, 1), (266, .invokevirtual 23, 3), (269, .aload_n 2, 1), (270, .aload_n 0, 1), (271, .iload_n 3, 1), (272, .iconst 1, 1), (273, .iadd, 1), (274, .iaload, 1), (275, .invokevirtual 26, 3), (278, .if_icmp .eq 1005, 3), (281, .iconst 0, 1), (282, .ireturn, 1)]
theorem dL_2 : dOk cL_law tL_2 = true := by decide +kernel
set_option maxHeartbeats 4000000 in
set_option maxRecDepth 100000 in
theorem kL_2 {p : Program} {l : Launch} {e : Env} {s : State} {m : MethodId} {below : List Frame} {meth : Method} {c : Code} {b L : Nat} {xs : Nat → Int32} {EX EM : wE} {R : Mem → Mem → Prop} (hok : okL_2 R) (hL : L ≤ 3072) (CX : Cx p s m #[Value.ref b] c cL_law 4 RL EX (fun q : Nat => s.heap.size ≤ q)) (CM : Cx p s m #[Value.ref b] c cL_law 4 RL EM (fun q : Nat => s.heap.size ≤ q)) (hX : wX EX) (hM : wM EM) (hd1 : ∀ q, wA EX q → ¬ wA EM q) (hd2 : ∀ q, wA EM q → ¬ wA EX q) (hX0 : va_X b L xs s s.heap) (hbl : b < s.heap.size) {i : Nat} (hi6 : i + 6 ≤ L) {σ τ : Mem} {H : Heap} {locs : List Loc} {ls : Array Slot} (hw : wd EX (fun q : Nat => s.heap.size ≤ q) s σ H locs) (hPM : va_P EM.1 vwCl (wL EM τ) H) (hR : R σ τ) (hl : lv_has ls 4 [(0, .ref b), (1, .ref (gE EX 0)), (2, .ref (gE EM 0)), (3, .int (nI i))]) (hnext : ∀ (σ τ : Mem) (H : Heap) (locs : List Loc) (ls : Array Slot), wd EX (fun q : Nat => s.heap.size ≤ q) s σ H locs → va_P EM.1 vwCl (wL EM τ) H → R σ τ → lv_has ls 4 [(0, .ref b), (1, .ref (gE EX 0)), (2, .ref (gE EM 0)), (3, .int (nI i))] → W p l e room_1 s m #[Value.ref b] below meth c H locs 90 6406 (lw_Z below #[Value.ref b] s) (F0 m 1283 ls [])) : W p l e room_1 s m #[Value.ref b] below meth c H locs 90 6406 (lw_Z below #[Value.ref b] s) (F0 m 260 ls []) := by
  have hx := CX.1.1
  have hb := CX.1.2.1
  have hbA : ¬ (fun q : Nat => s.heap.size ≤ q) b := Nat.not_le.mpr hbl
  refine lv_aload_n hx hb (dAt dL_2 0 rfl) rfl (lv_at hl 1 rfl) ?_
  refine lv_aload_n hx hb (dAt dL_2 1 rfl) rfl (lv_at hl 0 rfl) ?_
  refine lv_iload_n hx hb (dAt dL_2 2 rfl) rfl (lv_at hl 3 rfl) ?_
  refine lv_iconst (v := 1) hx hb (dAt dL_2 3 rfl) (by decide) ?_
  refine lv_iadd hx hb (dAt dL_2 4 rfl) ?_
  refine va_sld hx hb hX0 hbl hbA hw.2 (lw_in hi6 hL 1 (by decide)) (dAt dL_2 5 rfl) ?_
  refine y_calli CX hw hPM hd1 (x_runV (As := [.int (xs (nI i + (1 : Int32)).toNatClampNeg)]) (rest := []) CX hw (kX6_undo l EX hX (xs (nI i + (1 : Int32)).toNatClampNeg) σ _ (hok σ τ (xs (nI i + (1 : Int32)).toNatClampNeg) hR)) mtX6_undo lk_L_23 (hX.1 0) (nX hX (by decide)) rfl ⟨by decide, by decide⟩ ⟨rfl, rfl⟩ rfl hl.1 rfl (Nat.le_of_ble_eq_true rfl) (dAt dL_2 6 rfl) ⟨Nat.le_of_ble_eq_true rfl, Nat.le_of_ble_eq_true rfl⟩) (fun r1 σ1 H locs h hw hPM => ?_)
  refine lv_aload_n hx hb (dAt dL_2 7 rfl) rfl (lv_at hl 2 rfl) ?_
  refine lv_aload_n hx hb (dAt dL_2 8 rfl) rfl (lv_at hl 0 rfl) ?_
  refine lv_iload_n hx hb (dAt dL_2 9 rfl) rfl (lv_at hl 3 rfl) ?_
  refine lv_iconst (v := 1) hx hb (dAt dL_2 10 rfl) (by decide) ?_
  refine lv_iadd hx hb (dAt dL_2 11 rfl) ?_
  refine va_sld hx hb hX0 hbl hbA hw.2 (lw_in hi6 hL 1 (by decide)) (dAt dL_2 12 rfl) ?_
  refine y_calli CM ⟨hPM, hw.2⟩ hw.1 hd2 (x_runV (As := [.int (xs (nI i + (1 : Int32)).toNatClampNeg)]) (rest := [.int r1]) CM ⟨hPM, hw.2⟩ (kX7_undo l EM hM (xs (nI i + (1 : Int32)).toNatClampNeg) τ _ h) mtX7_undo lk_L_26 (hM.1 0) (nM hM (by decide)) rfl ⟨by decide, by decide⟩ ⟨rfl, rfl⟩ rfl hl.1 rfl (Nat.le_of_ble_eq_true rfl) (dAt dL_2 13 rfl) ⟨Nat.le_of_ble_eq_true rfl, Nat.le_of_ble_eq_true rfl⟩) (fun r2 τ1 H locs h hwM hPX => ?_)
  refine lv_icmp_eq (tgt := 1283) hx hb (dAt dL_2 14 rfl) (by decide) (fun _ => ?_) (fun z => absurd h.1 z)
  exact hnext σ1 τ1 H locs ls ⟨hPX, hwM.2⟩ hwM.1 h.2 hl
def tL_3 : List (Nat × Instr × Nat) := [(283, .aload_n 1, 1), (284, .aload_n 0, 1), (285, .iload_n 3, 1), (286, .iconst 1, 1), (287, .iadd, 1), (288, .iaload, 1), (289, .invokevirtual 27, 3), (292, .aload_n 2, 1), (293, .aload_n 0, 1), (294, .iload_n 3, 1), (295, .iconst 1, 1), (296, .iadd, 1), (297, .iaload, 1), (298, .invokevirtual 30, 3), (301, .if_icmp .eq 982, 3), (304, .iconst 0, 1), (305, .ireturn, 1)]
theorem dL_3 : dOk cL_law tL_3 = true := by decide +kernel
set_option maxHeartbeats 4000000 in
set_option maxRecDepth 100000 in
theorem kL_3 {p : Program} {l : Launch} {e : Env} {s : State} {m : MethodId} {below : List Frame} {meth : Method} {c : Code} {b L : Nat} {xs : Nat → Int32} {EX EM : wE} {R : Mem → Mem → Prop} (hok : okL_3 R) (hL : L ≤ 3072) (CX : Cx p s m #[Value.ref b] c cL_law 4 RL EX (fun q : Nat => s.heap.size ≤ q)) (CM : Cx p s m #[Value.ref b] c cL_law 4 RL EM (fun q : Nat => s.heap.size ≤ q)) (hX : wX EX) (hM : wM EM) (hd1 : ∀ q, wA EX q → ¬ wA EM q) (hd2 : ∀ q, wA EM q → ¬ wA EX q) (hX0 : va_X b L xs s s.heap) (hbl : b < s.heap.size) {i : Nat} (hi6 : i + 6 ≤ L) {σ τ : Mem} {H : Heap} {locs : List Loc} {ls : Array Slot} (hw : wd EX (fun q : Nat => s.heap.size ≤ q) s σ H locs) (hPM : va_P EM.1 vwCl (wL EM τ) H) (hR : R σ τ) (hl : lv_has ls 4 [(0, .ref b), (1, .ref (gE EX 0)), (2, .ref (gE EM 0)), (3, .int (nI i))]) (hnext : ∀ (σ τ : Mem) (H : Heap) (locs : List Loc) (ls : Array Slot), wd EX (fun q : Nat => s.heap.size ≤ q) s σ H locs → va_P EM.1 vwCl (wL EM τ) H → R σ τ → lv_has ls 4 [(0, .ref b), (1, .ref (gE EX 0)), (2, .ref (gE EM 0)), (3, .int (nI i))] → W p l e room_1 s m #[Value.ref b] below meth c H locs 90 6406 (lw_Z below #[Value.ref b] s) (F0 m 1283 ls [])) : W p l e room_1 s m #[Value.ref b] below meth c H locs 90 6406 (lw_Z below #[Value.ref b] s) (F0 m 283 ls []) := by
  have hx := CX.1.1
  have hb := CX.1.2.1
  have hbA : ¬ (fun q : Nat => s.heap.size ≤ q) b := Nat.not_le.mpr hbl
  refine lv_aload_n hx hb (dAt dL_3 0 rfl) rfl (lv_at hl 1 rfl) ?_
  refine lv_aload_n hx hb (dAt dL_3 1 rfl) rfl (lv_at hl 0 rfl) ?_
  refine lv_iload_n hx hb (dAt dL_3 2 rfl) rfl (lv_at hl 3 rfl) ?_
  refine lv_iconst (v := 1) hx hb (dAt dL_3 3 rfl) (by decide) ?_
  refine lv_iadd hx hb (dAt dL_3 4 rfl) ?_
  refine va_sld hx hb hX0 hbl hbA hw.2 (lw_in hi6 hL 1 (by decide)) (dAt dL_3 5 rfl) ?_
  refine y_calli CX hw hPM hd1 (x_runV (As := [.int (xs (nI i + (1 : Int32)).toNatClampNeg)]) (rest := []) CX hw (kX6_fault l EX hX (xs (nI i + (1 : Int32)).toNatClampNeg) σ _ (hok σ τ (xs (nI i + (1 : Int32)).toNatClampNeg) hR)) mtX6_fault lk_L_27 (hX.1 0) (nX hX (by decide)) rfl ⟨by decide, by decide⟩ ⟨rfl, rfl⟩ rfl hl.1 rfl (Nat.le_of_ble_eq_true rfl) (dAt dL_3 6 rfl) ⟨Nat.le_of_ble_eq_true rfl, Nat.le_of_ble_eq_true rfl⟩) (fun r1 σ1 H locs h hw hPM => ?_)
  refine lv_aload_n hx hb (dAt dL_3 7 rfl) rfl (lv_at hl 2 rfl) ?_
  refine lv_aload_n hx hb (dAt dL_3 8 rfl) rfl (lv_at hl 0 rfl) ?_
  refine lv_iload_n hx hb (dAt dL_3 9 rfl) rfl (lv_at hl 3 rfl) ?_
  refine lv_iconst (v := 1) hx hb (dAt dL_3 10 rfl) (by decide) ?_
  refine lv_iadd hx hb (dAt dL_3 11 rfl) ?_
  refine va_sld hx hb hX0 hbl hbA hw.2 (lw_in hi6 hL 1 (by decide)) (dAt dL_3 12 rfl) ?_
  refine y_calli CM ⟨hPM, hw.2⟩ hw.1 hd2 (x_runV (As := [.int (xs (nI i + (1 : Int32)).toNatClampNeg)]) (rest := [.int r1]) CM ⟨hPM, hw.2⟩ (kX7_fault l EM hM (xs (nI i + (1 : Int32)).toNatClampNeg) τ _ h) mtX7_fault lk_L_30 (hM.1 0) (nM hM (by decide)) rfl ⟨by decide, by decide⟩ ⟨rfl, rfl⟩ rfl hl.1 rfl (Nat.le_of_ble_eq_true rfl) (dAt dL_3 13 rfl) ⟨Nat.le_of_ble_eq_true rfl, Nat.le_of_ble_eq_true rfl⟩) (fun r2 τ1 H locs h hwM hPX => ?_)
  refine lv_icmp_eq (tgt := 1283) hx hb (dAt dL_3 14 rfl) (by decide) (fun _ => ?_) (fun z => absurd h.1 z)
  exact hnext σ1 τ1 H locs ls ⟨hPX, hwM.2⟩ hwM.1 h.2 hl
def tL_4 : List (Nat × Instr × Nat) := [(306, .aload_n 1, 1), (307, .aload_n 0, 1), (308, .iload_n 3, 1), (309, .iconst 1, 1), (310, .iadd, 1), (311, .iaload, 1), (312, .aload_n 0, 1), (313, .iload_n 3, 1), (314, .iconst 2, 1), (315, .iadd, 1), (316, .iaload, 1), (317, .invokevirtual 31, 3), (320, .aload_n 2, 1), (321, .aload_n 0, 1), (322, .iload_n 3, 1), (323, .iconst 1, 1), (324, .iadd, 1), (325, .iaload, 1), (326, .aload_n 0, 1), (327, .iload_n 3, 1), (328, .iconst 2, 1), (329, .iadd, 1), (330, .iaload, 1), (331, .invokevirtual 34, 3), (334, .if_icmp .eq 949, 3), (337, .iconst 0, 1), (338, .ireturn, 1)]
theorem dL_4 : dOk cL_law tL_4 = true := by decide +kernel
set_option maxHeartbeats 4000000 in
set_option maxRecDepth 100000 in
theorem kL_4 {p : Program} {l : Launch} {e : Env} {s : State} {m : MethodId} {below : List Frame} {meth : Method} {c : Code} {b L : Nat} {xs : Nat → Int32} {EX EM : wE} {R : Mem → Mem → Prop} (hok : okL_4 R) (hL : L ≤ 3072) (CX : Cx p s m #[Value.ref b] c cL_law 4 RL EX (fun q : Nat => s.heap.size ≤ q)) (CM : Cx p s m #[Value.ref b] c cL_law 4 RL EM (fun q : Nat => s.heap.size ≤ q)) (hX : wX EX) (hM : wM EM) (hd1 : ∀ q, wA EX q → ¬ wA EM q) (hd2 : ∀ q, wA EM q → ¬ wA EX q) (hX0 : va_X b L xs s s.heap) (hbl : b < s.heap.size) {i : Nat} (hi6 : i + 6 ≤ L) {σ τ : Mem} {H : Heap} {locs : List Loc} {ls : Array Slot} (hw : wd EX (fun q : Nat => s.heap.size ≤ q) s σ H locs) (hPM : va_P EM.1 vwCl (wL EM τ) H) (hR : R σ τ) (hl : lv_has ls 4 [(0, .ref b), (1, .ref (gE EX 0)), (2, .ref (gE EM 0)), (3, .int (nI i))]) (hnext : ∀ (σ τ : Mem) (H : Heap) (locs : List Loc) (ls : Array Slot), wd EX (fun q : Nat => s.heap.size ≤ q) s σ H locs → va_P EM.1 vwCl (wL EM τ) H → R σ τ → lv_has ls 4 [(0, .ref b), (1, .ref (gE EX 0)), (2, .ref (gE EM 0)), (3, .int (nI i))] → W p l e room_1 s m #[Value.ref b] below meth c H locs 90 6406 (lw_Z below #[Value.ref b] s) (F0 m 1283 ls [])) : W p l e room_1 s m #[Value.ref b] below meth c H locs 90 6406 (lw_Z below #[Value.ref b] s) (F0 m 306 ls []) := by
  have hx := CX.1.1
  have hb := CX.1.2.1
  have hbA : ¬ (fun q : Nat => s.heap.size ≤ q) b := Nat.not_le.mpr hbl
  refine lv_aload_n hx hb (dAt dL_4 0 rfl) rfl (lv_at hl 1 rfl) ?_
  refine lv_aload_n hx hb (dAt dL_4 1 rfl) rfl (lv_at hl 0 rfl) ?_
  refine lv_iload_n hx hb (dAt dL_4 2 rfl) rfl (lv_at hl 3 rfl) ?_
  refine lv_iconst (v := 1) hx hb (dAt dL_4 3 rfl) (by decide) ?_
  refine lv_iadd hx hb (dAt dL_4 4 rfl) ?_
  refine va_sld hx hb hX0 hbl hbA hw.2 (lw_in hi6 hL 1 (by decide)) (dAt dL_4 5 rfl) ?_
  refine lv_aload_n hx hb (dAt dL_4 6 rfl) rfl (lv_at hl 0 rfl) ?_
  refine lv_iload_n hx hb (dAt dL_4 7 rfl) rfl (lv_at hl 3 rfl) ?_
  refine lv_iconst (v := 2) hx hb (dAt dL_4 8 rfl) (by decide) ?_
  refine lv_iadd hx hb (dAt dL_4 9 rfl) ?_
  refine va_sld hx hb hX0 hbl hbA hw.2 (lw_in hi6 hL 2 (by decide)) (dAt dL_4 10 rfl) ?_
  refine y_calli CX hw hPM hd1 (x_runV (As := [.int (xs (nI i + (1 : Int32)).toNatClampNeg), .int (xs (nI i + (2 : Int32)).toNatClampNeg)]) (rest := []) CX hw (kX6_dancer l EX hX (xs (nI i + (1 : Int32)).toNatClampNeg) (xs (nI i + (2 : Int32)).toNatClampNeg) σ _ (hok σ τ (xs (nI i + (1 : Int32)).toNatClampNeg) (xs (nI i + (2 : Int32)).toNatClampNeg) hR)) mtX6_dancer lk_L_31 (hX.1 0) (nX hX (by decide)) rfl ⟨by decide, by decide⟩ ⟨rfl, rfl⟩ rfl hl.1 rfl (Nat.le_of_ble_eq_true rfl) (dAt dL_4 11 rfl) ⟨Nat.le_of_ble_eq_true rfl, Nat.le_of_ble_eq_true rfl⟩) (fun r1 σ1 H locs h hw hPM => ?_)
  refine lv_aload_n hx hb (dAt dL_4 12 rfl) rfl (lv_at hl 2 rfl) ?_
  refine lv_aload_n hx hb (dAt dL_4 13 rfl) rfl (lv_at hl 0 rfl) ?_
  refine lv_iload_n hx hb (dAt dL_4 14 rfl) rfl (lv_at hl 3 rfl) ?_
  refine lv_iconst (v := 1) hx hb (dAt dL_4 15 rfl) (by decide) ?_
  refine lv_iadd hx hb (dAt dL_4 16 rfl) ?_
  refine va_sld hx hb hX0 hbl hbA hw.2 (lw_in hi6 hL 1 (by decide)) (dAt dL_4 17 rfl) ?_
  refine lv_aload_n hx hb (dAt dL_4 18 rfl) rfl (lv_at hl 0 rfl) ?_
  refine lv_iload_n hx hb (dAt dL_4 19 rfl) rfl (lv_at hl 3 rfl) ?_
  refine lv_iconst (v := 2) hx hb (dAt dL_4 20 rfl) (by decide) ?_
  refine lv_iadd hx hb (dAt dL_4 21 rfl) ?_
  refine va_sld hx hb hX0 hbl hbA hw.2 (lw_in hi6 hL 2 (by decide)) (dAt dL_4 22 rfl) ?_
  refine y_calli CM ⟨hPM, hw.2⟩ hw.1 hd2 (x_runV (As := [.int (xs (nI i + (1 : Int32)).toNatClampNeg), .int (xs (nI i + (2 : Int32)).toNatClampNeg)]) (rest := [.int r1]) CM ⟨hPM, hw.2⟩ (kX7_dancer l EM hM (xs (nI i + (1 : Int32)).toNatClampNeg) (xs (nI i + (2 : Int32)).toNatClampNeg) τ _ h) mtX7_dancer lk_L_34 (hM.1 0) (nM hM (by decide)) rfl ⟨by decide, by decide⟩ ⟨rfl, rfl⟩ rfl hl.1 rfl (Nat.le_of_ble_eq_true rfl) (dAt dL_4 23 rfl) ⟨Nat.le_of_ble_eq_true rfl, Nat.le_of_ble_eq_true rfl⟩) (fun r2 τ1 H locs h hwM hPX => ?_)
  refine lv_icmp_eq (tgt := 1283) hx hb (dAt dL_4 24 rfl) (by decide) (fun _ => ?_) (fun z => absurd h.1 z)
  exact hnext σ1 τ1 H locs ls ⟨hPX, hwM.2⟩ hwM.1 h.2 hl
def tL_5 : List (Nat × Instr × Nat) := [(339, .aload_n 1, 1), (340, .aload_n 0, 1), (341, .iload_n 3, 1), (342, .iconst 1, 1), (343, .iadd, 1), (344, .iaload, 1), (345, .invokevirtual 35, 3), (348, .aload_n 2, 1), (349, .aload_n 0, 1), (350, .iload_n 3, 1), (351, .iconst 1, 1), (352, .iadd, 1), (353, .iaload, 1), (354, .invokevirtual 38, 3), (357, .if_icmp .eq 926, 3), (360, .iconst 0, 1), (361, .ireturn, 1)]
theorem dL_5 : dOk cL_law tL_5 = true := by decide +kernel
set_option maxHeartbeats 4000000 in
set_option maxRecDepth 100000 in
theorem kL_5 {p : Program} {l : Launch} {e : Env} {s : State} {m : MethodId} {below : List Frame} {meth : Method} {c : Code} {b L : Nat} {xs : Nat → Int32} {EX EM : wE} {R : Mem → Mem → Prop} (hok : okL_5 R) (hL : L ≤ 3072) (CX : Cx p s m #[Value.ref b] c cL_law 4 RL EX (fun q : Nat => s.heap.size ≤ q)) (CM : Cx p s m #[Value.ref b] c cL_law 4 RL EM (fun q : Nat => s.heap.size ≤ q)) (hX : wX EX) (hM : wM EM) (hd1 : ∀ q, wA EX q → ¬ wA EM q) (hd2 : ∀ q, wA EM q → ¬ wA EX q) (hX0 : va_X b L xs s s.heap) (hbl : b < s.heap.size) {i : Nat} (hi6 : i + 6 ≤ L) {σ τ : Mem} {H : Heap} {locs : List Loc} {ls : Array Slot} (hw : wd EX (fun q : Nat => s.heap.size ≤ q) s σ H locs) (hPM : va_P EM.1 vwCl (wL EM τ) H) (hR : R σ τ) (hl : lv_has ls 4 [(0, .ref b), (1, .ref (gE EX 0)), (2, .ref (gE EM 0)), (3, .int (nI i))]) (hnext : ∀ (σ τ : Mem) (H : Heap) (locs : List Loc) (ls : Array Slot), wd EX (fun q : Nat => s.heap.size ≤ q) s σ H locs → va_P EM.1 vwCl (wL EM τ) H → R σ τ → lv_has ls 4 [(0, .ref b), (1, .ref (gE EX 0)), (2, .ref (gE EM 0)), (3, .int (nI i))] → W p l e room_1 s m #[Value.ref b] below meth c H locs 90 6406 (lw_Z below #[Value.ref b] s) (F0 m 1283 ls [])) : W p l e room_1 s m #[Value.ref b] below meth c H locs 90 6406 (lw_Z below #[Value.ref b] s) (F0 m 339 ls []) := by
  have hx := CX.1.1
  have hb := CX.1.2.1
  have hbA : ¬ (fun q : Nat => s.heap.size ≤ q) b := Nat.not_le.mpr hbl
  refine lv_aload_n hx hb (dAt dL_5 0 rfl) rfl (lv_at hl 1 rfl) ?_
  refine lv_aload_n hx hb (dAt dL_5 1 rfl) rfl (lv_at hl 0 rfl) ?_
  refine lv_iload_n hx hb (dAt dL_5 2 rfl) rfl (lv_at hl 3 rfl) ?_
  refine lv_iconst (v := 1) hx hb (dAt dL_5 3 rfl) (by decide) ?_
  refine lv_iadd hx hb (dAt dL_5 4 rfl) ?_
  refine va_sld hx hb hX0 hbl hbA hw.2 (lw_in hi6 hL 1 (by decide)) (dAt dL_5 5 rfl) ?_
  refine y_calli CX hw hPM hd1 (x_runV (As := [.int (xs (nI i + (1 : Int32)).toNatClampNeg)]) (rest := []) CX hw (kX6_steps l EX hX (xs (nI i + (1 : Int32)).toNatClampNeg) σ _ (hok σ τ (xs (nI i + (1 : Int32)).toNatClampNeg) hR)) mtX6_steps lk_L_35 (hX.1 0) (nX hX (by decide)) rfl ⟨by decide, by decide⟩ ⟨rfl, rfl⟩ rfl hl.1 rfl (Nat.le_of_ble_eq_true rfl) (dAt dL_5 6 rfl) ⟨Nat.le_of_ble_eq_true rfl, Nat.le_of_ble_eq_true rfl⟩) (fun r1 σ1 H locs h hw hPM => ?_)
  refine lv_aload_n hx hb (dAt dL_5 7 rfl) rfl (lv_at hl 2 rfl) ?_
  refine lv_aload_n hx hb (dAt dL_5 8 rfl) rfl (lv_at hl 0 rfl) ?_
  refine lv_iload_n hx hb (dAt dL_5 9 rfl) rfl (lv_at hl 3 rfl) ?_
  refine lv_iconst (v := 1) hx hb (dAt dL_5 10 rfl) (by decide) ?_
  refine lv_iadd hx hb (dAt dL_5 11 rfl) ?_
  refine va_sld hx hb hX0 hbl hbA hw.2 (lw_in hi6 hL 1 (by decide)) (dAt dL_5 12 rfl) ?_
  refine y_calli CM ⟨hPM, hw.2⟩ hw.1 hd2 (x_runV (As := [.int (xs (nI i + (1 : Int32)).toNatClampNeg)]) (rest := [.int r1]) CM ⟨hPM, hw.2⟩ (kX7_steps l EM hM (xs (nI i + (1 : Int32)).toNatClampNeg) τ _ h) mtX7_steps lk_L_38 (hM.1 0) (nM hM (by decide)) rfl ⟨by decide, by decide⟩ ⟨rfl, rfl⟩ rfl hl.1 rfl (Nat.le_of_ble_eq_true rfl) (dAt dL_5 13 rfl) ⟨Nat.le_of_ble_eq_true rfl, Nat.le_of_ble_eq_true rfl⟩) (fun r2 τ1 H locs h hwM hPX => ?_)
  refine lv_icmp_eq (tgt := 1283) hx hb (dAt dL_5 14 rfl) (by decide) (fun _ => ?_) (fun z => absurd h.1 z)
  exact hnext σ1 τ1 H locs ls ⟨hPX, hwM.2⟩ hwM.1 h.2 hl
def tL_6 : List (Nat × Instr × Nat) := [(362, .aload_n 1, 1), (363, .aload_n 0, 1), (364, .iload_n 3, 1), (365, .iconst 1, 1), (366, .iadd, 1), (367, .iaload, 1), (368, .invokevirtual 39, 3), (371, .aload_n 2, 1), (372, .aload_n 0, 1), (373, .iload_n 3, 1), (374, .iconst 1, 1), (375, .iadd, 1), (376, .iaload, 1), (377, .invokevirtual 42, 3), (380, .if_icmp .eq 903, 3), (383, .iconst 0, 1), (384, .ireturn, 1)]
theorem dL_6 : dOk cL_law tL_6 = true := by decide +kernel
set_option maxHeartbeats 4000000 in
set_option maxRecDepth 100000 in
theorem kL_6 {p : Program} {l : Launch} {e : Env} {s : State} {m : MethodId} {below : List Frame} {meth : Method} {c : Code} {b L : Nat} {xs : Nat → Int32} {EX EM : wE} {R : Mem → Mem → Prop} (hok : okL_6 R) (hL : L ≤ 3072) (CX : Cx p s m #[Value.ref b] c cL_law 4 RL EX (fun q : Nat => s.heap.size ≤ q)) (CM : Cx p s m #[Value.ref b] c cL_law 4 RL EM (fun q : Nat => s.heap.size ≤ q)) (hX : wX EX) (hM : wM EM) (hd1 : ∀ q, wA EX q → ¬ wA EM q) (hd2 : ∀ q, wA EM q → ¬ wA EX q) (hX0 : va_X b L xs s s.heap) (hbl : b < s.heap.size) {i : Nat} (hi6 : i + 6 ≤ L) {σ τ : Mem} {H : Heap} {locs : List Loc} {ls : Array Slot} (hw : wd EX (fun q : Nat => s.heap.size ≤ q) s σ H locs) (hPM : va_P EM.1 vwCl (wL EM τ) H) (hR : R σ τ) (hl : lv_has ls 4 [(0, .ref b), (1, .ref (gE EX 0)), (2, .ref (gE EM 0)), (3, .int (nI i))]) (hnext : ∀ (σ τ : Mem) (H : Heap) (locs : List Loc) (ls : Array Slot), wd EX (fun q : Nat => s.heap.size ≤ q) s σ H locs → va_P EM.1 vwCl (wL EM τ) H → R σ τ → lv_has ls 4 [(0, .ref b), (1, .ref (gE EX 0)), (2, .ref (gE EM 0)), (3, .int (nI i))] → W p l e room_1 s m #[Value.ref b] below meth c H locs 90 6406 (lw_Z below #[Value.ref b] s) (F0 m 1283 ls [])) : W p l e room_1 s m #[Value.ref b] below meth c H locs 90 6406 (lw_Z below #[Value.ref b] s) (F0 m 362 ls []) := by
  have hx := CX.1.1
  have hb := CX.1.2.1
  have hbA : ¬ (fun q : Nat => s.heap.size ≤ q) b := Nat.not_le.mpr hbl
  refine lv_aload_n hx hb (dAt dL_6 0 rfl) rfl (lv_at hl 1 rfl) ?_
  refine lv_aload_n hx hb (dAt dL_6 1 rfl) rfl (lv_at hl 0 rfl) ?_
  refine lv_iload_n hx hb (dAt dL_6 2 rfl) rfl (lv_at hl 3 rfl) ?_
  refine lv_iconst (v := 1) hx hb (dAt dL_6 3 rfl) (by decide) ?_
  refine lv_iadd hx hb (dAt dL_6 4 rfl) ?_
  refine va_sld hx hb hX0 hbl hbA hw.2 (lw_in hi6 hL 1 (by decide)) (dAt dL_6 5 rfl) ?_
  refine y_calli CX hw hPM hd1 (x_runV (As := [.int (xs (nI i + (1 : Int32)).toNatClampNeg)]) (rest := []) CX hw (kX6_ribbons l EX hX (xs (nI i + (1 : Int32)).toNatClampNeg) σ _ (hok σ τ (xs (nI i + (1 : Int32)).toNatClampNeg) hR)) mtX6_ribbons lk_L_39 (hX.1 0) (nX hX (by decide)) rfl ⟨by decide, by decide⟩ ⟨rfl, rfl⟩ rfl hl.1 rfl (Nat.le_of_ble_eq_true rfl) (dAt dL_6 6 rfl) ⟨Nat.le_of_ble_eq_true rfl, Nat.le_of_ble_eq_true rfl⟩) (fun r1 σ1 H locs h hw hPM => ?_)
  refine lv_aload_n hx hb (dAt dL_6 7 rfl) rfl (lv_at hl 2 rfl) ?_
  refine lv_aload_n hx hb (dAt dL_6 8 rfl) rfl (lv_at hl 0 rfl) ?_
  refine lv_iload_n hx hb (dAt dL_6 9 rfl) rfl (lv_at hl 3 rfl) ?_
  refine lv_iconst (v := 1) hx hb (dAt dL_6 10 rfl) (by decide) ?_
  refine lv_iadd hx hb (dAt dL_6 11 rfl) ?_
  refine va_sld hx hb hX0 hbl hbA hw.2 (lw_in hi6 hL 1 (by decide)) (dAt dL_6 12 rfl) ?_
  refine y_calli CM ⟨hPM, hw.2⟩ hw.1 hd2 (x_runV (As := [.int (xs (nI i + (1 : Int32)).toNatClampNeg)]) (rest := [.int r1]) CM ⟨hPM, hw.2⟩ (kX7_ribbons l EM hM (xs (nI i + (1 : Int32)).toNatClampNeg) τ _ h) mtX7_ribbons lk_L_42 (hM.1 0) (nM hM (by decide)) rfl ⟨by decide, by decide⟩ ⟨rfl, rfl⟩ rfl hl.1 rfl (Nat.le_of_ble_eq_true rfl) (dAt dL_6 13 rfl) ⟨Nat.le_of_ble_eq_true rfl, Nat.le_of_ble_eq_true rfl⟩) (fun r2 τ1 H locs h hwM hPX => ?_)
  refine lv_icmp_eq (tgt := 1283) hx hb (dAt dL_6 14 rfl) (by decide) (fun _ => ?_) (fun z => absurd h.1 z)
  exact hnext σ1 τ1 H locs ls ⟨hPX, hwM.2⟩ hwM.1 h.2 hl
def tL_7 : List (Nat × Instr × Nat) := [(385, .aload_n 1, 1), (386, .aload_n 0, 1), (387, .iload_n 3, 1), (388, .iconst 1, 1), (389, .iadd, 1), (390, .iaload, 1), (391, .aload_n 0, 1), (392, .iload_n 3, 1), (393, .iconst 2, 1), (394, .iadd, 1), (395, .iaload, 1), (396, .aload_n 0, 1), (397, .iload_n 3, 1), (398, .iconst 3, 1), (399, .iadd, 1), (400, .iaload, 1), (401, .invokevirtual 43, 3), (404, .aload_n 2, 1), (405, .aload_n 0, 1), (406, .iload_n 3, 1), (407, .iconst 1, 1), (408, .iadd, 1), (409, .iaload, 1), (410, .aload_n 0, 1), (411, .iload_n 3, 1), (412, .iconst 2, 1), (413, .iadd, 1), (414, .iaload, 1), (415, .aload_n 0, 1), (416, .iload_n 3, 1), (417, .iconst 3, 1), (418, .iadd, 1), (419, .iaload, 1), (420, .invokevirtual 47, 3), (423, .if_icmp .eq 860, 3), (426, .iconst 0, 1), (427, .ireturn, 1)]
theorem dL_7 : dOk cL_law tL_7 = true := by decide +kernel
set_option maxHeartbeats 4000000 in
set_option maxRecDepth 100000 in
theorem kL_7 {p : Program} {l : Launch} {e : Env} {s : State} {m : MethodId} {below : List Frame} {meth : Method} {c : Code} {b L : Nat} {xs : Nat → Int32} {EX EM : wE} {R : Mem → Mem → Prop} (hok : okL_7 R) (hL : L ≤ 3072) (CX : Cx p s m #[Value.ref b] c cL_law 4 RL EX (fun q : Nat => s.heap.size ≤ q)) (CM : Cx p s m #[Value.ref b] c cL_law 4 RL EM (fun q : Nat => s.heap.size ≤ q)) (hX : wX EX) (hM : wM EM) (hd1 : ∀ q, wA EX q → ¬ wA EM q) (hd2 : ∀ q, wA EM q → ¬ wA EX q) (hX0 : va_X b L xs s s.heap) (hbl : b < s.heap.size) {i : Nat} (hi6 : i + 6 ≤ L) {σ τ : Mem} {H : Heap} {locs : List Loc} {ls : Array Slot} (hw : wd EX (fun q : Nat => s.heap.size ≤ q) s σ H locs) (hPM : va_P EM.1 vwCl (wL EM τ) H) (hR : R σ τ) (hl : lv_has ls 4 [(0, .ref b), (1, .ref (gE EX 0)), (2, .ref (gE EM 0)), (3, .int (nI i))]) (hnext : ∀ (σ τ : Mem) (H : Heap) (locs : List Loc) (ls : Array Slot), wd EX (fun q : Nat => s.heap.size ≤ q) s σ H locs → va_P EM.1 vwCl (wL EM τ) H → R σ τ → lv_has ls 4 [(0, .ref b), (1, .ref (gE EX 0)), (2, .ref (gE EM 0)), (3, .int (nI i))] → W p l e room_1 s m #[Value.ref b] below meth c H locs 90 6406 (lw_Z below #[Value.ref b] s) (F0 m 1283 ls [])) : W p l e room_1 s m #[Value.ref b] below meth c H locs 90 6406 (lw_Z below #[Value.ref b] s) (F0 m 385 ls []) := by
  have hx := CX.1.1
  have hb := CX.1.2.1
  have hbA : ¬ (fun q : Nat => s.heap.size ≤ q) b := Nat.not_le.mpr hbl
  refine lv_aload_n hx hb (dAt dL_7 0 rfl) rfl (lv_at hl 1 rfl) ?_
  refine lv_aload_n hx hb (dAt dL_7 1 rfl) rfl (lv_at hl 0 rfl) ?_
  refine lv_iload_n hx hb (dAt dL_7 2 rfl) rfl (lv_at hl 3 rfl) ?_
  refine lv_iconst (v := 1) hx hb (dAt dL_7 3 rfl) (by decide) ?_
  refine lv_iadd hx hb (dAt dL_7 4 rfl) ?_
  refine va_sld hx hb hX0 hbl hbA hw.2 (lw_in hi6 hL 1 (by decide)) (dAt dL_7 5 rfl) ?_
  refine lv_aload_n hx hb (dAt dL_7 6 rfl) rfl (lv_at hl 0 rfl) ?_
  refine lv_iload_n hx hb (dAt dL_7 7 rfl) rfl (lv_at hl 3 rfl) ?_
  refine lv_iconst (v := 2) hx hb (dAt dL_7 8 rfl) (by decide) ?_
  refine lv_iadd hx hb (dAt dL_7 9 rfl) ?_
  refine va_sld hx hb hX0 hbl hbA hw.2 (lw_in hi6 hL 2 (by decide)) (dAt dL_7 10 rfl) ?_
  refine lv_aload_n hx hb (dAt dL_7 11 rfl) rfl (lv_at hl 0 rfl) ?_
  refine lv_iload_n hx hb (dAt dL_7 12 rfl) rfl (lv_at hl 3 rfl) ?_
  refine lv_iconst (v := 3) hx hb (dAt dL_7 13 rfl) (by decide) ?_
  refine lv_iadd hx hb (dAt dL_7 14 rfl) ?_
  refine va_sld hx hb hX0 hbl hbA hw.2 (lw_in hi6 hL 3 (by decide)) (dAt dL_7 15 rfl) ?_
  refine y_calli CX hw hPM hd1 (x_runV (As := [.int (xs (nI i + (1 : Int32)).toNatClampNeg), .int (xs (nI i + (2 : Int32)).toNatClampNeg), .int (xs (nI i + (3 : Int32)).toNatClampNeg)]) (rest := []) CX hw (kX6_event l EX hX (xs (nI i + (1 : Int32)).toNatClampNeg) (xs (nI i + (2 : Int32)).toNatClampNeg) (xs (nI i + (3 : Int32)).toNatClampNeg) σ _ (hok σ τ (xs (nI i + (1 : Int32)).toNatClampNeg) (xs (nI i + (2 : Int32)).toNatClampNeg) (xs (nI i + (3 : Int32)).toNatClampNeg) hR)) mtX6_event lk_L_43 (hX.1 0) (nX hX (by decide)) rfl ⟨by decide, by decide⟩ ⟨rfl, rfl⟩ rfl hl.1 rfl (Nat.le_of_ble_eq_true rfl) (dAt dL_7 16 rfl) ⟨Nat.le_of_ble_eq_true rfl, Nat.le_of_ble_eq_true rfl⟩) (fun r1 σ1 H locs h hw hPM => ?_)
  refine lv_aload_n hx hb (dAt dL_7 17 rfl) rfl (lv_at hl 2 rfl) ?_
  refine lv_aload_n hx hb (dAt dL_7 18 rfl) rfl (lv_at hl 0 rfl) ?_
  refine lv_iload_n hx hb (dAt dL_7 19 rfl) rfl (lv_at hl 3 rfl) ?_
  refine lv_iconst (v := 1) hx hb (dAt dL_7 20 rfl) (by decide) ?_
  refine lv_iadd hx hb (dAt dL_7 21 rfl) ?_
  refine va_sld hx hb hX0 hbl hbA hw.2 (lw_in hi6 hL 1 (by decide)) (dAt dL_7 22 rfl) ?_
  refine lv_aload_n hx hb (dAt dL_7 23 rfl) rfl (lv_at hl 0 rfl) ?_
  refine lv_iload_n hx hb (dAt dL_7 24 rfl) rfl (lv_at hl 3 rfl) ?_
  refine lv_iconst (v := 2) hx hb (dAt dL_7 25 rfl) (by decide) ?_
  refine lv_iadd hx hb (dAt dL_7 26 rfl) ?_
  refine va_sld hx hb hX0 hbl hbA hw.2 (lw_in hi6 hL 2 (by decide)) (dAt dL_7 27 rfl) ?_
  refine lv_aload_n hx hb (dAt dL_7 28 rfl) rfl (lv_at hl 0 rfl) ?_
  refine lv_iload_n hx hb (dAt dL_7 29 rfl) rfl (lv_at hl 3 rfl) ?_
  refine lv_iconst (v := 3) hx hb (dAt dL_7 30 rfl) (by decide) ?_
  refine lv_iadd hx hb (dAt dL_7 31 rfl) ?_
  refine va_sld hx hb hX0 hbl hbA hw.2 (lw_in hi6 hL 3 (by decide)) (dAt dL_7 32 rfl) ?_
  refine y_calli CM ⟨hPM, hw.2⟩ hw.1 hd2 (x_runV (As := [.int (xs (nI i + (1 : Int32)).toNatClampNeg), .int (xs (nI i + (2 : Int32)).toNatClampNeg), .int (xs (nI i + (3 : Int32)).toNatClampNeg)]) (rest := [.int r1]) CM ⟨hPM, hw.2⟩ (kX7_event l EM hM (xs (nI i + (1 : Int32)).toNatClampNeg) (xs (nI i + (2 : Int32)).toNatClampNeg) (xs (nI i + (3 : Int32)).toNatClampNeg) τ _ h) mtX7_event lk_L_47 (hM.1 0) (nM hM (by decide)) rfl ⟨by decide, by decide⟩ ⟨rfl, rfl⟩ rfl hl.1 rfl (Nat.le_of_ble_eq_true rfl) (dAt dL_7 33 rfl) ⟨Nat.le_of_ble_eq_true rfl, Nat.le_of_ble_eq_true rfl⟩) (fun r2 τ1 H locs h hwM hPX => ?_)
  refine lv_icmp_eq (tgt := 1283) hx hb (dAt dL_7 34 rfl) (by decide) (fun _ => ?_) (fun z => absurd h.1 z)
  exact hnext σ1 τ1 H locs ls ⟨hPX, hwM.2⟩ hwM.1 h.2 hl
def tL_8 : List (Nat × Instr × Nat) := [(428, .aload_n 1, 1), (429, .invokevirtual 48, 3), (432, .aload_n 2, 1), (433, .invokevirtual 52, 3), (436, .if_icmp .eq 847, 3), (439, .iconst 0, 1), (440, .ireturn, 1)]
theorem dL_8 : dOk cL_law tL_8 = true := by decide +kernel
set_option maxHeartbeats 4000000 in
set_option maxRecDepth 100000 in
theorem kL_8 {p : Program} {l : Launch} {e : Env} {s : State} {m : MethodId} {below : List Frame} {meth : Method} {c : Code} {b L : Nat} {xs : Nat → Int32} {EX EM : wE} {R : Mem → Mem → Prop} (hok : okL_8 R) (hL : L ≤ 3072) (CX : Cx p s m #[Value.ref b] c cL_law 4 RL EX (fun q : Nat => s.heap.size ≤ q)) (CM : Cx p s m #[Value.ref b] c cL_law 4 RL EM (fun q : Nat => s.heap.size ≤ q)) (hX : wX EX) (hM : wM EM) (hd1 : ∀ q, wA EX q → ¬ wA EM q) (hd2 : ∀ q, wA EM q → ¬ wA EX q) (hX0 : va_X b L xs s s.heap) (hbl : b < s.heap.size) {i : Nat} (hi6 : i + 6 ≤ L) {σ τ : Mem} {H : Heap} {locs : List Loc} {ls : Array Slot} (hw : wd EX (fun q : Nat => s.heap.size ≤ q) s σ H locs) (hPM : va_P EM.1 vwCl (wL EM τ) H) (hR : R σ τ) (hl : lv_has ls 4 [(0, .ref b), (1, .ref (gE EX 0)), (2, .ref (gE EM 0)), (3, .int (nI i))]) (hnext : ∀ (σ τ : Mem) (H : Heap) (locs : List Loc) (ls : Array Slot), wd EX (fun q : Nat => s.heap.size ≤ q) s σ H locs → va_P EM.1 vwCl (wL EM τ) H → R σ τ → lv_has ls 4 [(0, .ref b), (1, .ref (gE EX 0)), (2, .ref (gE EM 0)), (3, .int (nI i))] → W p l e room_1 s m #[Value.ref b] below meth c H locs 90 6406 (lw_Z below #[Value.ref b] s) (F0 m 1283 ls [])) : W p l e room_1 s m #[Value.ref b] below meth c H locs 90 6406 (lw_Z below #[Value.ref b] s) (F0 m 428 ls []) := by
  have hx := CX.1.1
  have hb := CX.1.2.1
  have hbA : ¬ (fun q : Nat => s.heap.size ≤ q) b := Nat.not_le.mpr hbl
  refine lv_aload_n hx hb (dAt dL_8 0 rfl) rfl (lv_at hl 1 rfl) ?_
  refine y_calli CX hw hPM hd1 (x_runV (As := []) (rest := []) CX hw (kX6_back l EX hX  σ _ (hok σ τ  hR)) mtX6_back lk_L_48 (hX.1 0) (nX hX (by decide)) rfl ⟨by decide, by decide⟩ ⟨rfl, rfl⟩ rfl hl.1 rfl (Nat.le_of_ble_eq_true rfl) (dAt dL_8 1 rfl) ⟨Nat.le_of_ble_eq_true rfl, Nat.le_of_ble_eq_true rfl⟩) (fun r1 σ1 H locs h hw hPM => ?_)
  refine lv_aload_n hx hb (dAt dL_8 2 rfl) rfl (lv_at hl 2 rfl) ?_
  refine y_calli CM ⟨hPM, hw.2⟩ hw.1 hd2 (x_runV (As := []) (rest := [.int r1]) CM ⟨hPM, hw.2⟩ (kX7_back l EM hM  τ _ h) mtX7_back lk_L_52 (hM.1 0) (nM hM (by decide)) rfl ⟨by decide, by decide⟩ ⟨rfl, rfl⟩ rfl hl.1 rfl (Nat.le_of_ble_eq_true rfl) (dAt dL_8 3 rfl) ⟨Nat.le_of_ble_eq_true rfl, Nat.le_of_ble_eq_true rfl⟩) (fun r2 τ1 H locs h hwM hPX => ?_)
  refine lv_icmp_eq (tgt := 1283) hx hb (dAt dL_8 4 rfl) (by decide) (fun _ => ?_) (fun z => absurd h.1 z)
  exact hnext σ1 τ1 H locs ls ⟨hPX, hwM.2⟩ hwM.1 h.2 hl
def tL_9 : List (Nat × Instr × Nat) := [(441, .aload_n 1, 1), (442, .aload_n 0, 1), (443, .iload_n 3, 1), (444, .iconst 1, 1), (445, .iadd, 1), (446, .iaload, 1), (447, .invokevirtual 53, 3), (450, .aload_n 2, 1), (451, .aload_n 0, 1), (452, .iload_n 3, 1), (453, .iconst 1, 1), (454, .iadd, 1), (455, .iaload, 1), (456, .invokevirtual 56, 3), (459, .if_icmp .eq 824, 3), (462, .iconst 0, 1), (463, .ireturn, 1)]
theorem dL_9 : dOk cL_law tL_9 = true := by decide +kernel
set_option maxHeartbeats 4000000 in
set_option maxRecDepth 100000 in
theorem kL_9 {p : Program} {l : Launch} {e : Env} {s : State} {m : MethodId} {below : List Frame} {meth : Method} {c : Code} {b L : Nat} {xs : Nat → Int32} {EX EM : wE} {R : Mem → Mem → Prop} (hok : okL_9 R) (hL : L ≤ 3072) (CX : Cx p s m #[Value.ref b] c cL_law 4 RL EX (fun q : Nat => s.heap.size ≤ q)) (CM : Cx p s m #[Value.ref b] c cL_law 4 RL EM (fun q : Nat => s.heap.size ≤ q)) (hX : wX EX) (hM : wM EM) (hd1 : ∀ q, wA EX q → ¬ wA EM q) (hd2 : ∀ q, wA EM q → ¬ wA EX q) (hX0 : va_X b L xs s s.heap) (hbl : b < s.heap.size) {i : Nat} (hi6 : i + 6 ≤ L) {σ τ : Mem} {H : Heap} {locs : List Loc} {ls : Array Slot} (hw : wd EX (fun q : Nat => s.heap.size ≤ q) s σ H locs) (hPM : va_P EM.1 vwCl (wL EM τ) H) (hR : R σ τ) (hl : lv_has ls 4 [(0, .ref b), (1, .ref (gE EX 0)), (2, .ref (gE EM 0)), (3, .int (nI i))]) (hnext : ∀ (σ τ : Mem) (H : Heap) (locs : List Loc) (ls : Array Slot), wd EX (fun q : Nat => s.heap.size ≤ q) s σ H locs → va_P EM.1 vwCl (wL EM τ) H → R σ τ → lv_has ls 4 [(0, .ref b), (1, .ref (gE EX 0)), (2, .ref (gE EM 0)), (3, .int (nI i))] → W p l e room_1 s m #[Value.ref b] below meth c H locs 90 6406 (lw_Z below #[Value.ref b] s) (F0 m 1283 ls [])) : W p l e room_1 s m #[Value.ref b] below meth c H locs 90 6406 (lw_Z below #[Value.ref b] s) (F0 m 441 ls []) := by
  have hx := CX.1.1
  have hb := CX.1.2.1
  have hbA : ¬ (fun q : Nat => s.heap.size ≤ q) b := Nat.not_le.mpr hbl
  refine lv_aload_n hx hb (dAt dL_9 0 rfl) rfl (lv_at hl 1 rfl) ?_
  refine lv_aload_n hx hb (dAt dL_9 1 rfl) rfl (lv_at hl 0 rfl) ?_
  refine lv_iload_n hx hb (dAt dL_9 2 rfl) rfl (lv_at hl 3 rfl) ?_
  refine lv_iconst (v := 1) hx hb (dAt dL_9 3 rfl) (by decide) ?_
  refine lv_iadd hx hb (dAt dL_9 4 rfl) ?_
  refine va_sld hx hb hX0 hbl hbA hw.2 (lw_in hi6 hL 1 (by decide)) (dAt dL_9 5 rfl) ?_
  refine y_calli CX hw hPM hd1 (x_runV (As := [.int (xs (nI i + (1 : Int32)).toNatClampNeg)]) (rest := []) CX hw (kX6_read l EX hX (xs (nI i + (1 : Int32)).toNatClampNeg) σ _ (hok σ τ (xs (nI i + (1 : Int32)).toNatClampNeg) hR)) mtX6_read lk_L_53 (hX.1 0) (nX hX (by decide)) rfl ⟨by decide, by decide⟩ ⟨rfl, rfl⟩ rfl hl.1 rfl (Nat.le_of_ble_eq_true rfl) (dAt dL_9 6 rfl) ⟨Nat.le_of_ble_eq_true rfl, Nat.le_of_ble_eq_true rfl⟩) (fun r1 σ1 H locs h hw hPM => ?_)
  refine lv_aload_n hx hb (dAt dL_9 7 rfl) rfl (lv_at hl 2 rfl) ?_
  refine lv_aload_n hx hb (dAt dL_9 8 rfl) rfl (lv_at hl 0 rfl) ?_
  refine lv_iload_n hx hb (dAt dL_9 9 rfl) rfl (lv_at hl 3 rfl) ?_
  refine lv_iconst (v := 1) hx hb (dAt dL_9 10 rfl) (by decide) ?_
  refine lv_iadd hx hb (dAt dL_9 11 rfl) ?_
  refine va_sld hx hb hX0 hbl hbA hw.2 (lw_in hi6 hL 1 (by decide)) (dAt dL_9 12 rfl) ?_
  refine y_calli CM ⟨hPM, hw.2⟩ hw.1 hd2 (x_runV (As := [.int (xs (nI i + (1 : Int32)).toNatClampNeg)]) (rest := [.int r1]) CM ⟨hPM, hw.2⟩ (kX7_read l EM hM (xs (nI i + (1 : Int32)).toNatClampNeg) τ _ h) mtX7_read lk_L_56 (hM.1 0) (nM hM (by decide)) rfl ⟨by decide, by decide⟩ ⟨rfl, rfl⟩ rfl hl.1 rfl (Nat.le_of_ble_eq_true rfl) (dAt dL_9 13 rfl) ⟨Nat.le_of_ble_eq_true rfl, Nat.le_of_ble_eq_true rfl⟩) (fun r2 τ1 H locs h hwM hPX => ?_)
  refine lv_icmp_eq (tgt := 1283) hx hb (dAt dL_9 14 rfl) (by decide) (fun _ => ?_) (fun z => absurd h.1 z)
  exact hnext σ1 τ1 H locs ls ⟨hPX, hwM.2⟩ hwM.1 h.2 hl
def tL_10 : List (Nat × Instr × Nat) := [(464, .aload_n 1, 1), (465, .aload_n 0, 1), (466, .iload_n 3, 1), (467, .iconst 1, 1), (468, .iadd, 1), (469, .iaload, 1), (470, .aload_n 0, 1), (471, .iload_n 3, 1), (472, .iconst 2, 1), (473, .iadd, 1), (474, .iaload, 1), (475, .aload_n 0, 1), (476, .iload_n 3, 1), (477, .iconst 3, 1), (478, .iadd, 1), (479, .iaload, 1), (480, .invokevirtual 57, 3), (483, .aload_n 2, 1), (484, .aload_n 0, 1), (485, .iload_n 3, 1), (486, .iconst 1, 1), (487, .iadd, 1), (488, .iaload, 1), (489, .aload_n 0, 1), (490, .iload_n 3, 1), (491, .iconst 2, 1), (492, .iadd, 1), (493, .iaload, 1), (494, .aload_n 0, 1), (495, .iload_n 3, 1), (496, .iconst 3, 1), (497, .iadd, 1), (498, .iaload, 1), (499, .invokevirtual 60, 3), (502, .if_icmp .eq 781, 3), (505, .iconst 0, 1), (506, .ireturn, 1)]
theorem dL_10 : dOk cL_law tL_10 = true := by decide +kernel
set_option maxHeartbeats 4000000 in
set_option maxRecDepth 100000 in
theorem kL_10 {p : Program} {l : Launch} {e : Env} {s : State} {m : MethodId} {below : List Frame} {meth : Method} {c : Code} {b L : Nat} {xs : Nat → Int32} {EX EM : wE} {R : Mem → Mem → Prop} (hok : okL_10 R) (hL : L ≤ 3072) (CX : Cx p s m #[Value.ref b] c cL_law 4 RL EX (fun q : Nat => s.heap.size ≤ q)) (CM : Cx p s m #[Value.ref b] c cL_law 4 RL EM (fun q : Nat => s.heap.size ≤ q)) (hX : wX EX) (hM : wM EM) (hd1 : ∀ q, wA EX q → ¬ wA EM q) (hd2 : ∀ q, wA EM q → ¬ wA EX q) (hX0 : va_X b L xs s s.heap) (hbl : b < s.heap.size) {i : Nat} (hi6 : i + 6 ≤ L) {σ τ : Mem} {H : Heap} {locs : List Loc} {ls : Array Slot} (hw : wd EX (fun q : Nat => s.heap.size ≤ q) s σ H locs) (hPM : va_P EM.1 vwCl (wL EM τ) H) (hR : R σ τ) (hl : lv_has ls 4 [(0, .ref b), (1, .ref (gE EX 0)), (2, .ref (gE EM 0)), (3, .int (nI i))]) (hnext : ∀ (σ τ : Mem) (H : Heap) (locs : List Loc) (ls : Array Slot), wd EX (fun q : Nat => s.heap.size ≤ q) s σ H locs → va_P EM.1 vwCl (wL EM τ) H → R σ τ → lv_has ls 4 [(0, .ref b), (1, .ref (gE EX 0)), (2, .ref (gE EM 0)), (3, .int (nI i))] → W p l e room_1 s m #[Value.ref b] below meth c H locs 90 6406 (lw_Z below #[Value.ref b] s) (F0 m 1283 ls [])) : W p l e room_1 s m #[Value.ref b] below meth c H locs 90 6406 (lw_Z below #[Value.ref b] s) (F0 m 464 ls []) := by
  have hx := CX.1.1
  have hb := CX.1.2.1
  have hbA : ¬ (fun q : Nat => s.heap.size ≤ q) b := Nat.not_le.mpr hbl
  refine lv_aload_n hx hb (dAt dL_10 0 rfl) rfl (lv_at hl 1 rfl) ?_
  refine lv_aload_n hx hb (dAt dL_10 1 rfl) rfl (lv_at hl 0 rfl) ?_
  refine lv_iload_n hx hb (dAt dL_10 2 rfl) rfl (lv_at hl 3 rfl) ?_
  refine lv_iconst (v := 1) hx hb (dAt dL_10 3 rfl) (by decide) ?_
  refine lv_iadd hx hb (dAt dL_10 4 rfl) ?_
  refine va_sld hx hb hX0 hbl hbA hw.2 (lw_in hi6 hL 1 (by decide)) (dAt dL_10 5 rfl) ?_
  refine lv_aload_n hx hb (dAt dL_10 6 rfl) rfl (lv_at hl 0 rfl) ?_
  refine lv_iload_n hx hb (dAt dL_10 7 rfl) rfl (lv_at hl 3 rfl) ?_
  refine lv_iconst (v := 2) hx hb (dAt dL_10 8 rfl) (by decide) ?_
  refine lv_iadd hx hb (dAt dL_10 9 rfl) ?_
  refine va_sld hx hb hX0 hbl hbA hw.2 (lw_in hi6 hL 2 (by decide)) (dAt dL_10 10 rfl) ?_
  refine lv_aload_n hx hb (dAt dL_10 11 rfl) rfl (lv_at hl 0 rfl) ?_
  refine lv_iload_n hx hb (dAt dL_10 12 rfl) rfl (lv_at hl 3 rfl) ?_
  refine lv_iconst (v := 3) hx hb (dAt dL_10 13 rfl) (by decide) ?_
  refine lv_iadd hx hb (dAt dL_10 14 rfl) ?_
  refine va_sld hx hb hX0 hbl hbA hw.2 (lw_in hi6 hL 3 (by decide)) (dAt dL_10 15 rfl) ?_
  refine y_calli CX hw hPM hd1 (x_runV (As := [.int (xs (nI i + (1 : Int32)).toNatClampNeg), .int (xs (nI i + (2 : Int32)).toNatClampNeg), .int (xs (nI i + (3 : Int32)).toNatClampNeg)]) (rest := []) CX hw (kX6_at l EX hX (xs (nI i + (1 : Int32)).toNatClampNeg) (xs (nI i + (2 : Int32)).toNatClampNeg) (xs (nI i + (3 : Int32)).toNatClampNeg) σ _ (hok σ τ (xs (nI i + (1 : Int32)).toNatClampNeg) (xs (nI i + (2 : Int32)).toNatClampNeg) (xs (nI i + (3 : Int32)).toNatClampNeg) hR)) mtX6_at lk_L_57 (hX.1 0) (nX hX (by decide)) rfl ⟨by decide, by decide⟩ ⟨rfl, rfl⟩ rfl hl.1 rfl (Nat.le_of_ble_eq_true rfl) (dAt dL_10 16 rfl) ⟨Nat.le_of_ble_eq_true rfl, Nat.le_of_ble_eq_true rfl⟩) (fun r1 σ1 H locs h hw hPM => ?_)
  refine lv_aload_n hx hb (dAt dL_10 17 rfl) rfl (lv_at hl 2 rfl) ?_
  refine lv_aload_n hx hb (dAt dL_10 18 rfl) rfl (lv_at hl 0 rfl) ?_
  refine lv_iload_n hx hb (dAt dL_10 19 rfl) rfl (lv_at hl 3 rfl) ?_
  refine lv_iconst (v := 1) hx hb (dAt dL_10 20 rfl) (by decide) ?_
  refine lv_iadd hx hb (dAt dL_10 21 rfl) ?_
  refine va_sld hx hb hX0 hbl hbA hw.2 (lw_in hi6 hL 1 (by decide)) (dAt dL_10 22 rfl) ?_
  refine lv_aload_n hx hb (dAt dL_10 23 rfl) rfl (lv_at hl 0 rfl) ?_
  refine lv_iload_n hx hb (dAt dL_10 24 rfl) rfl (lv_at hl 3 rfl) ?_
  refine lv_iconst (v := 2) hx hb (dAt dL_10 25 rfl) (by decide) ?_
  refine lv_iadd hx hb (dAt dL_10 26 rfl) ?_
  refine va_sld hx hb hX0 hbl hbA hw.2 (lw_in hi6 hL 2 (by decide)) (dAt dL_10 27 rfl) ?_
  refine lv_aload_n hx hb (dAt dL_10 28 rfl) rfl (lv_at hl 0 rfl) ?_
  refine lv_iload_n hx hb (dAt dL_10 29 rfl) rfl (lv_at hl 3 rfl) ?_
  refine lv_iconst (v := 3) hx hb (dAt dL_10 30 rfl) (by decide) ?_
  refine lv_iadd hx hb (dAt dL_10 31 rfl) ?_
  refine va_sld hx hb hX0 hbl hbA hw.2 (lw_in hi6 hL 3 (by decide)) (dAt dL_10 32 rfl) ?_
  refine y_calli CM ⟨hPM, hw.2⟩ hw.1 hd2 (x_runV (As := [.int (xs (nI i + (1 : Int32)).toNatClampNeg), .int (xs (nI i + (2 : Int32)).toNatClampNeg), .int (xs (nI i + (3 : Int32)).toNatClampNeg)]) (rest := [.int r1]) CM ⟨hPM, hw.2⟩ (kX7_at l EM hM (xs (nI i + (1 : Int32)).toNatClampNeg) (xs (nI i + (2 : Int32)).toNatClampNeg) (xs (nI i + (3 : Int32)).toNatClampNeg) τ _ h) mtX7_at lk_L_60 (hM.1 0) (nM hM (by decide)) rfl ⟨by decide, by decide⟩ ⟨rfl, rfl⟩ rfl hl.1 rfl (Nat.le_of_ble_eq_true rfl) (dAt dL_10 33 rfl) ⟨Nat.le_of_ble_eq_true rfl, Nat.le_of_ble_eq_true rfl⟩) (fun r2 τ1 H locs h hwM hPX => ?_)
  refine lv_icmp_eq (tgt := 1283) hx hb (dAt dL_10 34 rfl) (by decide) (fun _ => ?_) (fun z => absurd h.1 z)
  exact hnext σ1 τ1 H locs ls ⟨hPX, hwM.2⟩ hwM.1 h.2 hl
def tL_11 : List (Nat × Instr × Nat) := [(507, .aload_n 1, 1), (508, .aload_n 0, 1), (509, .iload_n 3, 1), (510, .iconst 1, 1), (511, .iadd, 1), (512, .iaload, 1), (513, .aload_n 0, 1), (514, .iload_n 3, 1), (515, .iconst 2, 1), (516, .iadd, 1), (517, .iaload, 1), (518, .invokevirtual 61, 3), (521, .aload_n 2, 1), (522, .aload_n 0, 1), (523, .iload_n 3, 1), (524, .iconst 1, 1), (525, .iadd, 1), (526, .iaload, 1), (527, .aload_n 0, 1), (528, .iload_n 3, 1), (529, .iconst 2, 1), (530, .iadd, 1), (531, .iaload, 1), (532, .invokevirtual 64, 3), (535, .if_icmp .eq 748, 3), (538, .iconst 0, 1), (539, .ireturn, 1)]
theorem dL_11 : dOk cL_law tL_11 = true := by decide +kernel
set_option maxHeartbeats 4000000 in
set_option maxRecDepth 100000 in
theorem kL_11 {p : Program} {l : Launch} {e : Env} {s : State} {m : MethodId} {below : List Frame} {meth : Method} {c : Code} {b L : Nat} {xs : Nat → Int32} {EX EM : wE} {R : Mem → Mem → Prop} (hok : okL_11 R) (hL : L ≤ 3072) (CX : Cx p s m #[Value.ref b] c cL_law 4 RL EX (fun q : Nat => s.heap.size ≤ q)) (CM : Cx p s m #[Value.ref b] c cL_law 4 RL EM (fun q : Nat => s.heap.size ≤ q)) (hX : wX EX) (hM : wM EM) (hd1 : ∀ q, wA EX q → ¬ wA EM q) (hd2 : ∀ q, wA EM q → ¬ wA EX q) (hX0 : va_X b L xs s s.heap) (hbl : b < s.heap.size) {i : Nat} (hi6 : i + 6 ≤ L) {σ τ : Mem} {H : Heap} {locs : List Loc} {ls : Array Slot} (hw : wd EX (fun q : Nat => s.heap.size ≤ q) s σ H locs) (hPM : va_P EM.1 vwCl (wL EM τ) H) (hR : R σ τ) (hl : lv_has ls 4 [(0, .ref b), (1, .ref (gE EX 0)), (2, .ref (gE EM 0)), (3, .int (nI i))]) (hnext : ∀ (σ τ : Mem) (H : Heap) (locs : List Loc) (ls : Array Slot), wd EX (fun q : Nat => s.heap.size ≤ q) s σ H locs → va_P EM.1 vwCl (wL EM τ) H → R σ τ → lv_has ls 4 [(0, .ref b), (1, .ref (gE EX 0)), (2, .ref (gE EM 0)), (3, .int (nI i))] → W p l e room_1 s m #[Value.ref b] below meth c H locs 90 6406 (lw_Z below #[Value.ref b] s) (F0 m 1283 ls [])) : W p l e room_1 s m #[Value.ref b] below meth c H locs 90 6406 (lw_Z below #[Value.ref b] s) (F0 m 507 ls []) := by
  have hx := CX.1.1
  have hb := CX.1.2.1
  have hbA : ¬ (fun q : Nat => s.heap.size ≤ q) b := Nat.not_le.mpr hbl
  refine lv_aload_n hx hb (dAt dL_11 0 rfl) rfl (lv_at hl 1 rfl) ?_
  refine lv_aload_n hx hb (dAt dL_11 1 rfl) rfl (lv_at hl 0 rfl) ?_
  refine lv_iload_n hx hb (dAt dL_11 2 rfl) rfl (lv_at hl 3 rfl) ?_
  refine lv_iconst (v := 1) hx hb (dAt dL_11 3 rfl) (by decide) ?_
  refine lv_iadd hx hb (dAt dL_11 4 rfl) ?_
  refine va_sld hx hb hX0 hbl hbA hw.2 (lw_in hi6 hL 1 (by decide)) (dAt dL_11 5 rfl) ?_
  refine lv_aload_n hx hb (dAt dL_11 6 rfl) rfl (lv_at hl 0 rfl) ?_
  refine lv_iload_n hx hb (dAt dL_11 7 rfl) rfl (lv_at hl 3 rfl) ?_
  refine lv_iconst (v := 2) hx hb (dAt dL_11 8 rfl) (by decide) ?_
  refine lv_iadd hx hb (dAt dL_11 9 rfl) ?_
  refine va_sld hx hb hX0 hbl hbA hw.2 (lw_in hi6 hL 2 (by decide)) (dAt dL_11 10 rfl) ?_
  refine y_calli CX hw hPM hd1 (x_runV (As := [.int (xs (nI i + (1 : Int32)).toNatClampNeg), .int (xs (nI i + (2 : Int32)).toNatClampNeg)]) (rest := []) CX hw (kX6_high l EX hX (xs (nI i + (1 : Int32)).toNatClampNeg) (xs (nI i + (2 : Int32)).toNatClampNeg) σ _ (hok σ τ (xs (nI i + (1 : Int32)).toNatClampNeg) (xs (nI i + (2 : Int32)).toNatClampNeg) hR)) mtX6_high lk_L_61 (hX.1 0) (nX hX (by decide)) rfl ⟨by decide, by decide⟩ ⟨rfl, rfl⟩ rfl hl.1 rfl (Nat.le_of_ble_eq_true rfl) (dAt dL_11 11 rfl) ⟨Nat.le_of_ble_eq_true rfl, Nat.le_of_ble_eq_true rfl⟩) (fun r1 σ1 H locs h hw hPM => ?_)
  refine lv_aload_n hx hb (dAt dL_11 12 rfl) rfl (lv_at hl 2 rfl) ?_
  refine lv_aload_n hx hb (dAt dL_11 13 rfl) rfl (lv_at hl 0 rfl) ?_
  refine lv_iload_n hx hb (dAt dL_11 14 rfl) rfl (lv_at hl 3 rfl) ?_
  refine lv_iconst (v := 1) hx hb (dAt dL_11 15 rfl) (by decide) ?_
  refine lv_iadd hx hb (dAt dL_11 16 rfl) ?_
  refine va_sld hx hb hX0 hbl hbA hw.2 (lw_in hi6 hL 1 (by decide)) (dAt dL_11 17 rfl) ?_
  refine lv_aload_n hx hb (dAt dL_11 18 rfl) rfl (lv_at hl 0 rfl) ?_
  refine lv_iload_n hx hb (dAt dL_11 19 rfl) rfl (lv_at hl 3 rfl) ?_
  refine lv_iconst (v := 2) hx hb (dAt dL_11 20 rfl) (by decide) ?_
  refine lv_iadd hx hb (dAt dL_11 21 rfl) ?_
  refine va_sld hx hb hX0 hbl hbA hw.2 (lw_in hi6 hL 2 (by decide)) (dAt dL_11 22 rfl) ?_
  refine y_calli CM ⟨hPM, hw.2⟩ hw.1 hd2 (x_runV (As := [.int (xs (nI i + (1 : Int32)).toNatClampNeg), .int (xs (nI i + (2 : Int32)).toNatClampNeg)]) (rest := [.int r1]) CM ⟨hPM, hw.2⟩ (kX7_high l EM hM (xs (nI i + (1 : Int32)).toNatClampNeg) (xs (nI i + (2 : Int32)).toNatClampNeg) τ _ h) mtX7_high lk_L_64 (hM.1 0) (nM hM (by decide)) rfl ⟨by decide, by decide⟩ ⟨rfl, rfl⟩ rfl hl.1 rfl (Nat.le_of_ble_eq_true rfl) (dAt dL_11 23 rfl) ⟨Nat.le_of_ble_eq_true rfl, Nat.le_of_ble_eq_true rfl⟩) (fun r2 τ1 H locs h hwM hPX => ?_)
  refine lv_icmp_eq (tgt := 1283) hx hb (dAt dL_11 24 rfl) (by decide) (fun _ => ?_) (fun z => absurd h.1 z)
  exact hnext σ1 τ1 H locs ls ⟨hPX, hwM.2⟩ hwM.1 h.2 hl
def tL_12 : List (Nat × Instr × Nat) := [(540, .aload_n 1, 1), (541, .aload_n 0, 1), (542, .iload_n 3, 1), (543, .iconst 1, 1), (544, .iadd, 1), (545, .iaload, 1), (546, .aload_n 0, 1), (547, .iload_n 3, 1), (548, .iconst 2, 1), (549, .iadd, 1), (550, .iaload, 1), (551, .invokevirtual 65, 3), (554, .aload_n 2, 1), (555, .aload_n 0, 1), (556, .iload_n 3, 1), (557, .iconst 1, 1), (558, .iadd, 1), (559, .iaload, 1), (560, .aload_n 0, 1), (561, .iload_n 3, 1), (562, .iconst 2, 1), (563, .iadd, 1), (564, .iaload, 1), (565, .invokevirtual 68, 3), (568, .if_icmp .eq 715, 3), (571, .iconst 0, 1), (572, .ireturn, 1)]
theorem dL_12 : dOk cL_law tL_12 = true := by decide +kernel
set_option maxHeartbeats 4000000 in
set_option maxRecDepth 100000 in
theorem kL_12 {p : Program} {l : Launch} {e : Env} {s : State} {m : MethodId} {below : List Frame} {meth : Method} {c : Code} {b L : Nat} {xs : Nat → Int32} {EX EM : wE} {R : Mem → Mem → Prop} (hok : okL_12 R) (hL : L ≤ 3072) (CX : Cx p s m #[Value.ref b] c cL_law 4 RL EX (fun q : Nat => s.heap.size ≤ q)) (CM : Cx p s m #[Value.ref b] c cL_law 4 RL EM (fun q : Nat => s.heap.size ≤ q)) (hX : wX EX) (hM : wM EM) (hd1 : ∀ q, wA EX q → ¬ wA EM q) (hd2 : ∀ q, wA EM q → ¬ wA EX q) (hX0 : va_X b L xs s s.heap) (hbl : b < s.heap.size) {i : Nat} (hi6 : i + 6 ≤ L) {σ τ : Mem} {H : Heap} {locs : List Loc} {ls : Array Slot} (hw : wd EX (fun q : Nat => s.heap.size ≤ q) s σ H locs) (hPM : va_P EM.1 vwCl (wL EM τ) H) (hR : R σ τ) (hl : lv_has ls 4 [(0, .ref b), (1, .ref (gE EX 0)), (2, .ref (gE EM 0)), (3, .int (nI i))]) (hnext : ∀ (σ τ : Mem) (H : Heap) (locs : List Loc) (ls : Array Slot), wd EX (fun q : Nat => s.heap.size ≤ q) s σ H locs → va_P EM.1 vwCl (wL EM τ) H → R σ τ → lv_has ls 4 [(0, .ref b), (1, .ref (gE EX 0)), (2, .ref (gE EM 0)), (3, .int (nI i))] → W p l e room_1 s m #[Value.ref b] below meth c H locs 90 6406 (lw_Z below #[Value.ref b] s) (F0 m 1283 ls [])) : W p l e room_1 s m #[Value.ref b] below meth c H locs 90 6406 (lw_Z below #[Value.ref b] s) (F0 m 540 ls []) := by
  have hx := CX.1.1
  have hb := CX.1.2.1
  have hbA : ¬ (fun q : Nat => s.heap.size ≤ q) b := Nat.not_le.mpr hbl
  refine lv_aload_n hx hb (dAt dL_12 0 rfl) rfl (lv_at hl 1 rfl) ?_
  refine lv_aload_n hx hb (dAt dL_12 1 rfl) rfl (lv_at hl 0 rfl) ?_
  refine lv_iload_n hx hb (dAt dL_12 2 rfl) rfl (lv_at hl 3 rfl) ?_
  refine lv_iconst (v := 1) hx hb (dAt dL_12 3 rfl) (by decide) ?_
  refine lv_iadd hx hb (dAt dL_12 4 rfl) ?_
  refine va_sld hx hb hX0 hbl hbA hw.2 (lw_in hi6 hL 1 (by decide)) (dAt dL_12 5 rfl) ?_
  refine lv_aload_n hx hb (dAt dL_12 6 rfl) rfl (lv_at hl 0 rfl) ?_
  refine lv_iload_n hx hb (dAt dL_12 7 rfl) rfl (lv_at hl 3 rfl) ?_
  refine lv_iconst (v := 2) hx hb (dAt dL_12 8 rfl) (by decide) ?_
  refine lv_iadd hx hb (dAt dL_12 9 rfl) ?_
  refine va_sld hx hb hX0 hbl hbA hw.2 (lw_in hi6 hL 2 (by decide)) (dAt dL_12 10 rfl) ?_
  refine y_calli CX hw hPM hd1 (x_runV (As := [.int (xs (nI i + (1 : Int32)).toNatClampNeg), .int (xs (nI i + (2 : Int32)).toNatClampNeg)]) (rest := []) CX hw (kX6_weave l EX hX (xs (nI i + (1 : Int32)).toNatClampNeg) (xs (nI i + (2 : Int32)).toNatClampNeg) σ _ (hok σ τ (xs (nI i + (1 : Int32)).toNatClampNeg) (xs (nI i + (2 : Int32)).toNatClampNeg) hR)) mtX6_weave lk_L_65 (hX.1 0) (nX hX (by decide)) rfl ⟨by decide, by decide⟩ ⟨rfl, rfl⟩ rfl hl.1 rfl (Nat.le_of_ble_eq_true rfl) (dAt dL_12 11 rfl) ⟨Nat.le_of_ble_eq_true rfl, Nat.le_of_ble_eq_true rfl⟩) (fun r1 σ1 H locs h hw hPM => ?_)
  refine lv_aload_n hx hb (dAt dL_12 12 rfl) rfl (lv_at hl 2 rfl) ?_
  refine lv_aload_n hx hb (dAt dL_12 13 rfl) rfl (lv_at hl 0 rfl) ?_
  refine lv_iload_n hx hb (dAt dL_12 14 rfl) rfl (lv_at hl 3 rfl) ?_
  refine lv_iconst (v := 1) hx hb (dAt dL_12 15 rfl) (by decide) ?_
  refine lv_iadd hx hb (dAt dL_12 16 rfl) ?_
  refine va_sld hx hb hX0 hbl hbA hw.2 (lw_in hi6 hL 1 (by decide)) (dAt dL_12 17 rfl) ?_
  refine lv_aload_n hx hb (dAt dL_12 18 rfl) rfl (lv_at hl 0 rfl) ?_
  refine lv_iload_n hx hb (dAt dL_12 19 rfl) rfl (lv_at hl 3 rfl) ?_
  refine lv_iconst (v := 2) hx hb (dAt dL_12 20 rfl) (by decide) ?_
  refine lv_iadd hx hb (dAt dL_12 21 rfl) ?_
  refine va_sld hx hb hX0 hbl hbA hw.2 (lw_in hi6 hL 2 (by decide)) (dAt dL_12 22 rfl) ?_
  refine y_calli CM ⟨hPM, hw.2⟩ hw.1 hd2 (x_runV (As := [.int (xs (nI i + (1 : Int32)).toNatClampNeg), .int (xs (nI i + (2 : Int32)).toNatClampNeg)]) (rest := [.int r1]) CM ⟨hPM, hw.2⟩ (kX7_weave l EM hM (xs (nI i + (1 : Int32)).toNatClampNeg) (xs (nI i + (2 : Int32)).toNatClampNeg) τ _ h) mtX7_weave lk_L_68 (hM.1 0) (nM hM (by decide)) rfl ⟨by decide, by decide⟩ ⟨rfl, rfl⟩ rfl hl.1 rfl (Nat.le_of_ble_eq_true rfl) (dAt dL_12 23 rfl) ⟨Nat.le_of_ble_eq_true rfl, Nat.le_of_ble_eq_true rfl⟩) (fun r2 τ1 H locs h hwM hPX => ?_)
  refine lv_icmp_eq (tgt := 1283) hx hb (dAt dL_12 24 rfl) (by decide) (fun _ => ?_) (fun z => absurd h.1 z)
  exact hnext σ1 τ1 H locs ls ⟨hPX, hwM.2⟩ hwM.1 h.2 hl
def tL_13 : List (Nat × Instr × Nat) := [(573, .aload_n 1, 1), (574, .aload_n 0, 1), (575, .iload_n 3, 1), (576, .iconst 1, 1), (577, .iadd, 1), (578, .iaload, 1), (579, .invokevirtual 69, 3), (582, .aload_n 2, 1), (583, .aload_n 0, 1), (584, .iload_n 3, 1), (585, .iconst 1, 1), (586, .iadd, 1), (587, .iaload, 1), (588, .invokevirtual 72, 3), (591, .if_icmp .eq 692, 3), (594, .iconst 0, 1), (595, .ireturn, 1)]
theorem dL_13 : dOk cL_law tL_13 = true := by decide +kernel
set_option maxHeartbeats 4000000 in
set_option maxRecDepth 100000 in
theorem kL_13 {p : Program} {l : Launch} {e : Env} {s : State} {m : MethodId} {below : List Frame} {meth : Method} {c : Code} {b L : Nat} {xs : Nat → Int32} {EX EM : wE} {R : Mem → Mem → Prop} (hok : okL_13 R) (hL : L ≤ 3072) (CX : Cx p s m #[Value.ref b] c cL_law 4 RL EX (fun q : Nat => s.heap.size ≤ q)) (CM : Cx p s m #[Value.ref b] c cL_law 4 RL EM (fun q : Nat => s.heap.size ≤ q)) (hX : wX EX) (hM : wM EM) (hd1 : ∀ q, wA EX q → ¬ wA EM q) (hd2 : ∀ q, wA EM q → ¬ wA EX q) (hX0 : va_X b L xs s s.heap) (hbl : b < s.heap.size) {i : Nat} (hi6 : i + 6 ≤ L) {σ τ : Mem} {H : Heap} {locs : List Loc} {ls : Array Slot} (hw : wd EX (fun q : Nat => s.heap.size ≤ q) s σ H locs) (hPM : va_P EM.1 vwCl (wL EM τ) H) (hR : R σ τ) (hl : lv_has ls 4 [(0, .ref b), (1, .ref (gE EX 0)), (2, .ref (gE EM 0)), (3, .int (nI i))]) (hnext : ∀ (σ τ : Mem) (H : Heap) (locs : List Loc) (ls : Array Slot), wd EX (fun q : Nat => s.heap.size ≤ q) s σ H locs → va_P EM.1 vwCl (wL EM τ) H → R σ τ → lv_has ls 4 [(0, .ref b), (1, .ref (gE EX 0)), (2, .ref (gE EM 0)), (3, .int (nI i))] → W p l e room_1 s m #[Value.ref b] below meth c H locs 90 6406 (lw_Z below #[Value.ref b] s) (F0 m 1283 ls [])) : W p l e room_1 s m #[Value.ref b] below meth c H locs 90 6406 (lw_Z below #[Value.ref b] s) (F0 m 573 ls []) := by
  have hx := CX.1.1
  have hb := CX.1.2.1
  have hbA : ¬ (fun q : Nat => s.heap.size ≤ q) b := Nat.not_le.mpr hbl
  refine lv_aload_n hx hb (dAt dL_13 0 rfl) rfl (lv_at hl 1 rfl) ?_
  refine lv_aload_n hx hb (dAt dL_13 1 rfl) rfl (lv_at hl 0 rfl) ?_
  refine lv_iload_n hx hb (dAt dL_13 2 rfl) rfl (lv_at hl 3 rfl) ?_
  refine lv_iconst (v := 1) hx hb (dAt dL_13 3 rfl) (by decide) ?_
  refine lv_iadd hx hb (dAt dL_13 4 rfl) ?_
  refine va_sld hx hb hX0 hbl hbA hw.2 (lw_in hi6 hL 1 (by decide)) (dAt dL_13 5 rfl) ?_
  refine y_calli CX hw hPM hd1 (x_runV (As := [.int (xs (nI i + (1 : Int32)).toNatClampNeg)]) (rest := []) CX hw (kX6_shows l EX hX (xs (nI i + (1 : Int32)).toNatClampNeg) σ _ (hok σ τ (xs (nI i + (1 : Int32)).toNatClampNeg) hR)) mtX6_shows lk_L_69 (hX.1 0) (nX hX (by decide)) rfl ⟨by decide, by decide⟩ ⟨rfl, rfl⟩ rfl hl.1 rfl (Nat.le_of_ble_eq_true rfl) (dAt dL_13 6 rfl) ⟨Nat.le_of_ble_eq_true rfl, Nat.le_of_ble_eq_true rfl⟩) (fun r1 σ1 H locs h hw hPM => ?_)
  refine lv_aload_n hx hb (dAt dL_13 7 rfl) rfl (lv_at hl 2 rfl) ?_
  refine lv_aload_n hx hb (dAt dL_13 8 rfl) rfl (lv_at hl 0 rfl) ?_
  refine lv_iload_n hx hb (dAt dL_13 9 rfl) rfl (lv_at hl 3 rfl) ?_
  refine lv_iconst (v := 1) hx hb (dAt dL_13 10 rfl) (by decide) ?_
  refine lv_iadd hx hb (dAt dL_13 11 rfl) ?_
  refine va_sld hx hb hX0 hbl hbA hw.2 (lw_in hi6 hL 1 (by decide)) (dAt dL_13 12 rfl) ?_
  refine y_calli CM ⟨hPM, hw.2⟩ hw.1 hd2 (x_runV (As := [.int (xs (nI i + (1 : Int32)).toNatClampNeg)]) (rest := [.int r1]) CM ⟨hPM, hw.2⟩ (kX7_shows l EM hM (xs (nI i + (1 : Int32)).toNatClampNeg) τ _ h) mtX7_shows lk_L_72 (hM.1 0) (nM hM (by decide)) rfl ⟨by decide, by decide⟩ ⟨rfl, rfl⟩ rfl hl.1 rfl (Nat.le_of_ble_eq_true rfl) (dAt dL_13 13 rfl) ⟨Nat.le_of_ble_eq_true rfl, Nat.le_of_ble_eq_true rfl⟩) (fun r2 τ1 H locs h hwM hPX => ?_)
  refine lv_icmp_eq (tgt := 1283) hx hb (dAt dL_13 14 rfl) (by decide) (fun _ => ?_) (fun z => absurd h.1 z)
  exact hnext σ1 τ1 H locs ls ⟨hPX, hwM.2⟩ hwM.1 h.2 hl
def tL_14 : List (Nat × Instr × Nat) := [(596, .aload_n 1, 1), (597, .aload_n 0, 1), (598, .iload_n 3, 1), (599, .iconst 1, 1), (600, .iadd, 1), (601, .iaload, 1), (602, .invokevirtual 73, 3), (605, .aload_n 2, 1), (606, .aload_n 0, 1), (607, .iload_n 3, 1), (608, .iconst 1, 1), (609, .iadd, 1), (610, .iaload, 1), (611, .invokevirtual 76, 3), (614, .if_icmp .eq 669, 3), (617, .iconst 0, 1), (618, .ireturn, 1)]
theorem dL_14 : dOk cL_law tL_14 = true := by decide +kernel
set_option maxHeartbeats 4000000 in
set_option maxRecDepth 100000 in
theorem kL_14 {p : Program} {l : Launch} {e : Env} {s : State} {m : MethodId} {below : List Frame} {meth : Method} {c : Code} {b L : Nat} {xs : Nat → Int32} {EX EM : wE} {R : Mem → Mem → Prop} (hok : okL_14 R) (hL : L ≤ 3072) (CX : Cx p s m #[Value.ref b] c cL_law 4 RL EX (fun q : Nat => s.heap.size ≤ q)) (CM : Cx p s m #[Value.ref b] c cL_law 4 RL EM (fun q : Nat => s.heap.size ≤ q)) (hX : wX EX) (hM : wM EM) (hd1 : ∀ q, wA EX q → ¬ wA EM q) (hd2 : ∀ q, wA EM q → ¬ wA EX q) (hX0 : va_X b L xs s s.heap) (hbl : b < s.heap.size) {i : Nat} (hi6 : i + 6 ≤ L) {σ τ : Mem} {H : Heap} {locs : List Loc} {ls : Array Slot} (hw : wd EX (fun q : Nat => s.heap.size ≤ q) s σ H locs) (hPM : va_P EM.1 vwCl (wL EM τ) H) (hR : R σ τ) (hl : lv_has ls 4 [(0, .ref b), (1, .ref (gE EX 0)), (2, .ref (gE EM 0)), (3, .int (nI i))]) (hnext : ∀ (σ τ : Mem) (H : Heap) (locs : List Loc) (ls : Array Slot), wd EX (fun q : Nat => s.heap.size ≤ q) s σ H locs → va_P EM.1 vwCl (wL EM τ) H → R σ τ → lv_has ls 4 [(0, .ref b), (1, .ref (gE EX 0)), (2, .ref (gE EM 0)), (3, .int (nI i))] → W p l e room_1 s m #[Value.ref b] below meth c H locs 90 6406 (lw_Z below #[Value.ref b] s) (F0 m 1283 ls [])) : W p l e room_1 s m #[Value.ref b] below meth c H locs 90 6406 (lw_Z below #[Value.ref b] s) (F0 m 596 ls []) := by
  have hx := CX.1.1
  have hb := CX.1.2.1
  have hbA : ¬ (fun q : Nat => s.heap.size ≤ q) b := Nat.not_le.mpr hbl
  refine lv_aload_n hx hb (dAt dL_14 0 rfl) rfl (lv_at hl 1 rfl) ?_
  refine lv_aload_n hx hb (dAt dL_14 1 rfl) rfl (lv_at hl 0 rfl) ?_
  refine lv_iload_n hx hb (dAt dL_14 2 rfl) rfl (lv_at hl 3 rfl) ?_
  refine lv_iconst (v := 1) hx hb (dAt dL_14 3 rfl) (by decide) ?_
  refine lv_iadd hx hb (dAt dL_14 4 rfl) ?_
  refine va_sld hx hb hX0 hbl hbA hw.2 (lw_in hi6 hL 1 (by decide)) (dAt dL_14 5 rfl) ?_
  refine y_calli CX hw hPM hd1 (x_runV (As := [.int (xs (nI i + (1 : Int32)).toNatClampNeg)]) (rest := []) CX hw (kX6_sum l EX hX (xs (nI i + (1 : Int32)).toNatClampNeg) σ _ (hok σ τ (xs (nI i + (1 : Int32)).toNatClampNeg) hR)) mtX6_sum lk_L_73 (hX.1 0) (nX hX (by decide)) rfl ⟨by decide, by decide⟩ ⟨rfl, rfl⟩ rfl hl.1 rfl (Nat.le_of_ble_eq_true rfl) (dAt dL_14 6 rfl) ⟨Nat.le_of_ble_eq_true rfl, Nat.le_of_ble_eq_true rfl⟩) (fun r1 σ1 H locs h hw hPM => ?_)
  refine lv_aload_n hx hb (dAt dL_14 7 rfl) rfl (lv_at hl 2 rfl) ?_
  refine lv_aload_n hx hb (dAt dL_14 8 rfl) rfl (lv_at hl 0 rfl) ?_
  refine lv_iload_n hx hb (dAt dL_14 9 rfl) rfl (lv_at hl 3 rfl) ?_
  refine lv_iconst (v := 1) hx hb (dAt dL_14 10 rfl) (by decide) ?_
  refine lv_iadd hx hb (dAt dL_14 11 rfl) ?_
  refine va_sld hx hb hX0 hbl hbA hw.2 (lw_in hi6 hL 1 (by decide)) (dAt dL_14 12 rfl) ?_
  refine y_calli CM ⟨hPM, hw.2⟩ hw.1 hd2 (x_runV (As := [.int (xs (nI i + (1 : Int32)).toNatClampNeg)]) (rest := [.int r1]) CM ⟨hPM, hw.2⟩ (kX7_sum l EM hM (xs (nI i + (1 : Int32)).toNatClampNeg) τ _ h) mtX7_sum lk_L_76 (hM.1 0) (nM hM (by decide)) rfl ⟨by decide, by decide⟩ ⟨rfl, rfl⟩ rfl hl.1 rfl (Nat.le_of_ble_eq_true rfl) (dAt dL_14 13 rfl) ⟨Nat.le_of_ble_eq_true rfl, Nat.le_of_ble_eq_true rfl⟩) (fun r2 τ1 H locs h hwM hPX => ?_)
  refine lv_icmp_eq (tgt := 1283) hx hb (dAt dL_14 14 rfl) (by decide) (fun _ => ?_) (fun z => absurd h.1 z)
  exact hnext σ1 τ1 H locs ls ⟨hPX, hwM.2⟩ hwM.1 h.2 hl
def tL_15 : List (Nat × Instr × Nat) := [(619, .aload_n 1, 1), (620, .aload_n 0, 1), (621, .iload_n 3, 1), (622, .iconst 1, 1), (623, .iadd, 1), (624, .iaload, 1), (625, .invokevirtual 77, 3), (628, .aload_n 2, 1), (629, .aload_n 0, 1), (630, .iload_n 3, 1), (631, .iconst 1, 1), (632, .iadd, 1), (633, .iaload, 1), (634, .invokevirtual 80, 3), (637, .if_icmp .eq 646, 3), (640, .iconst 0, 1), (641, .ireturn, 1)]
theorem dL_15 : dOk cL_law tL_15 = true := by decide +kernel
set_option maxHeartbeats 4000000 in
set_option maxRecDepth 100000 in
theorem kL_15 {p : Program} {l : Launch} {e : Env} {s : State} {m : MethodId} {below : List Frame} {meth : Method} {c : Code} {b L : Nat} {xs : Nat → Int32} {EX EM : wE} {R : Mem → Mem → Prop} (hok : okL_15 R) (hL : L ≤ 3072) (CX : Cx p s m #[Value.ref b] c cL_law 4 RL EX (fun q : Nat => s.heap.size ≤ q)) (CM : Cx p s m #[Value.ref b] c cL_law 4 RL EM (fun q : Nat => s.heap.size ≤ q)) (hX : wX EX) (hM : wM EM) (hd1 : ∀ q, wA EX q → ¬ wA EM q) (hd2 : ∀ q, wA EM q → ¬ wA EX q) (hX0 : va_X b L xs s s.heap) (hbl : b < s.heap.size) {i : Nat} (hi6 : i + 6 ≤ L) {σ τ : Mem} {H : Heap} {locs : List Loc} {ls : Array Slot} (hw : wd EX (fun q : Nat => s.heap.size ≤ q) s σ H locs) (hPM : va_P EM.1 vwCl (wL EM τ) H) (hR : R σ τ) (hl : lv_has ls 4 [(0, .ref b), (1, .ref (gE EX 0)), (2, .ref (gE EM 0)), (3, .int (nI i))]) (hnext : ∀ (σ τ : Mem) (H : Heap) (locs : List Loc) (ls : Array Slot), wd EX (fun q : Nat => s.heap.size ≤ q) s σ H locs → va_P EM.1 vwCl (wL EM τ) H → R σ τ → lv_has ls 4 [(0, .ref b), (1, .ref (gE EX 0)), (2, .ref (gE EM 0)), (3, .int (nI i))] → W p l e room_1 s m #[Value.ref b] below meth c H locs 90 6406 (lw_Z below #[Value.ref b] s) (F0 m 1283 ls [])) : W p l e room_1 s m #[Value.ref b] below meth c H locs 90 6406 (lw_Z below #[Value.ref b] s) (F0 m 619 ls []) := by
  have hx := CX.1.1
  have hb := CX.1.2.1
  have hbA : ¬ (fun q : Nat => s.heap.size ≤ q) b := Nat.not_le.mpr hbl
  refine lv_aload_n hx hb (dAt dL_15 0 rfl) rfl (lv_at hl 1 rfl) ?_
  refine lv_aload_n hx hb (dAt dL_15 1 rfl) rfl (lv_at hl 0 rfl) ?_
  refine lv_iload_n hx hb (dAt dL_15 2 rfl) rfl (lv_at hl 3 rfl) ?_
  refine lv_iconst (v := 1) hx hb (dAt dL_15 3 rfl) (by decide) ?_
  refine lv_iadd hx hb (dAt dL_15 4 rfl) ?_
  refine va_sld hx hb hX0 hbl hbA hw.2 (lw_in hi6 hL 1 (by decide)) (dAt dL_15 5 rfl) ?_
  refine y_calli CX hw hPM hd1 (x_runV (As := [.int (xs (nI i + (1 : Int32)).toNatClampNeg)]) (rest := []) CX hw (kX6_run l EX hX (xs (nI i + (1 : Int32)).toNatClampNeg) σ _ (hok σ τ (xs (nI i + (1 : Int32)).toNatClampNeg) hR)) mtX6_run lk_L_77 (hX.1 0) (nX hX (by decide)) rfl ⟨by decide, by decide⟩ ⟨rfl, rfl⟩ rfl hl.1 rfl (Nat.le_of_ble_eq_true rfl) (dAt dL_15 6 rfl) ⟨Nat.le_of_ble_eq_true rfl, Nat.le_of_ble_eq_true rfl⟩) (fun r1 σ1 H locs h hw hPM => ?_)
  refine lv_aload_n hx hb (dAt dL_15 7 rfl) rfl (lv_at hl 2 rfl) ?_
  refine lv_aload_n hx hb (dAt dL_15 8 rfl) rfl (lv_at hl 0 rfl) ?_
  refine lv_iload_n hx hb (dAt dL_15 9 rfl) rfl (lv_at hl 3 rfl) ?_
  refine lv_iconst (v := 1) hx hb (dAt dL_15 10 rfl) (by decide) ?_
  refine lv_iadd hx hb (dAt dL_15 11 rfl) ?_
  refine va_sld hx hb hX0 hbl hbA hw.2 (lw_in hi6 hL 1 (by decide)) (dAt dL_15 12 rfl) ?_
  refine y_calli CM ⟨hPM, hw.2⟩ hw.1 hd2 (x_runV (As := [.int (xs (nI i + (1 : Int32)).toNatClampNeg)]) (rest := [.int r1]) CM ⟨hPM, hw.2⟩ (kX7_run l EM hM (xs (nI i + (1 : Int32)).toNatClampNeg) τ _ h) mtX7_run lk_L_80 (hM.1 0) (nM hM (by decide)) rfl ⟨by decide, by decide⟩ ⟨rfl, rfl⟩ rfl hl.1 rfl (Nat.le_of_ble_eq_true rfl) (dAt dL_15 13 rfl) ⟨Nat.le_of_ble_eq_true rfl, Nat.le_of_ble_eq_true rfl⟩) (fun r2 τ1 H locs h hwM hPX => ?_)
  refine lv_icmp_eq (tgt := 1283) hx hb (dAt dL_15 14 rfl) (by decide) (fun _ => ?_) (fun z => absurd h.1 z)
  exact hnext σ1 τ1 H locs ls ⟨hPX, hwM.2⟩ hwM.1 h.2 hl
def tL_16 : List (Nat × Instr × Nat) := [(642, .aload_n 1, 1), (643, .invokevirtual 81, 3), (646, .aload_n 2, 1), (647, .invokevirtual 84, 3), (650, .if_icmp .eq 633, 3), (653, .iconst 0, 1), (654, .ireturn, 1)]
theorem dL_16 : dOk cL_law tL_16 = true := by decide +kernel
set_option maxHeartbeats 4000000 in
set_option maxRecDepth 100000 in
theorem kL_16 {p : Program} {l : Launch} {e : Env} {s : State} {m : MethodId} {below : List Frame} {meth : Method} {c : Code} {b L : Nat} {xs : Nat → Int32} {EX EM : wE} {R : Mem → Mem → Prop} (hok : okL_16 R) (hL : L ≤ 3072) (CX : Cx p s m #[Value.ref b] c cL_law 4 RL EX (fun q : Nat => s.heap.size ≤ q)) (CM : Cx p s m #[Value.ref b] c cL_law 4 RL EM (fun q : Nat => s.heap.size ≤ q)) (hX : wX EX) (hM : wM EM) (hd1 : ∀ q, wA EX q → ¬ wA EM q) (hd2 : ∀ q, wA EM q → ¬ wA EX q) (hX0 : va_X b L xs s s.heap) (hbl : b < s.heap.size) {i : Nat} (hi6 : i + 6 ≤ L) {σ τ : Mem} {H : Heap} {locs : List Loc} {ls : Array Slot} (hw : wd EX (fun q : Nat => s.heap.size ≤ q) s σ H locs) (hPM : va_P EM.1 vwCl (wL EM τ) H) (hR : R σ τ) (hl : lv_has ls 4 [(0, .ref b), (1, .ref (gE EX 0)), (2, .ref (gE EM 0)), (3, .int (nI i))]) (hnext : ∀ (σ τ : Mem) (H : Heap) (locs : List Loc) (ls : Array Slot), wd EX (fun q : Nat => s.heap.size ≤ q) s σ H locs → va_P EM.1 vwCl (wL EM τ) H → R σ τ → lv_has ls 4 [(0, .ref b), (1, .ref (gE EX 0)), (2, .ref (gE EM 0)), (3, .int (nI i))] → W p l e room_1 s m #[Value.ref b] below meth c H locs 90 6406 (lw_Z below #[Value.ref b] s) (F0 m 1283 ls [])) : W p l e room_1 s m #[Value.ref b] below meth c H locs 90 6406 (lw_Z below #[Value.ref b] s) (F0 m 642 ls []) := by
  have hx := CX.1.1
  have hb := CX.1.2.1
  have hbA : ¬ (fun q : Nat => s.heap.size ≤ q) b := Nat.not_le.mpr hbl
  refine lv_aload_n hx hb (dAt dL_16 0 rfl) rfl (lv_at hl 1 rfl) ?_
  refine y_calli CX hw hPM hd1 (x_runV (As := []) (rest := []) CX hw (kX6_bare l EX hX  σ _ (hok σ τ  hR)) mtX6_bare lk_L_81 (hX.1 0) (nX hX (by decide)) rfl ⟨by decide, by decide⟩ ⟨rfl, rfl⟩ rfl hl.1 rfl (Nat.le_of_ble_eq_true rfl) (dAt dL_16 1 rfl) ⟨Nat.le_of_ble_eq_true rfl, Nat.le_of_ble_eq_true rfl⟩) (fun r1 σ1 H locs h hw hPM => ?_)
  refine lv_aload_n hx hb (dAt dL_16 2 rfl) rfl (lv_at hl 2 rfl) ?_
  refine y_calli CM ⟨hPM, hw.2⟩ hw.1 hd2 (x_runV (As := []) (rest := [.int r1]) CM ⟨hPM, hw.2⟩ (kX7_bare l EM hM  τ _ h) mtX7_bare lk_L_84 (hM.1 0) (nM hM (by decide)) rfl ⟨by decide, by decide⟩ ⟨rfl, rfl⟩ rfl hl.1 rfl (Nat.le_of_ble_eq_true rfl) (dAt dL_16 3 rfl) ⟨Nat.le_of_ble_eq_true rfl, Nat.le_of_ble_eq_true rfl⟩) (fun r2 τ1 H locs h hwM hPX => ?_)
  refine lv_icmp_eq (tgt := 1283) hx hb (dAt dL_16 4 rfl) (by decide) (fun _ => ?_) (fun z => absurd h.1 z)
  exact hnext σ1 τ1 H locs ls ⟨hPX, hwM.2⟩ hwM.1 h.2 hl
def tL_17 : List (Nat × Instr × Nat) := [(655, .aload_n 1, 1), (656, .invokevirtual 85, 3), (659, .aload_n 2, 1), (660, .invokevirtual 88, 3), (663, .if_icmp .eq 620, 3), (666, .iconst 0, 1), (667, .ireturn, 1)]
theorem dL_17 : dOk cL_law tL_17 = true := by decide +kernel
set_option maxHeartbeats 4000000 in
set_option maxRecDepth 100000 in
theorem kL_17 {p : Program} {l : Launch} {e : Env} {s : State} {m : MethodId} {below : List Frame} {meth : Method} {c : Code} {b L : Nat} {xs : Nat → Int32} {EX EM : wE} {R : Mem → Mem → Prop} (hok : okL_17 R) (hL : L ≤ 3072) (CX : Cx p s m #[Value.ref b] c cL_law 4 RL EX (fun q : Nat => s.heap.size ≤ q)) (CM : Cx p s m #[Value.ref b] c cL_law 4 RL EM (fun q : Nat => s.heap.size ≤ q)) (hX : wX EX) (hM : wM EM) (hd1 : ∀ q, wA EX q → ¬ wA EM q) (hd2 : ∀ q, wA EM q → ¬ wA EX q) (hX0 : va_X b L xs s s.heap) (hbl : b < s.heap.size) {i : Nat} (hi6 : i + 6 ≤ L) {σ τ : Mem} {H : Heap} {locs : List Loc} {ls : Array Slot} (hw : wd EX (fun q : Nat => s.heap.size ≤ q) s σ H locs) (hPM : va_P EM.1 vwCl (wL EM τ) H) (hR : R σ τ) (hl : lv_has ls 4 [(0, .ref b), (1, .ref (gE EX 0)), (2, .ref (gE EM 0)), (3, .int (nI i))]) (hnext : ∀ (σ τ : Mem) (H : Heap) (locs : List Loc) (ls : Array Slot), wd EX (fun q : Nat => s.heap.size ≤ q) s σ H locs → va_P EM.1 vwCl (wL EM τ) H → R σ τ → lv_has ls 4 [(0, .ref b), (1, .ref (gE EX 0)), (2, .ref (gE EM 0)), (3, .int (nI i))] → W p l e room_1 s m #[Value.ref b] below meth c H locs 90 6406 (lw_Z below #[Value.ref b] s) (F0 m 1283 ls [])) : W p l e room_1 s m #[Value.ref b] below meth c H locs 90 6406 (lw_Z below #[Value.ref b] s) (F0 m 655 ls []) := by
  have hx := CX.1.1
  have hb := CX.1.2.1
  have hbA : ¬ (fun q : Nat => s.heap.size ≤ q) b := Nat.not_le.mpr hbl
  refine lv_aload_n hx hb (dAt dL_17 0 rfl) rfl (lv_at hl 1 rfl) ?_
  refine y_calli CX hw hPM hd1 (x_runV (As := []) (rest := []) CX hw (kX6_top l EX hX  σ _ (hok σ τ  hR)) mtX6_top lk_L_85 (hX.1 0) (nX hX (by decide)) rfl ⟨by decide, by decide⟩ ⟨rfl, rfl⟩ rfl hl.1 rfl (Nat.le_of_ble_eq_true rfl) (dAt dL_17 1 rfl) ⟨Nat.le_of_ble_eq_true rfl, Nat.le_of_ble_eq_true rfl⟩) (fun r1 σ1 H locs h hw hPM => ?_)
  refine lv_aload_n hx hb (dAt dL_17 2 rfl) rfl (lv_at hl 2 rfl) ?_
  refine y_calli CM ⟨hPM, hw.2⟩ hw.1 hd2 (x_runV (As := []) (rest := [.int r1]) CM ⟨hPM, hw.2⟩ (kX7_top l EM hM  τ _ h) mtX7_top lk_L_88 (hM.1 0) (nM hM (by decide)) rfl ⟨by decide, by decide⟩ ⟨rfl, rfl⟩ rfl hl.1 rfl (Nat.le_of_ble_eq_true rfl) (dAt dL_17 3 rfl) ⟨Nat.le_of_ble_eq_true rfl, Nat.le_of_ble_eq_true rfl⟩) (fun r2 τ1 H locs h hwM hPX => ?_)
  refine lv_icmp_eq (tgt := 1283) hx hb (dAt dL_17 4 rfl) (by decide) (fun _ => ?_) (fun z => absurd h.1 z)
  exact hnext σ1 τ1 H locs ls ⟨hPX, hwM.2⟩ hwM.1 h.2 hl
def tL_18 : List (Nat × Instr × Nat) := [(668, .aload_n 1, 1), (669, .invokevirtual 89, 3), (672, .aload_n 2, 1), (673, .invokevirtual 92, 3), (676, .if_icmp .eq 607, 3), (679, .iconst 0, 1), (680, .ireturn, 1)]
theorem dL_18 : dOk cL_law tL_18 = true := by decide +kernel
set_option maxHeartbeats 4000000 in
set_option maxRecDepth 100000 in
theorem kL_18 {p : Program} {l : Launch} {e : Env} {s : State} {m : MethodId} {below : List Frame} {meth : Method} {c : Code} {b L : Nat} {xs : Nat → Int32} {EX EM : wE} {R : Mem → Mem → Prop} (hok : okL_18 R) (hL : L ≤ 3072) (CX : Cx p s m #[Value.ref b] c cL_law 4 RL EX (fun q : Nat => s.heap.size ≤ q)) (CM : Cx p s m #[Value.ref b] c cL_law 4 RL EM (fun q : Nat => s.heap.size ≤ q)) (hX : wX EX) (hM : wM EM) (hd1 : ∀ q, wA EX q → ¬ wA EM q) (hd2 : ∀ q, wA EM q → ¬ wA EX q) (hX0 : va_X b L xs s s.heap) (hbl : b < s.heap.size) {i : Nat} (hi6 : i + 6 ≤ L) {σ τ : Mem} {H : Heap} {locs : List Loc} {ls : Array Slot} (hw : wd EX (fun q : Nat => s.heap.size ≤ q) s σ H locs) (hPM : va_P EM.1 vwCl (wL EM τ) H) (hR : R σ τ) (hl : lv_has ls 4 [(0, .ref b), (1, .ref (gE EX 0)), (2, .ref (gE EM 0)), (3, .int (nI i))]) (hnext : ∀ (σ τ : Mem) (H : Heap) (locs : List Loc) (ls : Array Slot), wd EX (fun q : Nat => s.heap.size ≤ q) s σ H locs → va_P EM.1 vwCl (wL EM τ) H → R σ τ → lv_has ls 4 [(0, .ref b), (1, .ref (gE EX 0)), (2, .ref (gE EM 0)), (3, .int (nI i))] → W p l e room_1 s m #[Value.ref b] below meth c H locs 90 6406 (lw_Z below #[Value.ref b] s) (F0 m 1283 ls [])) : W p l e room_1 s m #[Value.ref b] below meth c H locs 90 6406 (lw_Z below #[Value.ref b] s) (F0 m 668 ls []) := by
  have hx := CX.1.1
  have hb := CX.1.2.1
  have hbA : ¬ (fun q : Nat => s.heap.size ≤ q) b := Nat.not_le.mpr hbl
  refine lv_aload_n hx hb (dAt dL_18 0 rfl) rfl (lv_at hl 1 rfl) ?_
  refine y_calli CX hw hPM hd1 (x_runV (As := []) (rest := []) CX hw (kX6_lacks l EX hX  σ _ (hok σ τ  hR)) mtX6_lacks lk_L_89 (hX.1 0) (nX hX (by decide)) rfl ⟨by decide, by decide⟩ ⟨rfl, rfl⟩ rfl hl.1 rfl (Nat.le_of_ble_eq_true rfl) (dAt dL_18 1 rfl) ⟨Nat.le_of_ble_eq_true rfl, Nat.le_of_ble_eq_true rfl⟩) (fun r1 σ1 H locs h hw hPM => ?_)
  refine lv_aload_n hx hb (dAt dL_18 2 rfl) rfl (lv_at hl 2 rfl) ?_
  refine y_calli CM ⟨hPM, hw.2⟩ hw.1 hd2 (x_runV (As := []) (rest := [.int r1]) CM ⟨hPM, hw.2⟩ (kX7_lacks_ l EM hM  τ _ h) mtX7_lacks_ lk_L_92 (hM.1 0) (nM hM (by decide)) rfl ⟨by decide, by decide⟩ ⟨rfl, rfl⟩ rfl hl.1 rfl (Nat.le_of_ble_eq_true rfl) (dAt dL_18 3 rfl) ⟨Nat.le_of_ble_eq_true rfl, Nat.le_of_ble_eq_true rfl⟩) (fun r2 τ1 H locs h hwM hPX => ?_)
  refine lv_icmp_eq (tgt := 1283) hx hb (dAt dL_18 4 rfl) (by decide) (fun _ => ?_) (fun z => absurd h.1 z)
  exact hnext σ1 τ1 H locs ls ⟨hPX, hwM.2⟩ hwM.1 h.2 hl
def tL_19 : List (Nat × Instr × Nat) := [(681, .aload_n 1, 1), (682, .aload_n 0, 1), (683, .iload_n 3, 1), (684, .iconst 1, 1), (685, .iadd, 1), (686, .iaload, 1), (687, .aload_n 0, 1), (688, .iload_n 3, 1), (689, .iconst 2, 1), (690, .iadd, 1), (691, .iaload, 1), (692, .invokevirtual 93, 3), (695, .aload_n 2, 1), (696, .aload_n 0, 1), (697, .iload_n 3, 1), (698, .iconst 1, 1), (699, .iadd, 1), (700, .iaload, 1), (701, .aload_n 0, 1), (702, .iload_n 3, 1), (703, .iconst 2, 1), (704, .iadd, 1), (705, .iaload, 1), (706, .invokevirtual 96, 3), (709, .if_icmp .eq 574, 3), (712, .iconst 0, 1), (713, .ireturn, 1)]
theorem dL_19 : dOk cL_law tL_19 = true := by decide +kernel
set_option maxHeartbeats 4000000 in
set_option maxRecDepth 100000 in
theorem kL_19 {p : Program} {l : Launch} {e : Env} {s : State} {m : MethodId} {below : List Frame} {meth : Method} {c : Code} {b L : Nat} {xs : Nat → Int32} {EX EM : wE} {R : Mem → Mem → Prop} (hok : okL_19 R) (hL : L ≤ 3072) (CX : Cx p s m #[Value.ref b] c cL_law 4 RL EX (fun q : Nat => s.heap.size ≤ q)) (CM : Cx p s m #[Value.ref b] c cL_law 4 RL EM (fun q : Nat => s.heap.size ≤ q)) (hX : wX EX) (hM : wM EM) (hd1 : ∀ q, wA EX q → ¬ wA EM q) (hd2 : ∀ q, wA EM q → ¬ wA EX q) (hX0 : va_X b L xs s s.heap) (hbl : b < s.heap.size) {i : Nat} (hi6 : i + 6 ≤ L) {σ τ : Mem} {H : Heap} {locs : List Loc} {ls : Array Slot} (hw : wd EX (fun q : Nat => s.heap.size ≤ q) s σ H locs) (hPM : va_P EM.1 vwCl (wL EM τ) H) (hR : R σ τ) (hl : lv_has ls 4 [(0, .ref b), (1, .ref (gE EX 0)), (2, .ref (gE EM 0)), (3, .int (nI i))]) (hnext : ∀ (σ τ : Mem) (H : Heap) (locs : List Loc) (ls : Array Slot), wd EX (fun q : Nat => s.heap.size ≤ q) s σ H locs → va_P EM.1 vwCl (wL EM τ) H → R σ τ → lv_has ls 4 [(0, .ref b), (1, .ref (gE EX 0)), (2, .ref (gE EM 0)), (3, .int (nI i))] → W p l e room_1 s m #[Value.ref b] below meth c H locs 90 6406 (lw_Z below #[Value.ref b] s) (F0 m 1283 ls [])) : W p l e room_1 s m #[Value.ref b] below meth c H locs 90 6406 (lw_Z below #[Value.ref b] s) (F0 m 681 ls []) := by
  have hx := CX.1.1
  have hb := CX.1.2.1
  have hbA : ¬ (fun q : Nat => s.heap.size ≤ q) b := Nat.not_le.mpr hbl
  refine lv_aload_n hx hb (dAt dL_19 0 rfl) rfl (lv_at hl 1 rfl) ?_
  refine lv_aload_n hx hb (dAt dL_19 1 rfl) rfl (lv_at hl 0 rfl) ?_
  refine lv_iload_n hx hb (dAt dL_19 2 rfl) rfl (lv_at hl 3 rfl) ?_
  refine lv_iconst (v := 1) hx hb (dAt dL_19 3 rfl) (by decide) ?_
  refine lv_iadd hx hb (dAt dL_19 4 rfl) ?_
  refine va_sld hx hb hX0 hbl hbA hw.2 (lw_in hi6 hL 1 (by decide)) (dAt dL_19 5 rfl) ?_
  refine lv_aload_n hx hb (dAt dL_19 6 rfl) rfl (lv_at hl 0 rfl) ?_
  refine lv_iload_n hx hb (dAt dL_19 7 rfl) rfl (lv_at hl 3 rfl) ?_
  refine lv_iconst (v := 2) hx hb (dAt dL_19 8 rfl) (by decide) ?_
  refine lv_iadd hx hb (dAt dL_19 9 rfl) ?_
  refine va_sld hx hb hX0 hbl hbA hw.2 (lw_in hi6 hL 2 (by decide)) (dAt dL_19 10 rfl) ?_
  refine y_calli CX hw hPM hd1 (x_runV (As := [.int (xs (nI i + (1 : Int32)).toNatClampNeg), .int (xs (nI i + (2 : Int32)).toNatClampNeg)]) (rest := []) CX hw (kX6_step l EX hX (xs (nI i + (1 : Int32)).toNatClampNeg) (xs (nI i + (2 : Int32)).toNatClampNeg) σ _ (hok σ τ (xs (nI i + (1 : Int32)).toNatClampNeg) (xs (nI i + (2 : Int32)).toNatClampNeg) hR)) mtX6_step lk_L_93 (hX.1 0) (nX hX (by decide)) rfl ⟨by decide, by decide⟩ ⟨rfl, rfl⟩ rfl hl.1 rfl (Nat.le_of_ble_eq_true rfl) (dAt dL_19 11 rfl) ⟨Nat.le_of_ble_eq_true rfl, Nat.le_of_ble_eq_true rfl⟩) (fun r1 σ1 H locs h hw hPM => ?_)
  refine lv_aload_n hx hb (dAt dL_19 12 rfl) rfl (lv_at hl 2 rfl) ?_
  refine lv_aload_n hx hb (dAt dL_19 13 rfl) rfl (lv_at hl 0 rfl) ?_
  refine lv_iload_n hx hb (dAt dL_19 14 rfl) rfl (lv_at hl 3 rfl) ?_
  refine lv_iconst (v := 1) hx hb (dAt dL_19 15 rfl) (by decide) ?_
  refine lv_iadd hx hb (dAt dL_19 16 rfl) ?_
  refine va_sld hx hb hX0 hbl hbA hw.2 (lw_in hi6 hL 1 (by decide)) (dAt dL_19 17 rfl) ?_
  refine lv_aload_n hx hb (dAt dL_19 18 rfl) rfl (lv_at hl 0 rfl) ?_
  refine lv_iload_n hx hb (dAt dL_19 19 rfl) rfl (lv_at hl 3 rfl) ?_
  refine lv_iconst (v := 2) hx hb (dAt dL_19 20 rfl) (by decide) ?_
  refine lv_iadd hx hb (dAt dL_19 21 rfl) ?_
  refine va_sld hx hb hX0 hbl hbA hw.2 (lw_in hi6 hL 2 (by decide)) (dAt dL_19 22 rfl) ?_
  refine y_calli CM ⟨hPM, hw.2⟩ hw.1 hd2 (x_runV (As := [.int (xs (nI i + (1 : Int32)).toNatClampNeg), .int (xs (nI i + (2 : Int32)).toNatClampNeg)]) (rest := [.int r1]) CM ⟨hPM, hw.2⟩ (kX7_step l EM hM (xs (nI i + (1 : Int32)).toNatClampNeg) (xs (nI i + (2 : Int32)).toNatClampNeg) τ _ h) mtX7_step lk_L_96 (hM.1 0) (nM hM (by decide)) rfl ⟨by decide, by decide⟩ ⟨rfl, rfl⟩ rfl hl.1 rfl (Nat.le_of_ble_eq_true rfl) (dAt dL_19 23 rfl) ⟨Nat.le_of_ble_eq_true rfl, Nat.le_of_ble_eq_true rfl⟩) (fun r2 τ1 H locs h hwM hPX => ?_)
  refine lv_icmp_eq (tgt := 1283) hx hb (dAt dL_19 24 rfl) (by decide) (fun _ => ?_) (fun z => absurd h.1 z)
  exact hnext σ1 τ1 H locs ls ⟨hPX, hwM.2⟩ hwM.1 h.2 hl
def tL_20 : List (Nat × Instr × Nat) := [(714, .aload_n 1, 1), (715, .aload_n 0, 1), (716, .iload_n 3, 1), (717, .iconst 1, 1), (718, .iadd, 1), (719, .iaload, 1), (720, .aload_n 0, 1), (721, .iload_n 3, 1), (722, .iconst 2, 1), (723, .iadd, 1), (724, .iaload, 1), (725, .invokevirtual 97, 3), (728, .aload_n 2, 1), (729, .aload_n 0, 1), (730, .iload_n 3, 1), (731, .iconst 1, 1), (732, .iadd, 1), (733, .iaload, 1), (734, .aload_n 0, 1), (735, .iload_n 3, 1), (736, .iconst 2, 1), (737, .iadd, 1), (738, .iaload, 1), (739, .invokevirtual 100, 3), (742, .if_icmp .eq 541, 3), (745, .iconst 0, 1), (746, .ireturn, 1)]
theorem dL_20 : dOk cL_law tL_20 = true := by decide +kernel
set_option maxHeartbeats 4000000 in
set_option maxRecDepth 100000 in
theorem kL_20 {p : Program} {l : Launch} {e : Env} {s : State} {m : MethodId} {below : List Frame} {meth : Method} {c : Code} {b L : Nat} {xs : Nat → Int32} {EX EM : wE} {R : Mem → Mem → Prop} (hok : okL_20 R) (hL : L ≤ 3072) (CX : Cx p s m #[Value.ref b] c cL_law 4 RL EX (fun q : Nat => s.heap.size ≤ q)) (CM : Cx p s m #[Value.ref b] c cL_law 4 RL EM (fun q : Nat => s.heap.size ≤ q)) (hX : wX EX) (hM : wM EM) (hd1 : ∀ q, wA EX q → ¬ wA EM q) (hd2 : ∀ q, wA EM q → ¬ wA EX q) (hX0 : va_X b L xs s s.heap) (hbl : b < s.heap.size) {i : Nat} (hi6 : i + 6 ≤ L) {σ τ : Mem} {H : Heap} {locs : List Loc} {ls : Array Slot} (hw : wd EX (fun q : Nat => s.heap.size ≤ q) s σ H locs) (hPM : va_P EM.1 vwCl (wL EM τ) H) (hR : R σ τ) (hl : lv_has ls 4 [(0, .ref b), (1, .ref (gE EX 0)), (2, .ref (gE EM 0)), (3, .int (nI i))]) (hnext : ∀ (σ τ : Mem) (H : Heap) (locs : List Loc) (ls : Array Slot), wd EX (fun q : Nat => s.heap.size ≤ q) s σ H locs → va_P EM.1 vwCl (wL EM τ) H → R σ τ → lv_has ls 4 [(0, .ref b), (1, .ref (gE EX 0)), (2, .ref (gE EM 0)), (3, .int (nI i))] → W p l e room_1 s m #[Value.ref b] below meth c H locs 90 6406 (lw_Z below #[Value.ref b] s) (F0 m 1283 ls [])) : W p l e room_1 s m #[Value.ref b] below meth c H locs 90 6406 (lw_Z below #[Value.ref b] s) (F0 m 714 ls []) := by
  have hx := CX.1.1
  have hb := CX.1.2.1
  have hbA : ¬ (fun q : Nat => s.heap.size ≤ q) b := Nat.not_le.mpr hbl
  refine lv_aload_n hx hb (dAt dL_20 0 rfl) rfl (lv_at hl 1 rfl) ?_
  refine lv_aload_n hx hb (dAt dL_20 1 rfl) rfl (lv_at hl 0 rfl) ?_
  refine lv_iload_n hx hb (dAt dL_20 2 rfl) rfl (lv_at hl 3 rfl) ?_
  refine lv_iconst (v := 1) hx hb (dAt dL_20 3 rfl) (by decide) ?_
  refine lv_iadd hx hb (dAt dL_20 4 rfl) ?_
  refine va_sld hx hb hX0 hbl hbA hw.2 (lw_in hi6 hL 1 (by decide)) (dAt dL_20 5 rfl) ?_
  refine lv_aload_n hx hb (dAt dL_20 6 rfl) rfl (lv_at hl 0 rfl) ?_
  refine lv_iload_n hx hb (dAt dL_20 7 rfl) rfl (lv_at hl 3 rfl) ?_
  refine lv_iconst (v := 2) hx hb (dAt dL_20 8 rfl) (by decide) ?_
  refine lv_iadd hx hb (dAt dL_20 9 rfl) ?_
  refine va_sld hx hb hX0 hbl hbA hw.2 (lw_in hi6 hL 2 (by decide)) (dAt dL_20 10 rfl) ?_
  refine y_calli CX hw hPM hd1 (x_runV (As := [.int (xs (nI i + (1 : Int32)).toNatClampNeg), .int (xs (nI i + (2 : Int32)).toNatClampNeg)]) (rest := []) CX hw (kX6_begin l EX hX (xs (nI i + (1 : Int32)).toNatClampNeg) (xs (nI i + (2 : Int32)).toNatClampNeg) σ _ (hok σ τ (xs (nI i + (1 : Int32)).toNatClampNeg) (xs (nI i + (2 : Int32)).toNatClampNeg) hR)) mtX6_begin lk_L_97 (hX.1 0) (nX hX (by decide)) rfl ⟨by decide, by decide⟩ ⟨rfl, rfl⟩ rfl hl.1 rfl (Nat.le_of_ble_eq_true rfl) (dAt dL_20 11 rfl) ⟨Nat.le_of_ble_eq_true rfl, Nat.le_of_ble_eq_true rfl⟩) (fun r1 σ1 H locs h hw hPM => ?_)
  refine lv_aload_n hx hb (dAt dL_20 12 rfl) rfl (lv_at hl 2 rfl) ?_
  refine lv_aload_n hx hb (dAt dL_20 13 rfl) rfl (lv_at hl 0 rfl) ?_
  refine lv_iload_n hx hb (dAt dL_20 14 rfl) rfl (lv_at hl 3 rfl) ?_
  refine lv_iconst (v := 1) hx hb (dAt dL_20 15 rfl) (by decide) ?_
  refine lv_iadd hx hb (dAt dL_20 16 rfl) ?_
  refine va_sld hx hb hX0 hbl hbA hw.2 (lw_in hi6 hL 1 (by decide)) (dAt dL_20 17 rfl) ?_
  refine lv_aload_n hx hb (dAt dL_20 18 rfl) rfl (lv_at hl 0 rfl) ?_
  refine lv_iload_n hx hb (dAt dL_20 19 rfl) rfl (lv_at hl 3 rfl) ?_
  refine lv_iconst (v := 2) hx hb (dAt dL_20 20 rfl) (by decide) ?_
  refine lv_iadd hx hb (dAt dL_20 21 rfl) ?_
  refine va_sld hx hb hX0 hbl hbA hw.2 (lw_in hi6 hL 2 (by decide)) (dAt dL_20 22 rfl) ?_
  refine y_calli CM ⟨hPM, hw.2⟩ hw.1 hd2 (x_runV (As := [.int (xs (nI i + (1 : Int32)).toNatClampNeg), .int (xs (nI i + (2 : Int32)).toNatClampNeg)]) (rest := [.int r1]) CM ⟨hPM, hw.2⟩ (kX7_begin l EM hM (xs (nI i + (1 : Int32)).toNatClampNeg) (xs (nI i + (2 : Int32)).toNatClampNeg) τ _ h) mtX7_begin lk_L_100 (hM.1 0) (nM hM (by decide)) rfl ⟨by decide, by decide⟩ ⟨rfl, rfl⟩ rfl hl.1 rfl (Nat.le_of_ble_eq_true rfl) (dAt dL_20 23 rfl) ⟨Nat.le_of_ble_eq_true rfl, Nat.le_of_ble_eq_true rfl⟩) (fun r2 τ1 H locs h hwM hPX => ?_)
  refine lv_icmp_eq (tgt := 1283) hx hb (dAt dL_20 24 rfl) (by decide) (fun _ => ?_) (fun z => absurd h.1 z)
  exact hnext σ1 τ1 H locs ls ⟨hPX, hwM.2⟩ hwM.1 h.2 hl
def tL_21 : List (Nat × Instr × Nat) := [(747, .aload_n 1, 1), (748, .aload_n 0, 1), (749, .iload_n 3, 1), (750, .iconst 1, 1), (751, .iadd, 1), (752, .iaload, 1), (753, .aload_n 0, 1), (754, .iload_n 3, 1), (755, .iconst 2, 1), (756, .iadd, 1), (757, .iaload, 1), (758, .invokevirtual 101, 3), (761, .aload_n 2, 1), (762, .aload_n 0, 1), (763, .iload_n 3, 1), (764, .iconst 1, 1), (765, .iadd, 1), (766, .iaload, 1), (767, .aload_n 0, 1), (768, .iload_n 3, 1), (769, .iconst 2, 1), (770, .iadd, 1), (771, .iaload, 1), (772, .invokevirtual 104, 3), (775, .if_icmp .eq 508, 3), (778, .iconst 0, 1), (779, .ireturn, 1)]
theorem dL_21 : dOk cL_law tL_21 = true := by decide +kernel
set_option maxHeartbeats 4000000 in
set_option maxRecDepth 100000 in
theorem kL_21 {p : Program} {l : Launch} {e : Env} {s : State} {m : MethodId} {below : List Frame} {meth : Method} {c : Code} {b L : Nat} {xs : Nat → Int32} {EX EM : wE} {R : Mem → Mem → Prop} (hok : okL_21 R) (hL : L ≤ 3072) (CX : Cx p s m #[Value.ref b] c cL_law 4 RL EX (fun q : Nat => s.heap.size ≤ q)) (CM : Cx p s m #[Value.ref b] c cL_law 4 RL EM (fun q : Nat => s.heap.size ≤ q)) (hX : wX EX) (hM : wM EM) (hd1 : ∀ q, wA EX q → ¬ wA EM q) (hd2 : ∀ q, wA EM q → ¬ wA EX q) (hX0 : va_X b L xs s s.heap) (hbl : b < s.heap.size) {i : Nat} (hi6 : i + 6 ≤ L) {σ τ : Mem} {H : Heap} {locs : List Loc} {ls : Array Slot} (hw : wd EX (fun q : Nat => s.heap.size ≤ q) s σ H locs) (hPM : va_P EM.1 vwCl (wL EM τ) H) (hR : R σ τ) (hl : lv_has ls 4 [(0, .ref b), (1, .ref (gE EX 0)), (2, .ref (gE EM 0)), (3, .int (nI i))]) (hnext : ∀ (σ τ : Mem) (H : Heap) (locs : List Loc) (ls : Array Slot), wd EX (fun q : Nat => s.heap.size ≤ q) s σ H locs → va_P EM.1 vwCl (wL EM τ) H → R σ τ → lv_has ls 4 [(0, .ref b), (1, .ref (gE EX 0)), (2, .ref (gE EM 0)), (3, .int (nI i))] → W p l e room_1 s m #[Value.ref b] below meth c H locs 90 6406 (lw_Z below #[Value.ref b] s) (F0 m 1283 ls [])) : W p l e room_1 s m #[Value.ref b] below meth c H locs 90 6406 (lw_Z below #[Value.ref b] s) (F0 m 747 ls []) := by
  have hx := CX.1.1
  have hb := CX.1.2.1
  have hbA : ¬ (fun q : Nat => s.heap.size ≤ q) b := Nat.not_le.mpr hbl
  refine lv_aload_n hx hb (dAt dL_21 0 rfl) rfl (lv_at hl 1 rfl) ?_
  refine lv_aload_n hx hb (dAt dL_21 1 rfl) rfl (lv_at hl 0 rfl) ?_
  refine lv_iload_n hx hb (dAt dL_21 2 rfl) rfl (lv_at hl 3 rfl) ?_
  refine lv_iconst (v := 1) hx hb (dAt dL_21 3 rfl) (by decide) ?_
  refine lv_iadd hx hb (dAt dL_21 4 rfl) ?_
  refine va_sld hx hb hX0 hbl hbA hw.2 (lw_in hi6 hL 1 (by decide)) (dAt dL_21 5 rfl) ?_
  refine lv_aload_n hx hb (dAt dL_21 6 rfl) rfl (lv_at hl 0 rfl) ?_
  refine lv_iload_n hx hb (dAt dL_21 7 rfl) rfl (lv_at hl 3 rfl) ?_
  refine lv_iconst (v := 2) hx hb (dAt dL_21 8 rfl) (by decide) ?_
  refine lv_iadd hx hb (dAt dL_21 9 rfl) ?_
  refine va_sld hx hb hX0 hbl hbA hw.2 (lw_in hi6 hL 2 (by decide)) (dAt dL_21 10 rfl) ?_
  refine y_calli CX hw hPM hd1 (x_runV (As := [.int (xs (nI i + (1 : Int32)).toNatClampNeg), .int (xs (nI i + (2 : Int32)).toNatClampNeg)]) (rest := []) CX hw (kX6_dress l EX hX (xs (nI i + (1 : Int32)).toNatClampNeg) (xs (nI i + (2 : Int32)).toNatClampNeg) σ _ (hok σ τ (xs (nI i + (1 : Int32)).toNatClampNeg) (xs (nI i + (2 : Int32)).toNatClampNeg) hR)) mtX6_dress lk_L_101 (hX.1 0) (nX hX (by decide)) rfl ⟨by decide, by decide⟩ ⟨rfl, rfl⟩ rfl hl.1 rfl (Nat.le_of_ble_eq_true rfl) (dAt dL_21 11 rfl) ⟨Nat.le_of_ble_eq_true rfl, Nat.le_of_ble_eq_true rfl⟩) (fun r1 σ1 H locs h hw hPM => ?_)
  refine lv_aload_n hx hb (dAt dL_21 12 rfl) rfl (lv_at hl 2 rfl) ?_
  refine lv_aload_n hx hb (dAt dL_21 13 rfl) rfl (lv_at hl 0 rfl) ?_
  refine lv_iload_n hx hb (dAt dL_21 14 rfl) rfl (lv_at hl 3 rfl) ?_
  refine lv_iconst (v := 1) hx hb (dAt dL_21 15 rfl) (by decide) ?_
  refine lv_iadd hx hb (dAt dL_21 16 rfl) ?_
  refine va_sld hx hb hX0 hbl hbA hw.2 (lw_in hi6 hL 1 (by decide)) (dAt dL_21 17 rfl) ?_
  refine lv_aload_n hx hb (dAt dL_21 18 rfl) rfl (lv_at hl 0 rfl) ?_
  refine lv_iload_n hx hb (dAt dL_21 19 rfl) rfl (lv_at hl 3 rfl) ?_
  refine lv_iconst (v := 2) hx hb (dAt dL_21 20 rfl) (by decide) ?_
  refine lv_iadd hx hb (dAt dL_21 21 rfl) ?_
  refine va_sld hx hb hX0 hbl hbA hw.2 (lw_in hi6 hL 2 (by decide)) (dAt dL_21 22 rfl) ?_
  refine y_calli CM ⟨hPM, hw.2⟩ hw.1 hd2 (x_runV (As := [.int (xs (nI i + (1 : Int32)).toNatClampNeg), .int (xs (nI i + (2 : Int32)).toNatClampNeg)]) (rest := [.int r1]) CM ⟨hPM, hw.2⟩ (kX7_dress l EM hM (xs (nI i + (1 : Int32)).toNatClampNeg) (xs (nI i + (2 : Int32)).toNatClampNeg) τ _ h) mtX7_dress lk_L_104 (hM.1 0) (nM hM (by decide)) rfl ⟨by decide, by decide⟩ ⟨rfl, rfl⟩ rfl hl.1 rfl (Nat.le_of_ble_eq_true rfl) (dAt dL_21 23 rfl) ⟨Nat.le_of_ble_eq_true rfl, Nat.le_of_ble_eq_true rfl⟩) (fun r2 τ1 H locs h hwM hPX => ?_)
  refine lv_icmp_eq (tgt := 1283) hx hb (dAt dL_21 24 rfl) (by decide) (fun _ => ?_) (fun z => absurd h.1 z)
  exact hnext σ1 τ1 H locs ls ⟨hPX, hwM.2⟩ hwM.1 h.2 hl
def tL_22 : List (Nat × Instr × Nat) := [(780, .aload_n 1, 1), (781, .aload_n 0, 1), (782, .iload_n 3, 1), (783, .iconst 1, 1), (784, .iadd, 1), (785, .iaload, 1), (786, .invokevirtual 105, 3), (789, .aload_n 2, 1), (790, .aload_n 0, 1), (791, .iload_n 3, 1), (792, .iconst 1, 1), (793, .iadd, 1), (794, .iaload, 1), (795, .invokevirtual 108, 3), (798, .if_icmp .eq 485, 3), (801, .iconst 0, 1), (802, .ireturn, 1)]
theorem dL_22 : dOk cL_law tL_22 = true := by decide +kernel
set_option maxHeartbeats 4000000 in
set_option maxRecDepth 100000 in
theorem kL_22 {p : Program} {l : Launch} {e : Env} {s : State} {m : MethodId} {below : List Frame} {meth : Method} {c : Code} {b L : Nat} {xs : Nat → Int32} {EX EM : wE} {R : Mem → Mem → Prop} (hok : okL_22 R) (hL : L ≤ 3072) (CX : Cx p s m #[Value.ref b] c cL_law 4 RL EX (fun q : Nat => s.heap.size ≤ q)) (CM : Cx p s m #[Value.ref b] c cL_law 4 RL EM (fun q : Nat => s.heap.size ≤ q)) (hX : wX EX) (hM : wM EM) (hd1 : ∀ q, wA EX q → ¬ wA EM q) (hd2 : ∀ q, wA EM q → ¬ wA EX q) (hX0 : va_X b L xs s s.heap) (hbl : b < s.heap.size) {i : Nat} (hi6 : i + 6 ≤ L) {σ τ : Mem} {H : Heap} {locs : List Loc} {ls : Array Slot} (hw : wd EX (fun q : Nat => s.heap.size ≤ q) s σ H locs) (hPM : va_P EM.1 vwCl (wL EM τ) H) (hR : R σ τ) (hl : lv_has ls 4 [(0, .ref b), (1, .ref (gE EX 0)), (2, .ref (gE EM 0)), (3, .int (nI i))]) (hnext : ∀ (σ τ : Mem) (H : Heap) (locs : List Loc) (ls : Array Slot), wd EX (fun q : Nat => s.heap.size ≤ q) s σ H locs → va_P EM.1 vwCl (wL EM τ) H → R σ τ → lv_has ls 4 [(0, .ref b), (1, .ref (gE EX 0)), (2, .ref (gE EM 0)), (3, .int (nI i))] → W p l e room_1 s m #[Value.ref b] below meth c H locs 90 6406 (lw_Z below #[Value.ref b] s) (F0 m 1283 ls [])) : W p l e room_1 s m #[Value.ref b] below meth c H locs 90 6406 (lw_Z below #[Value.ref b] s) (F0 m 780 ls []) := by
  have hx := CX.1.1
  have hb := CX.1.2.1
  have hbA : ¬ (fun q : Nat => s.heap.size ≤ q) b := Nat.not_le.mpr hbl
  refine lv_aload_n hx hb (dAt dL_22 0 rfl) rfl (lv_at hl 1 rfl) ?_
  refine lv_aload_n hx hb (dAt dL_22 1 rfl) rfl (lv_at hl 0 rfl) ?_
  refine lv_iload_n hx hb (dAt dL_22 2 rfl) rfl (lv_at hl 3 rfl) ?_
  refine lv_iconst (v := 1) hx hb (dAt dL_22 3 rfl) (by decide) ?_
  refine lv_iadd hx hb (dAt dL_22 4 rfl) ?_
  refine va_sld hx hb hX0 hbl hbA hw.2 (lw_in hi6 hL 1 (by decide)) (dAt dL_22 5 rfl) ?_
  refine y_calli CX hw hPM hd1 (x_runV (As := [.int (xs (nI i + (1 : Int32)).toNatClampNeg)]) (rest := []) CX hw (kX6_spare l EX hX (xs (nI i + (1 : Int32)).toNatClampNeg) σ _ (hok σ τ (xs (nI i + (1 : Int32)).toNatClampNeg) hR)) mtX6_spare lk_L_105 (hX.1 0) (nX hX (by decide)) rfl ⟨by decide, by decide⟩ ⟨rfl, rfl⟩ rfl hl.1 rfl (Nat.le_of_ble_eq_true rfl) (dAt dL_22 6 rfl) ⟨Nat.le_of_ble_eq_true rfl, Nat.le_of_ble_eq_true rfl⟩) (fun r1 σ1 H locs h hw hPM => ?_)
  refine lv_aload_n hx hb (dAt dL_22 7 rfl) rfl (lv_at hl 2 rfl) ?_
  refine lv_aload_n hx hb (dAt dL_22 8 rfl) rfl (lv_at hl 0 rfl) ?_
  refine lv_iload_n hx hb (dAt dL_22 9 rfl) rfl (lv_at hl 3 rfl) ?_
  refine lv_iconst (v := 1) hx hb (dAt dL_22 10 rfl) (by decide) ?_
  refine lv_iadd hx hb (dAt dL_22 11 rfl) ?_
  refine va_sld hx hb hX0 hbl hbA hw.2 (lw_in hi6 hL 1 (by decide)) (dAt dL_22 12 rfl) ?_
  refine y_calli CM ⟨hPM, hw.2⟩ hw.1 hd2 (x_runV (As := [.int (xs (nI i + (1 : Int32)).toNatClampNeg)]) (rest := [.int r1]) CM ⟨hPM, hw.2⟩ (kX7_spare l EM hM (xs (nI i + (1 : Int32)).toNatClampNeg) τ _ h) mtX7_spare lk_L_108 (hM.1 0) (nM hM (by decide)) rfl ⟨by decide, by decide⟩ ⟨rfl, rfl⟩ rfl hl.1 rfl (Nat.le_of_ble_eq_true rfl) (dAt dL_22 13 rfl) ⟨Nat.le_of_ble_eq_true rfl, Nat.le_of_ble_eq_true rfl⟩) (fun r2 τ1 H locs h hwM hPX => ?_)
  refine lv_icmp_eq (tgt := 1283) hx hb (dAt dL_22 14 rfl) (by decide) (fun _ => ?_) (fun z => absurd h.1 z)
  exact hnext σ1 τ1 H locs ls ⟨hPX, hwM.2⟩ hwM.1 h.2 hl
def tL_23 : List (Nat × Instr × Nat) := [(803, .aload_n 1, 1), (804, .aload_n 0, 1), (805, .iload_n 3, 1), (806, .iconst 1, 1), (807, .iadd, 1), (808, .iaload, 1), (809, .aload_n 0, 1), (810, .iload_n 3, 1), (811, .iconst 2, 1), (812, .iadd, 1), (813, .iaload, 1), (814, .invokevirtual 109, 3), (817, .aload_n 2, 1), (818, .aload_n 0, 1), (819, .iload_n 3, 1), (820, .iconst 1, 1), (821, .iadd, 1), (822, .iaload, 1), (823, .aload_n 0, 1), (824, .iload_n 3, 1), (825, .iconst 2, 1), (826, .iadd, 1), (827, .iaload, 1), (828, .invokevirtual 112, 3), (831, .if_icmp .eq 452, 3), (834, .iconst 0, 1), (835, .ireturn, 1)]
theorem dL_23 : dOk cL_law tL_23 = true := by decide +kernel
set_option maxHeartbeats 4000000 in
set_option maxRecDepth 100000 in
theorem kL_23 {p : Program} {l : Launch} {e : Env} {s : State} {m : MethodId} {below : List Frame} {meth : Method} {c : Code} {b L : Nat} {xs : Nat → Int32} {EX EM : wE} {R : Mem → Mem → Prop} (hok : okL_23 R) (hL : L ≤ 3072) (CX : Cx p s m #[Value.ref b] c cL_law 4 RL EX (fun q : Nat => s.heap.size ≤ q)) (CM : Cx p s m #[Value.ref b] c cL_law 4 RL EM (fun q : Nat => s.heap.size ≤ q)) (hX : wX EX) (hM : wM EM) (hd1 : ∀ q, wA EX q → ¬ wA EM q) (hd2 : ∀ q, wA EM q → ¬ wA EX q) (hX0 : va_X b L xs s s.heap) (hbl : b < s.heap.size) {i : Nat} (hi6 : i + 6 ≤ L) {σ τ : Mem} {H : Heap} {locs : List Loc} {ls : Array Slot} (hw : wd EX (fun q : Nat => s.heap.size ≤ q) s σ H locs) (hPM : va_P EM.1 vwCl (wL EM τ) H) (hR : R σ τ) (hl : lv_has ls 4 [(0, .ref b), (1, .ref (gE EX 0)), (2, .ref (gE EM 0)), (3, .int (nI i))]) (hnext : ∀ (σ τ : Mem) (H : Heap) (locs : List Loc) (ls : Array Slot), wd EX (fun q : Nat => s.heap.size ≤ q) s σ H locs → va_P EM.1 vwCl (wL EM τ) H → R σ τ → lv_has ls 4 [(0, .ref b), (1, .ref (gE EX 0)), (2, .ref (gE EM 0)), (3, .int (nI i))] → W p l e room_1 s m #[Value.ref b] below meth c H locs 90 6406 (lw_Z below #[Value.ref b] s) (F0 m 1283 ls [])) : W p l e room_1 s m #[Value.ref b] below meth c H locs 90 6406 (lw_Z below #[Value.ref b] s) (F0 m 803 ls []) := by
  have hx := CX.1.1
  have hb := CX.1.2.1
  have hbA : ¬ (fun q : Nat => s.heap.size ≤ q) b := Nat.not_le.mpr hbl
  refine lv_aload_n hx hb (dAt dL_23 0 rfl) rfl (lv_at hl 1 rfl) ?_
  refine lv_aload_n hx hb (dAt dL_23 1 rfl) rfl (lv_at hl 0 rfl) ?_
  refine lv_iload_n hx hb (dAt dL_23 2 rfl) rfl (lv_at hl 3 rfl) ?_
  refine lv_iconst (v := 1) hx hb (dAt dL_23 3 rfl) (by decide) ?_
  refine lv_iadd hx hb (dAt dL_23 4 rfl) ?_
  refine va_sld hx hb hX0 hbl hbA hw.2 (lw_in hi6 hL 1 (by decide)) (dAt dL_23 5 rfl) ?_
  refine lv_aload_n hx hb (dAt dL_23 6 rfl) rfl (lv_at hl 0 rfl) ?_
  refine lv_iload_n hx hb (dAt dL_23 7 rfl) rfl (lv_at hl 3 rfl) ?_
  refine lv_iconst (v := 2) hx hb (dAt dL_23 8 rfl) (by decide) ?_
  refine lv_iadd hx hb (dAt dL_23 9 rfl) ?_
  refine va_sld hx hb hX0 hbl hbA hw.2 (lw_in hi6 hL 2 (by decide)) (dAt dL_23 10 rfl) ?_
  refine y_calli CX hw hPM hd1 (x_runV (As := [.int (xs (nI i + (1 : Int32)).toNatClampNeg), .int (xs (nI i + (2 : Int32)).toNatClampNeg)]) (rest := []) CX hw (kX6_seen l EX hX (xs (nI i + (1 : Int32)).toNatClampNeg) (xs (nI i + (2 : Int32)).toNatClampNeg) σ _ (hok σ τ (xs (nI i + (1 : Int32)).toNatClampNeg) (xs (nI i + (2 : Int32)).toNatClampNeg) hR)) mtX6_seen lk_L_109 (hX.1 0) (nX hX (by decide)) rfl ⟨by decide, by decide⟩ ⟨rfl, rfl⟩ rfl hl.1 rfl (Nat.le_of_ble_eq_true rfl) (dAt dL_23 11 rfl) ⟨Nat.le_of_ble_eq_true rfl, Nat.le_of_ble_eq_true rfl⟩) (fun r1 σ1 H locs h hw hPM => ?_)
  refine lv_aload_n hx hb (dAt dL_23 12 rfl) rfl (lv_at hl 2 rfl) ?_
  refine lv_aload_n hx hb (dAt dL_23 13 rfl) rfl (lv_at hl 0 rfl) ?_
  refine lv_iload_n hx hb (dAt dL_23 14 rfl) rfl (lv_at hl 3 rfl) ?_
  refine lv_iconst (v := 1) hx hb (dAt dL_23 15 rfl) (by decide) ?_
  refine lv_iadd hx hb (dAt dL_23 16 rfl) ?_
  refine va_sld hx hb hX0 hbl hbA hw.2 (lw_in hi6 hL 1 (by decide)) (dAt dL_23 17 rfl) ?_
  refine lv_aload_n hx hb (dAt dL_23 18 rfl) rfl (lv_at hl 0 rfl) ?_
  refine lv_iload_n hx hb (dAt dL_23 19 rfl) rfl (lv_at hl 3 rfl) ?_
  refine lv_iconst (v := 2) hx hb (dAt dL_23 20 rfl) (by decide) ?_
  refine lv_iadd hx hb (dAt dL_23 21 rfl) ?_
  refine va_sld hx hb hX0 hbl hbA hw.2 (lw_in hi6 hL 2 (by decide)) (dAt dL_23 22 rfl) ?_
  refine y_calli CM ⟨hPM, hw.2⟩ hw.1 hd2 (x_runV (As := [.int (xs (nI i + (1 : Int32)).toNatClampNeg), .int (xs (nI i + (2 : Int32)).toNatClampNeg)]) (rest := [.int r1]) CM ⟨hPM, hw.2⟩ (kX7_seen l EM hM (xs (nI i + (1 : Int32)).toNatClampNeg) (xs (nI i + (2 : Int32)).toNatClampNeg) τ _ h) mtX7_seen lk_L_112 (hM.1 0) (nM hM (by decide)) rfl ⟨by decide, by decide⟩ ⟨rfl, rfl⟩ rfl hl.1 rfl (Nat.le_of_ble_eq_true rfl) (dAt dL_23 23 rfl) ⟨Nat.le_of_ble_eq_true rfl, Nat.le_of_ble_eq_true rfl⟩) (fun r2 τ1 H locs h hwM hPX => ?_)
  refine lv_icmp_eq (tgt := 1283) hx hb (dAt dL_23 24 rfl) (by decide) (fun _ => ?_) (fun z => absurd h.1 z)
  exact hnext σ1 τ1 H locs ls ⟨hPX, hwM.2⟩ hwM.1 h.2 hl
def tL_24 : List (Nat × Instr × Nat) := [(836, .aload_n 1, 1), (837, .invokevirtual 113, 3), (840, .aload_n 2, 1), (841, .invokevirtual 116, 3), (844, .if_icmp .eq 439, 3), (847, .iconst 0, 1), (848, .ireturn, 1)]
theorem dL_24 : dOk cL_law tL_24 = true := by decide +kernel
set_option maxHeartbeats 4000000 in
set_option maxRecDepth 100000 in
theorem kL_24 {p : Program} {l : Launch} {e : Env} {s : State} {m : MethodId} {below : List Frame} {meth : Method} {c : Code} {b L : Nat} {xs : Nat → Int32} {EX EM : wE} {R : Mem → Mem → Prop} (hok : okL_24 R) (hL : L ≤ 3072) (CX : Cx p s m #[Value.ref b] c cL_law 4 RL EX (fun q : Nat => s.heap.size ≤ q)) (CM : Cx p s m #[Value.ref b] c cL_law 4 RL EM (fun q : Nat => s.heap.size ≤ q)) (hX : wX EX) (hM : wM EM) (hd1 : ∀ q, wA EX q → ¬ wA EM q) (hd2 : ∀ q, wA EM q → ¬ wA EX q) (hX0 : va_X b L xs s s.heap) (hbl : b < s.heap.size) {i : Nat} (hi6 : i + 6 ≤ L) {σ τ : Mem} {H : Heap} {locs : List Loc} {ls : Array Slot} (hw : wd EX (fun q : Nat => s.heap.size ≤ q) s σ H locs) (hPM : va_P EM.1 vwCl (wL EM τ) H) (hR : R σ τ) (hl : lv_has ls 4 [(0, .ref b), (1, .ref (gE EX 0)), (2, .ref (gE EM 0)), (3, .int (nI i))]) (hnext : ∀ (σ τ : Mem) (H : Heap) (locs : List Loc) (ls : Array Slot), wd EX (fun q : Nat => s.heap.size ≤ q) s σ H locs → va_P EM.1 vwCl (wL EM τ) H → R σ τ → lv_has ls 4 [(0, .ref b), (1, .ref (gE EX 0)), (2, .ref (gE EM 0)), (3, .int (nI i))] → W p l e room_1 s m #[Value.ref b] below meth c H locs 90 6406 (lw_Z below #[Value.ref b] s) (F0 m 1283 ls [])) : W p l e room_1 s m #[Value.ref b] below meth c H locs 90 6406 (lw_Z below #[Value.ref b] s) (F0 m 836 ls []) := by
  have hx := CX.1.1
  have hb := CX.1.2.1
  have hbA : ¬ (fun q : Nat => s.heap.size ≤ q) b := Nat.not_le.mpr hbl
  refine lv_aload_n hx hb (dAt dL_24 0 rfl) rfl (lv_at hl 1 rfl) ?_
  refine y_calli CX hw hPM hd1 (x_runV (As := []) (rest := []) CX hw (kX6_forget l EX hX  σ _ (hok σ τ  hR)) mtX6_forget lk_L_113 (hX.1 0) (nX hX (by decide)) rfl ⟨by decide, by decide⟩ ⟨rfl, rfl⟩ rfl hl.1 rfl (Nat.le_of_ble_eq_true rfl) (dAt dL_24 1 rfl) ⟨Nat.le_of_ble_eq_true rfl, Nat.le_of_ble_eq_true rfl⟩) (fun r1 σ1 H locs h hw hPM => ?_)
  refine lv_aload_n hx hb (dAt dL_24 2 rfl) rfl (lv_at hl 2 rfl) ?_
  refine y_calli CM ⟨hPM, hw.2⟩ hw.1 hd2 (x_runV (As := []) (rest := [.int r1]) CM ⟨hPM, hw.2⟩ (kX7_forget l EM hM  τ _ h) mtX7_forget lk_L_116 (hM.1 0) (nM hM (by decide)) rfl ⟨by decide, by decide⟩ ⟨rfl, rfl⟩ rfl hl.1 rfl (Nat.le_of_ble_eq_true rfl) (dAt dL_24 3 rfl) ⟨Nat.le_of_ble_eq_true rfl, Nat.le_of_ble_eq_true rfl⟩) (fun r2 τ1 H locs h hwM hPX => ?_)
  refine lv_icmp_eq (tgt := 1283) hx hb (dAt dL_24 4 rfl) (by decide) (fun _ => ?_) (fun z => absurd h.1 z)
  exact hnext σ1 τ1 H locs ls ⟨hPX, hwM.2⟩ hwM.1 h.2 hl
def tL_25 : List (Nat × Instr × Nat) := [(849, .aload_n 1, 1), (850, .invokevirtual 117, 3), (853, .aload_n 2, 1), (854, .invokevirtual 120, 3), (857, .if_icmp .eq 426, 3), (860, .iconst 0, 1), (861, .ireturn, 1)]
theorem dL_25 : dOk cL_law tL_25 = true := by decide +kernel
set_option maxHeartbeats 4000000 in
set_option maxRecDepth 100000 in
theorem kL_25 {p : Program} {l : Launch} {e : Env} {s : State} {m : MethodId} {below : List Frame} {meth : Method} {c : Code} {b L : Nat} {xs : Nat → Int32} {EX EM : wE} {R : Mem → Mem → Prop} (hok : okL_25 R) (hL : L ≤ 3072) (CX : Cx p s m #[Value.ref b] c cL_law 4 RL EX (fun q : Nat => s.heap.size ≤ q)) (CM : Cx p s m #[Value.ref b] c cL_law 4 RL EM (fun q : Nat => s.heap.size ≤ q)) (hX : wX EX) (hM : wM EM) (hd1 : ∀ q, wA EX q → ¬ wA EM q) (hd2 : ∀ q, wA EM q → ¬ wA EX q) (hX0 : va_X b L xs s s.heap) (hbl : b < s.heap.size) {i : Nat} (hi6 : i + 6 ≤ L) {σ τ : Mem} {H : Heap} {locs : List Loc} {ls : Array Slot} (hw : wd EX (fun q : Nat => s.heap.size ≤ q) s σ H locs) (hPM : va_P EM.1 vwCl (wL EM τ) H) (hR : R σ τ) (hl : lv_has ls 4 [(0, .ref b), (1, .ref (gE EX 0)), (2, .ref (gE EM 0)), (3, .int (nI i))]) (hnext : ∀ (σ τ : Mem) (H : Heap) (locs : List Loc) (ls : Array Slot), wd EX (fun q : Nat => s.heap.size ≤ q) s σ H locs → va_P EM.1 vwCl (wL EM τ) H → R σ τ → lv_has ls 4 [(0, .ref b), (1, .ref (gE EX 0)), (2, .ref (gE EM 0)), (3, .int (nI i))] → W p l e room_1 s m #[Value.ref b] below meth c H locs 90 6406 (lw_Z below #[Value.ref b] s) (F0 m 1283 ls [])) : W p l e room_1 s m #[Value.ref b] below meth c H locs 90 6406 (lw_Z below #[Value.ref b] s) (F0 m 849 ls []) := by
  have hx := CX.1.1
  have hb := CX.1.2.1
  have hbA : ¬ (fun q : Nat => s.heap.size ≤ q) b := Nat.not_le.mpr hbl
  refine lv_aload_n hx hb (dAt dL_25 0 rfl) rfl (lv_at hl 1 rfl) ?_
  refine y_calli CX hw hPM hd1 (x_runV (As := []) (rest := []) CX hw (kX6_never l EX hX  σ _ (hok σ τ  hR)) mtX6_never lk_L_117 (hX.1 0) (nX hX (by decide)) rfl ⟨by decide, by decide⟩ ⟨rfl, rfl⟩ rfl hl.1 rfl (Nat.le_of_ble_eq_true rfl) (dAt dL_25 1 rfl) ⟨Nat.le_of_ble_eq_true rfl, Nat.le_of_ble_eq_true rfl⟩) (fun r1 σ1 H locs h hw hPM => ?_)
  refine lv_aload_n hx hb (dAt dL_25 2 rfl) rfl (lv_at hl 2 rfl) ?_
  refine y_calli CM ⟨hPM, hw.2⟩ hw.1 hd2 (x_runV (As := []) (rest := [.int r1]) CM ⟨hPM, hw.2⟩ (kX7_never l EM hM  τ _ h) mtX7_never lk_L_120 (hM.1 0) (nM hM (by decide)) rfl ⟨by decide, by decide⟩ ⟨rfl, rfl⟩ rfl hl.1 rfl (Nat.le_of_ble_eq_true rfl) (dAt dL_25 3 rfl) ⟨Nat.le_of_ble_eq_true rfl, Nat.le_of_ble_eq_true rfl⟩) (fun r2 τ1 H locs h hwM hPX => ?_)
  refine lv_icmp_eq (tgt := 1283) hx hb (dAt dL_25 4 rfl) (by decide) (fun _ => ?_) (fun z => absurd h.1 z)
  exact hnext σ1 τ1 H locs ls ⟨hPX, hwM.2⟩ hwM.1 h.2 hl
def tL_26 : List (Nat × Instr × Nat) := [(862, .aload_n 1, 1), (863, .aload_n 0, 1), (864, .iload_n 3, 1), (865, .iconst 1, 1), (866, .iadd, 1), (867, .iaload, 1), (868, .invokevirtual 121, 3), (871, .aload_n 2, 1), (872, .aload_n 0, 1), (873, .iload_n 3, 1), (874, .iconst 1, 1), (875, .iadd, 1), (876, .iaload, 1), (877, .invokevirtual 124, 3), (880, .if_icmp .eq 403, 3), (883, .iconst 0, 1), (884, .ireturn, 1)]
theorem dL_26 : dOk cL_law tL_26 = true := by decide +kernel
set_option maxHeartbeats 4000000 in
set_option maxRecDepth 100000 in
theorem kL_26 {p : Program} {l : Launch} {e : Env} {s : State} {m : MethodId} {below : List Frame} {meth : Method} {c : Code} {b L : Nat} {xs : Nat → Int32} {EX EM : wE} {R : Mem → Mem → Prop} (hok : okL_26 R) (hL : L ≤ 3072) (CX : Cx p s m #[Value.ref b] c cL_law 4 RL EX (fun q : Nat => s.heap.size ≤ q)) (CM : Cx p s m #[Value.ref b] c cL_law 4 RL EM (fun q : Nat => s.heap.size ≤ q)) (hX : wX EX) (hM : wM EM) (hd1 : ∀ q, wA EX q → ¬ wA EM q) (hd2 : ∀ q, wA EM q → ¬ wA EX q) (hX0 : va_X b L xs s s.heap) (hbl : b < s.heap.size) {i : Nat} (hi6 : i + 6 ≤ L) {σ τ : Mem} {H : Heap} {locs : List Loc} {ls : Array Slot} (hw : wd EX (fun q : Nat => s.heap.size ≤ q) s σ H locs) (hPM : va_P EM.1 vwCl (wL EM τ) H) (hR : R σ τ) (hl : lv_has ls 4 [(0, .ref b), (1, .ref (gE EX 0)), (2, .ref (gE EM 0)), (3, .int (nI i))]) (hnext : ∀ (σ τ : Mem) (H : Heap) (locs : List Loc) (ls : Array Slot), wd EX (fun q : Nat => s.heap.size ≤ q) s σ H locs → va_P EM.1 vwCl (wL EM τ) H → R σ τ → lv_has ls 4 [(0, .ref b), (1, .ref (gE EX 0)), (2, .ref (gE EM 0)), (3, .int (nI i))] → W p l e room_1 s m #[Value.ref b] below meth c H locs 90 6406 (lw_Z below #[Value.ref b] s) (F0 m 1283 ls [])) : W p l e room_1 s m #[Value.ref b] below meth c H locs 90 6406 (lw_Z below #[Value.ref b] s) (F0 m 862 ls []) := by
  have hx := CX.1.1
  have hb := CX.1.2.1
  have hbA : ¬ (fun q : Nat => s.heap.size ≤ q) b := Nat.not_le.mpr hbl
  refine lv_aload_n hx hb (dAt dL_26 0 rfl) rfl (lv_at hl 1 rfl) ?_
  refine lv_aload_n hx hb (dAt dL_26 1 rfl) rfl (lv_at hl 0 rfl) ?_
  refine lv_iload_n hx hb (dAt dL_26 2 rfl) rfl (lv_at hl 3 rfl) ?_
  refine lv_iconst (v := 1) hx hb (dAt dL_26 3 rfl) (by decide) ?_
  refine lv_iadd hx hb (dAt dL_26 4 rfl) ?_
  refine va_sld hx hb hX0 hbl hbA hw.2 (lw_in hi6 hL 1 (by decide)) (dAt dL_26 5 rfl) ?_
  refine y_calli CX hw hPM hd1 (x_runV (As := [.int (xs (nI i + (1 : Int32)).toNatClampNeg)]) (rest := []) CX hw (kX6_ways l EX hX (xs (nI i + (1 : Int32)).toNatClampNeg) σ _ (hok σ τ (xs (nI i + (1 : Int32)).toNatClampNeg) hR)) mtX6_ways lk_L_121 (hX.1 0) (nX hX (by decide)) rfl ⟨by decide, by decide⟩ ⟨rfl, rfl⟩ rfl hl.1 rfl (Nat.le_of_ble_eq_true rfl) (dAt dL_26 6 rfl) ⟨Nat.le_of_ble_eq_true rfl, Nat.le_of_ble_eq_true rfl⟩) (fun r1 σ1 H locs h hw hPM => ?_)
  refine lv_aload_n hx hb (dAt dL_26 7 rfl) rfl (lv_at hl 2 rfl) ?_
  refine lv_aload_n hx hb (dAt dL_26 8 rfl) rfl (lv_at hl 0 rfl) ?_
  refine lv_iload_n hx hb (dAt dL_26 9 rfl) rfl (lv_at hl 3 rfl) ?_
  refine lv_iconst (v := 1) hx hb (dAt dL_26 10 rfl) (by decide) ?_
  refine lv_iadd hx hb (dAt dL_26 11 rfl) ?_
  refine va_sld hx hb hX0 hbl hbA hw.2 (lw_in hi6 hL 1 (by decide)) (dAt dL_26 12 rfl) ?_
  refine y_calli CM ⟨hPM, hw.2⟩ hw.1 hd2 (x_runV (As := [.int (xs (nI i + (1 : Int32)).toNatClampNeg)]) (rest := [.int r1]) CM ⟨hPM, hw.2⟩ (kX7_ways l EM hM (xs (nI i + (1 : Int32)).toNatClampNeg) τ _ h) mtX7_ways lk_L_124 (hM.1 0) (nM hM (by decide)) rfl ⟨by decide, by decide⟩ ⟨rfl, rfl⟩ rfl hl.1 rfl (Nat.le_of_ble_eq_true rfl) (dAt dL_26 13 rfl) ⟨Nat.le_of_ble_eq_true rfl, Nat.le_of_ble_eq_true rfl⟩) (fun r2 τ1 H locs h hwM hPX => ?_)
  refine lv_icmp_eq (tgt := 1283) hx hb (dAt dL_26 14 rfl) (by decide) (fun _ => ?_) (fun z => absurd h.1 z)
  exact hnext σ1 τ1 H locs ls ⟨hPX, hwM.2⟩ hwM.1 h.2 hl
def tL_27 : List (Nat × Instr × Nat) := [(885, .aload_n 1, 1), (886, .invokevirtual 125, 3), (889, .aload_n 2, 1), (890, .invokevirtual 128, 3), (893, .if_icmp .eq 390, 3), (896, .iconst 0, 1), (897, .ireturn, 1)]
theorem dL_27 : dOk cL_law tL_27 = true := by decide +kernel
set_option maxHeartbeats 4000000 in
set_option maxRecDepth 100000 in
theorem kL_27 {p : Program} {l : Launch} {e : Env} {s : State} {m : MethodId} {below : List Frame} {meth : Method} {c : Code} {b L : Nat} {xs : Nat → Int32} {EX EM : wE} {R : Mem → Mem → Prop} (hok : okL_27 R) (hL : L ≤ 3072) (CX : Cx p s m #[Value.ref b] c cL_law 4 RL EX (fun q : Nat => s.heap.size ≤ q)) (CM : Cx p s m #[Value.ref b] c cL_law 4 RL EM (fun q : Nat => s.heap.size ≤ q)) (hX : wX EX) (hM : wM EM) (hd1 : ∀ q, wA EX q → ¬ wA EM q) (hd2 : ∀ q, wA EM q → ¬ wA EX q) (hX0 : va_X b L xs s s.heap) (hbl : b < s.heap.size) {i : Nat} (hi6 : i + 6 ≤ L) {σ τ : Mem} {H : Heap} {locs : List Loc} {ls : Array Slot} (hw : wd EX (fun q : Nat => s.heap.size ≤ q) s σ H locs) (hPM : va_P EM.1 vwCl (wL EM τ) H) (hR : R σ τ) (hl : lv_has ls 4 [(0, .ref b), (1, .ref (gE EX 0)), (2, .ref (gE EM 0)), (3, .int (nI i))]) (hnext : ∀ (σ τ : Mem) (H : Heap) (locs : List Loc) (ls : Array Slot), wd EX (fun q : Nat => s.heap.size ≤ q) s σ H locs → va_P EM.1 vwCl (wL EM τ) H → R σ τ → lv_has ls 4 [(0, .ref b), (1, .ref (gE EX 0)), (2, .ref (gE EM 0)), (3, .int (nI i))] → W p l e room_1 s m #[Value.ref b] below meth c H locs 90 6406 (lw_Z below #[Value.ref b] s) (F0 m 1283 ls [])) : W p l e room_1 s m #[Value.ref b] below meth c H locs 90 6406 (lw_Z below #[Value.ref b] s) (F0 m 885 ls []) := by
  have hx := CX.1.1
  have hb := CX.1.2.1
  have hbA : ¬ (fun q : Nat => s.heap.size ≤ q) b := Nat.not_le.mpr hbl
  refine lv_aload_n hx hb (dAt dL_27 0 rfl) rfl (lv_at hl 1 rfl) ?_
  refine y_calli CX hw hPM hd1 (x_runV (As := []) (rest := []) CX hw (kX6_lengths l EX hX  σ _ (hok σ τ  hR)) mtX6_lengths lk_L_125 (hX.1 0) (nX hX (by decide)) rfl ⟨by decide, by decide⟩ ⟨rfl, rfl⟩ rfl hl.1 rfl (Nat.le_of_ble_eq_true rfl) (dAt dL_27 1 rfl) ⟨Nat.le_of_ble_eq_true rfl, Nat.le_of_ble_eq_true rfl⟩) (fun r1 σ1 H locs h hw hPM => ?_)
  refine lv_aload_n hx hb (dAt dL_27 2 rfl) rfl (lv_at hl 2 rfl) ?_
  refine y_calli CM ⟨hPM, hw.2⟩ hw.1 hd2 (x_runV (As := []) (rest := [.int r1]) CM ⟨hPM, hw.2⟩ (kX7_lengths l EM hM  τ _ h) mtX7_lengths lk_L_128 (hM.1 0) (nM hM (by decide)) rfl ⟨by decide, by decide⟩ ⟨rfl, rfl⟩ rfl hl.1 rfl (Nat.le_of_ble_eq_true rfl) (dAt dL_27 3 rfl) ⟨Nat.le_of_ble_eq_true rfl, Nat.le_of_ble_eq_true rfl⟩) (fun r2 τ1 H locs h hwM hPX => ?_)
  refine lv_icmp_eq (tgt := 1283) hx hb (dAt dL_27 4 rfl) (by decide) (fun _ => ?_) (fun z => absurd h.1 z)
  exact hnext σ1 τ1 H locs ls ⟨hPX, hwM.2⟩ hwM.1 h.2 hl
def tL_28 : List (Nat × Instr × Nat) := [(898, .aload_n 1, 1), (899, .invokevirtual 129, 3), (902, .aload_n 2, 1), (903, .invokevirtual 132, 3), (906, .if_icmp .eq 377, 3), (909, .iconst 0, 1), (910, .ireturn, 1)]
theorem dL_28 : dOk cL_law tL_28 = true := by decide +kernel
set_option maxHeartbeats 4000000 in
set_option maxRecDepth 100000 in
theorem kL_28 {p : Program} {l : Launch} {e : Env} {s : State} {m : MethodId} {below : List Frame} {meth : Method} {c : Code} {b L : Nat} {xs : Nat → Int32} {EX EM : wE} {R : Mem → Mem → Prop} (hok : okL_28 R) (hL : L ≤ 3072) (CX : Cx p s m #[Value.ref b] c cL_law 4 RL EX (fun q : Nat => s.heap.size ≤ q)) (CM : Cx p s m #[Value.ref b] c cL_law 4 RL EM (fun q : Nat => s.heap.size ≤ q)) (hX : wX EX) (hM : wM EM) (hd1 : ∀ q, wA EX q → ¬ wA EM q) (hd2 : ∀ q, wA EM q → ¬ wA EX q) (hX0 : va_X b L xs s s.heap) (hbl : b < s.heap.size) {i : Nat} (hi6 : i + 6 ≤ L) {σ τ : Mem} {H : Heap} {locs : List Loc} {ls : Array Slot} (hw : wd EX (fun q : Nat => s.heap.size ≤ q) s σ H locs) (hPM : va_P EM.1 vwCl (wL EM τ) H) (hR : R σ τ) (hl : lv_has ls 4 [(0, .ref b), (1, .ref (gE EX 0)), (2, .ref (gE EM 0)), (3, .int (nI i))]) (hnext : ∀ (σ τ : Mem) (H : Heap) (locs : List Loc) (ls : Array Slot), wd EX (fun q : Nat => s.heap.size ≤ q) s σ H locs → va_P EM.1 vwCl (wL EM τ) H → R σ τ → lv_has ls 4 [(0, .ref b), (1, .ref (gE EX 0)), (2, .ref (gE EM 0)), (3, .int (nI i))] → W p l e room_1 s m #[Value.ref b] below meth c H locs 90 6406 (lw_Z below #[Value.ref b] s) (F0 m 1283 ls [])) : W p l e room_1 s m #[Value.ref b] below meth c H locs 90 6406 (lw_Z below #[Value.ref b] s) (F0 m 898 ls []) := by
  have hx := CX.1.1
  have hb := CX.1.2.1
  have hbA : ¬ (fun q : Nat => s.heap.size ≤ q) b := Nat.not_le.mpr hbl
  refine lv_aload_n hx hb (dAt dL_28 0 rfl) rfl (lv_at hl 1 rfl) ?_
  refine y_calli CX hw hPM hd1 (x_runV (As := []) (rest := []) CX hw (kX6_ask l EX hX  σ _ (hok σ τ  hR)) mtX6_ask lk_L_129 (hX.1 0) (nX hX (by decide)) rfl ⟨by decide, by decide⟩ ⟨rfl, rfl⟩ rfl hl.1 rfl (Nat.le_of_ble_eq_true rfl) (dAt dL_28 1 rfl) ⟨Nat.le_of_ble_eq_true rfl, Nat.le_of_ble_eq_true rfl⟩) (fun r1 σ1 H locs h hw hPM => ?_)
  refine lv_aload_n hx hb (dAt dL_28 2 rfl) rfl (lv_at hl 2 rfl) ?_
  refine y_calli CM ⟨hPM, hw.2⟩ hw.1 hd2 (x_runV (As := []) (rest := [.int r1]) CM ⟨hPM, hw.2⟩ (kX7_ask l EM hM  τ _ h) mtX7_ask lk_L_132 (hM.1 0) (nM hM (by decide)) rfl ⟨by decide, by decide⟩ ⟨rfl, rfl⟩ rfl hl.1 rfl (Nat.le_of_ble_eq_true rfl) (dAt dL_28 3 rfl) ⟨Nat.le_of_ble_eq_true rfl, Nat.le_of_ble_eq_true rfl⟩) (fun r2 τ1 H locs h hwM hPX => ?_)
  refine lv_icmp_eq (tgt := 1283) hx hb (dAt dL_28 4 rfl) (by decide) (fun _ => ?_) (fun z => absurd h.1 z)
  exact hnext σ1 τ1 H locs ls ⟨hPX, hwM.2⟩ hwM.1 h.2 hl
def tL_29 : List (Nat × Instr × Nat) := [(911, .aload_n 1, 1), (912, .aload_n 0, 1), (913, .iload_n 3, 1), (914, .iconst 1, 1), (915, .iadd, 1), (916, .iaload, 1), (917, .aload_n 0, 1), (918, .iload_n 3, 1), (919, .iconst 2, 1), (920, .iadd, 1), (921, .iaload, 1), (922, .aload_n 0, 1), (923, .iload_n 3, 1), (924, .iconst 3, 1), (925, .iadd, 1), (926, .iaload, 1), (927, .invokevirtual 133, 3), (930, .aload_n 2, 1), (931, .aload_n 0, 1), (932, .iload_n 3, 1), (933, .iconst 1, 1), (934, .iadd, 1), (935, .iaload, 1), (936, .aload_n 0, 1), (937, .iload_n 3, 1), (938, .iconst 2, 1), (939, .iadd, 1), (940, .iaload, 1), (941, .aload_n 0, 1), (942, .iload_n 3, 1), (943, .iconst 3, 1), (944, .iadd, 1), (945, .iaload, 1), (946, .invokevirtual 137, 3), (949, .lcmp, 1), (950, .ifCond .eq 333, 3), (953, .iconst 0, 1), (954, .ireturn, 1)]
theorem dL_29 : dOk cL_law tL_29 = true := by decide +kernel
set_option maxHeartbeats 4000000 in
set_option maxRecDepth 100000 in
theorem kL_29 {p : Program} {l : Launch} {e : Env} {s : State} {m : MethodId} {below : List Frame} {meth : Method} {c : Code} {b L : Nat} {xs : Nat → Int32} {EX EM : wE} {R : Mem → Mem → Prop} (hok : okL_29 R) (hL : L ≤ 3072) (CX : Cx p s m #[Value.ref b] c cL_law 4 RL EX (fun q : Nat => s.heap.size ≤ q)) (CM : Cx p s m #[Value.ref b] c cL_law 4 RL EM (fun q : Nat => s.heap.size ≤ q)) (hX : wX EX) (hM : wM EM) (hd1 : ∀ q, wA EX q → ¬ wA EM q) (hd2 : ∀ q, wA EM q → ¬ wA EX q) (hX0 : va_X b L xs s s.heap) (hbl : b < s.heap.size) {i : Nat} (hi6 : i + 6 ≤ L) {σ τ : Mem} {H : Heap} {locs : List Loc} {ls : Array Slot} (hw : wd EX (fun q : Nat => s.heap.size ≤ q) s σ H locs) (hPM : va_P EM.1 vwCl (wL EM τ) H) (hR : R σ τ) (hl : lv_has ls 4 [(0, .ref b), (1, .ref (gE EX 0)), (2, .ref (gE EM 0)), (3, .int (nI i))]) (hnext : ∀ (σ τ : Mem) (H : Heap) (locs : List Loc) (ls : Array Slot), wd EX (fun q : Nat => s.heap.size ≤ q) s σ H locs → va_P EM.1 vwCl (wL EM τ) H → R σ τ → lv_has ls 4 [(0, .ref b), (1, .ref (gE EX 0)), (2, .ref (gE EM 0)), (3, .int (nI i))] → W p l e room_1 s m #[Value.ref b] below meth c H locs 90 6406 (lw_Z below #[Value.ref b] s) (F0 m 1283 ls [])) : W p l e room_1 s m #[Value.ref b] below meth c H locs 90 6406 (lw_Z below #[Value.ref b] s) (F0 m 911 ls []) := by
  have hx := CX.1.1
  have hb := CX.1.2.1
  have hbA : ¬ (fun q : Nat => s.heap.size ≤ q) b := Nat.not_le.mpr hbl
  refine lv_aload_n hx hb (dAt dL_29 0 rfl) rfl (lv_at hl 1 rfl) ?_
  refine lv_aload_n hx hb (dAt dL_29 1 rfl) rfl (lv_at hl 0 rfl) ?_
  refine lv_iload_n hx hb (dAt dL_29 2 rfl) rfl (lv_at hl 3 rfl) ?_
  refine lv_iconst (v := 1) hx hb (dAt dL_29 3 rfl) (by decide) ?_
  refine lv_iadd hx hb (dAt dL_29 4 rfl) ?_
  refine va_sld hx hb hX0 hbl hbA hw.2 (lw_in hi6 hL 1 (by decide)) (dAt dL_29 5 rfl) ?_
  refine lv_aload_n hx hb (dAt dL_29 6 rfl) rfl (lv_at hl 0 rfl) ?_
  refine lv_iload_n hx hb (dAt dL_29 7 rfl) rfl (lv_at hl 3 rfl) ?_
  refine lv_iconst (v := 2) hx hb (dAt dL_29 8 rfl) (by decide) ?_
  refine lv_iadd hx hb (dAt dL_29 9 rfl) ?_
  refine va_sld hx hb hX0 hbl hbA hw.2 (lw_in hi6 hL 2 (by decide)) (dAt dL_29 10 rfl) ?_
  refine lv_aload_n hx hb (dAt dL_29 11 rfl) rfl (lv_at hl 0 rfl) ?_
  refine lv_iload_n hx hb (dAt dL_29 12 rfl) rfl (lv_at hl 3 rfl) ?_
  refine lv_iconst (v := 3) hx hb (dAt dL_29 13 rfl) (by decide) ?_
  refine lv_iadd hx hb (dAt dL_29 14 rfl) ?_
  refine va_sld hx hb hX0 hbl hbA hw.2 (lw_in hi6 hL 3 (by decide)) (dAt dL_29 15 rfl) ?_
  refine y_calll CX hw hPM hd1 (x_runV (As := [.int (xs (nI i + (1 : Int32)).toNatClampNeg), .int (xs (nI i + (2 : Int32)).toNatClampNeg), .int (xs (nI i + (3 : Int32)).toNatClampNeg)]) (rest := []) CX hw (kX6_chance l EX hX (xs (nI i + (1 : Int32)).toNatClampNeg) (xs (nI i + (2 : Int32)).toNatClampNeg) (xs (nI i + (3 : Int32)).toNatClampNeg) σ _ (hok σ τ (xs (nI i + (1 : Int32)).toNatClampNeg) (xs (nI i + (2 : Int32)).toNatClampNeg) (xs (nI i + (3 : Int32)).toNatClampNeg) hR)) mtX6_chance lk_L_133 (hX.1 0) (nX hX (by decide)) rfl ⟨by decide, by decide⟩ ⟨rfl, rfl⟩ rfl hl.1 rfl (Nat.le_of_ble_eq_true rfl) (dAt dL_29 16 rfl) ⟨Nat.le_of_ble_eq_true rfl, Nat.le_of_ble_eq_true rfl⟩) (fun r1 σ1 H locs h hw hPM => ?_)
  refine lv_aload_n hx hb (dAt dL_29 17 rfl) rfl (lv_at hl 2 rfl) ?_
  refine lv_aload_n hx hb (dAt dL_29 18 rfl) rfl (lv_at hl 0 rfl) ?_
  refine lv_iload_n hx hb (dAt dL_29 19 rfl) rfl (lv_at hl 3 rfl) ?_
  refine lv_iconst (v := 1) hx hb (dAt dL_29 20 rfl) (by decide) ?_
  refine lv_iadd hx hb (dAt dL_29 21 rfl) ?_
  refine va_sld hx hb hX0 hbl hbA hw.2 (lw_in hi6 hL 1 (by decide)) (dAt dL_29 22 rfl) ?_
  refine lv_aload_n hx hb (dAt dL_29 23 rfl) rfl (lv_at hl 0 rfl) ?_
  refine lv_iload_n hx hb (dAt dL_29 24 rfl) rfl (lv_at hl 3 rfl) ?_
  refine lv_iconst (v := 2) hx hb (dAt dL_29 25 rfl) (by decide) ?_
  refine lv_iadd hx hb (dAt dL_29 26 rfl) ?_
  refine va_sld hx hb hX0 hbl hbA hw.2 (lw_in hi6 hL 2 (by decide)) (dAt dL_29 27 rfl) ?_
  refine lv_aload_n hx hb (dAt dL_29 28 rfl) rfl (lv_at hl 0 rfl) ?_
  refine lv_iload_n hx hb (dAt dL_29 29 rfl) rfl (lv_at hl 3 rfl) ?_
  refine lv_iconst (v := 3) hx hb (dAt dL_29 30 rfl) (by decide) ?_
  refine lv_iadd hx hb (dAt dL_29 31 rfl) ?_
  refine va_sld hx hb hX0 hbl hbA hw.2 (lw_in hi6 hL 3 (by decide)) (dAt dL_29 32 rfl) ?_
  refine y_calll CM ⟨hPM, hw.2⟩ hw.1 hd2 (x_runV (As := [.int (xs (nI i + (1 : Int32)).toNatClampNeg), .int (xs (nI i + (2 : Int32)).toNatClampNeg), .int (xs (nI i + (3 : Int32)).toNatClampNeg)]) (rest := [.long r1]) CM ⟨hPM, hw.2⟩ (kX7_chance l EM hM (xs (nI i + (1 : Int32)).toNatClampNeg) (xs (nI i + (2 : Int32)).toNatClampNeg) (xs (nI i + (3 : Int32)).toNatClampNeg) τ _ h) mtX7_chance lk_L_137 (hM.1 0) (nM hM (by decide)) rfl ⟨by decide, by decide⟩ ⟨rfl, rfl⟩ rfl hl.1 rfl (Nat.le_of_ble_eq_true rfl) (dAt dL_29 33 rfl) ⟨Nat.le_of_ble_eq_true rfl, Nat.le_of_ble_eq_true rfl⟩) (fun r2 τ1 H locs h hwM hPX => ?_)
  refine W.lcmp hx hb (dAt dL_29 34 rfl) ?_
  refine lv_if_eq (tgt := 1283) hx hb (dAt dL_29 35 rfl) (by decide) (fun _ => ?_) (fun z => absurd ((lg_cmp_eq _ _).mpr h.1) z)
  exact hnext σ1 τ1 H locs ls ⟨hPX, hwM.2⟩ hwM.1 h.2 hl
def tL_30 : List (Nat × Instr × Nat) := [(955, .aload_n 1, 1), (956, .aload_n 0, 1), (957, .iload_n 3, 1), (958, .iconst 1, 1), (959, .iadd, 1), (960, .iaload, 1), (961, .aload_n 0, 1), (962, .iload_n 3, 1), (963, .iconst 2, 1), (964, .iadd, 1), (965, .iaload, 1), (966, .aload_n 0, 1), (967, .iload_n 3, 1), (968, .iconst 3, 1), (969, .iadd, 1), (970, .iaload, 1), (971, .invokevirtual 138, 3), (974, .aload_n 2, 1), (975, .aload_n 0, 1), (976, .iload_n 3, 1), (977, .iconst 1, 1), (978, .iadd, 1), (979, .iaload, 1), (980, .aload_n 0, 1), (981, .iload_n 3, 1), (982, .iconst 2, 1), (983, .iadd, 1), (984, .iaload, 1), (985, .aload_n 0, 1), (986, .iload_n 3, 1), (987, .iconst 3, 1), (988, .iadd, 1), (989, .iaload, 1), (990, .invokevirtual 141, 3), (993, .if_icmp .eq 290, 3), (996, .iconst 0, 1), (997, .ireturn, 1)]
theorem dL_30 : dOk cL_law tL_30 = true := by decide +kernel
set_option maxHeartbeats 4000000 in
set_option maxRecDepth 100000 in
theorem kL_30 {p : Program} {l : Launch} {e : Env} {s : State} {m : MethodId} {below : List Frame} {meth : Method} {c : Code} {b L : Nat} {xs : Nat → Int32} {EX EM : wE} {R : Mem → Mem → Prop} (hok : okL_30 R) (hL : L ≤ 3072) (CX : Cx p s m #[Value.ref b] c cL_law 4 RL EX (fun q : Nat => s.heap.size ≤ q)) (CM : Cx p s m #[Value.ref b] c cL_law 4 RL EM (fun q : Nat => s.heap.size ≤ q)) (hX : wX EX) (hM : wM EM) (hd1 : ∀ q, wA EX q → ¬ wA EM q) (hd2 : ∀ q, wA EM q → ¬ wA EX q) (hX0 : va_X b L xs s s.heap) (hbl : b < s.heap.size) {i : Nat} (hi6 : i + 6 ≤ L) {σ τ : Mem} {H : Heap} {locs : List Loc} {ls : Array Slot} (hw : wd EX (fun q : Nat => s.heap.size ≤ q) s σ H locs) (hPM : va_P EM.1 vwCl (wL EM τ) H) (hR : R σ τ) (hl : lv_has ls 4 [(0, .ref b), (1, .ref (gE EX 0)), (2, .ref (gE EM 0)), (3, .int (nI i))]) (hnext : ∀ (σ τ : Mem) (H : Heap) (locs : List Loc) (ls : Array Slot), wd EX (fun q : Nat => s.heap.size ≤ q) s σ H locs → va_P EM.1 vwCl (wL EM τ) H → R σ τ → lv_has ls 4 [(0, .ref b), (1, .ref (gE EX 0)), (2, .ref (gE EM 0)), (3, .int (nI i))] → W p l e room_1 s m #[Value.ref b] below meth c H locs 90 6406 (lw_Z below #[Value.ref b] s) (F0 m 1283 ls [])) : W p l e room_1 s m #[Value.ref b] below meth c H locs 90 6406 (lw_Z below #[Value.ref b] s) (F0 m 955 ls []) := by
  have hx := CX.1.1
  have hb := CX.1.2.1
  have hbA : ¬ (fun q : Nat => s.heap.size ≤ q) b := Nat.not_le.mpr hbl
  refine lv_aload_n hx hb (dAt dL_30 0 rfl) rfl (lv_at hl 1 rfl) ?_
  refine lv_aload_n hx hb (dAt dL_30 1 rfl) rfl (lv_at hl 0 rfl) ?_
  refine lv_iload_n hx hb (dAt dL_30 2 rfl) rfl (lv_at hl 3 rfl) ?_
  refine lv_iconst (v := 1) hx hb (dAt dL_30 3 rfl) (by decide) ?_
  refine lv_iadd hx hb (dAt dL_30 4 rfl) ?_
  refine va_sld hx hb hX0 hbl hbA hw.2 (lw_in hi6 hL 1 (by decide)) (dAt dL_30 5 rfl) ?_
  refine lv_aload_n hx hb (dAt dL_30 6 rfl) rfl (lv_at hl 0 rfl) ?_
  refine lv_iload_n hx hb (dAt dL_30 7 rfl) rfl (lv_at hl 3 rfl) ?_
  refine lv_iconst (v := 2) hx hb (dAt dL_30 8 rfl) (by decide) ?_
  refine lv_iadd hx hb (dAt dL_30 9 rfl) ?_
  refine va_sld hx hb hX0 hbl hbA hw.2 (lw_in hi6 hL 2 (by decide)) (dAt dL_30 10 rfl) ?_
  refine lv_aload_n hx hb (dAt dL_30 11 rfl) rfl (lv_at hl 0 rfl) ?_
  refine lv_iload_n hx hb (dAt dL_30 12 rfl) rfl (lv_at hl 3 rfl) ?_
  refine lv_iconst (v := 3) hx hb (dAt dL_30 13 rfl) (by decide) ?_
  refine lv_iadd hx hb (dAt dL_30 14 rfl) ?_
  refine va_sld hx hb hX0 hbl hbA hw.2 (lw_in hi6 hL 3 (by decide)) (dAt dL_30 15 rfl) ?_
  refine y_calli CX hw hPM hd1 (x_runV (As := [.int (xs (nI i + (1 : Int32)).toNatClampNeg), .int (xs (nI i + (2 : Int32)).toNatClampNeg), .int (xs (nI i + (3 : Int32)).toNatClampNeg)]) (rest := []) CX hw (kX6_dances l EX hX (xs (nI i + (1 : Int32)).toNatClampNeg) (xs (nI i + (2 : Int32)).toNatClampNeg) (xs (nI i + (3 : Int32)).toNatClampNeg) σ _ (hok σ τ (xs (nI i + (1 : Int32)).toNatClampNeg) (xs (nI i + (2 : Int32)).toNatClampNeg) (xs (nI i + (3 : Int32)).toNatClampNeg) hR)) mtX6_dances lk_L_138 (hX.1 0) (nX hX (by decide)) rfl ⟨by decide, by decide⟩ ⟨rfl, rfl⟩ rfl hl.1 rfl (Nat.le_of_ble_eq_true rfl) (dAt dL_30 16 rfl) ⟨Nat.le_of_ble_eq_true rfl, Nat.le_of_ble_eq_true rfl⟩) (fun r1 σ1 H locs h hw hPM => ?_)
  refine lv_aload_n hx hb (dAt dL_30 17 rfl) rfl (lv_at hl 2 rfl) ?_
  refine lv_aload_n hx hb (dAt dL_30 18 rfl) rfl (lv_at hl 0 rfl) ?_
  refine lv_iload_n hx hb (dAt dL_30 19 rfl) rfl (lv_at hl 3 rfl) ?_
  refine lv_iconst (v := 1) hx hb (dAt dL_30 20 rfl) (by decide) ?_
  refine lv_iadd hx hb (dAt dL_30 21 rfl) ?_
  refine va_sld hx hb hX0 hbl hbA hw.2 (lw_in hi6 hL 1 (by decide)) (dAt dL_30 22 rfl) ?_
  refine lv_aload_n hx hb (dAt dL_30 23 rfl) rfl (lv_at hl 0 rfl) ?_
  refine lv_iload_n hx hb (dAt dL_30 24 rfl) rfl (lv_at hl 3 rfl) ?_
  refine lv_iconst (v := 2) hx hb (dAt dL_30 25 rfl) (by decide) ?_
  refine lv_iadd hx hb (dAt dL_30 26 rfl) ?_
  refine va_sld hx hb hX0 hbl hbA hw.2 (lw_in hi6 hL 2 (by decide)) (dAt dL_30 27 rfl) ?_
  refine lv_aload_n hx hb (dAt dL_30 28 rfl) rfl (lv_at hl 0 rfl) ?_
  refine lv_iload_n hx hb (dAt dL_30 29 rfl) rfl (lv_at hl 3 rfl) ?_
  refine lv_iconst (v := 3) hx hb (dAt dL_30 30 rfl) (by decide) ?_
  refine lv_iadd hx hb (dAt dL_30 31 rfl) ?_
  refine va_sld hx hb hX0 hbl hbA hw.2 (lw_in hi6 hL 3 (by decide)) (dAt dL_30 32 rfl) ?_
  refine y_calli CM ⟨hPM, hw.2⟩ hw.1 hd2 (x_runV (As := [.int (xs (nI i + (1 : Int32)).toNatClampNeg), .int (xs (nI i + (2 : Int32)).toNatClampNeg), .int (xs (nI i + (3 : Int32)).toNatClampNeg)]) (rest := [.int r1]) CM ⟨hPM, hw.2⟩ (kX7_dances l EM hM (xs (nI i + (1 : Int32)).toNatClampNeg) (xs (nI i + (2 : Int32)).toNatClampNeg) (xs (nI i + (3 : Int32)).toNatClampNeg) τ _ h) mtX7_dances lk_L_141 (hM.1 0) (nM hM (by decide)) rfl ⟨by decide, by decide⟩ ⟨rfl, rfl⟩ rfl hl.1 rfl (Nat.le_of_ble_eq_true rfl) (dAt dL_30 33 rfl) ⟨Nat.le_of_ble_eq_true rfl, Nat.le_of_ble_eq_true rfl⟩) (fun r2 τ1 H locs h hwM hPX => ?_)
  refine lv_icmp_eq (tgt := 1283) hx hb (dAt dL_30 34 rfl) (by decide) (fun _ => ?_) (fun z => absurd h.1 z)
  exact hnext σ1 τ1 H locs ls ⟨hPX, hwM.2⟩ hwM.1 h.2 hl
def tL_31 : List (Nat × Instr × Nat) := [(998, .aload_n 1, 1), (999, .aload_n 0, 1), (1000, .iload_n 3, 1), (1001, .iconst 1, 1), (1002, .iadd, 1), (1003, .iaload, 1), (1004, .aload_n 0, 1), (1005, .iload_n 3, 1), (1006, .iconst 2, 1), (1007, .iadd, 1), (1008, .iaload, 1), (1009, .aload_n 0, 1), (1010, .iload_n 3, 1), (1011, .iconst 3, 1), (1012, .iadd, 1), (1013, .iaload, 1), (1014, .invokevirtual 142, 3), (1017, .aload_n 2, 1), (1018, .aload_n 0, 1), (1019, .iload_n 3, 1), (1020, .iconst 1, 1), (1021, .iadd, 1), (1022, .iaload, 1), (1023, .aload_n 0, 1), (1024, .iload_n 3, 1), (1025, .iconst 2, 1), (1026, .iadd, 1), (1027, .iaload, 1), (1028, .aload_n 0, 1), (1029, .iload_n 3, 1), (1030, .iconst 3, 1), (1031, .iadd, 1), (1032, .iaload, 1), (1033, .invokevirtual 145, 3), (1036, .if_icmp .eq 247, 3), (1039, .iconst 0, 1), (1040, .ireturn, 1)]
theorem dL_31 : dOk cL_law tL_31 = true := by decide +kernel
set_option maxHeartbeats 4000000 in
set_option maxRecDepth 100000 in
theorem kL_31 {p : Program} {l : Launch} {e : Env} {s : State} {m : MethodId} {below : List Frame} {meth : Method} {c : Code} {b L : Nat} {xs : Nat → Int32} {EX EM : wE} {R : Mem → Mem → Prop} (hok : okL_31 R) (hL : L ≤ 3072) (CX : Cx p s m #[Value.ref b] c cL_law 4 RL EX (fun q : Nat => s.heap.size ≤ q)) (CM : Cx p s m #[Value.ref b] c cL_law 4 RL EM (fun q : Nat => s.heap.size ≤ q)) (hX : wX EX) (hM : wM EM) (hd1 : ∀ q, wA EX q → ¬ wA EM q) (hd2 : ∀ q, wA EM q → ¬ wA EX q) (hX0 : va_X b L xs s s.heap) (hbl : b < s.heap.size) {i : Nat} (hi6 : i + 6 ≤ L) {σ τ : Mem} {H : Heap} {locs : List Loc} {ls : Array Slot} (hw : wd EX (fun q : Nat => s.heap.size ≤ q) s σ H locs) (hPM : va_P EM.1 vwCl (wL EM τ) H) (hR : R σ τ) (hl : lv_has ls 4 [(0, .ref b), (1, .ref (gE EX 0)), (2, .ref (gE EM 0)), (3, .int (nI i))]) (hnext : ∀ (σ τ : Mem) (H : Heap) (locs : List Loc) (ls : Array Slot), wd EX (fun q : Nat => s.heap.size ≤ q) s σ H locs → va_P EM.1 vwCl (wL EM τ) H → R σ τ → lv_has ls 4 [(0, .ref b), (1, .ref (gE EX 0)), (2, .ref (gE EM 0)), (3, .int (nI i))] → W p l e room_1 s m #[Value.ref b] below meth c H locs 90 6406 (lw_Z below #[Value.ref b] s) (F0 m 1283 ls [])) : W p l e room_1 s m #[Value.ref b] below meth c H locs 90 6406 (lw_Z below #[Value.ref b] s) (F0 m 998 ls []) := by
  have hx := CX.1.1
  have hb := CX.1.2.1
  have hbA : ¬ (fun q : Nat => s.heap.size ≤ q) b := Nat.not_le.mpr hbl
  refine lv_aload_n hx hb (dAt dL_31 0 rfl) rfl (lv_at hl 1 rfl) ?_
  refine lv_aload_n hx hb (dAt dL_31 1 rfl) rfl (lv_at hl 0 rfl) ?_
  refine lv_iload_n hx hb (dAt dL_31 2 rfl) rfl (lv_at hl 3 rfl) ?_
  refine lv_iconst (v := 1) hx hb (dAt dL_31 3 rfl) (by decide) ?_
  refine lv_iadd hx hb (dAt dL_31 4 rfl) ?_
  refine va_sld hx hb hX0 hbl hbA hw.2 (lw_in hi6 hL 1 (by decide)) (dAt dL_31 5 rfl) ?_
  refine lv_aload_n hx hb (dAt dL_31 6 rfl) rfl (lv_at hl 0 rfl) ?_
  refine lv_iload_n hx hb (dAt dL_31 7 rfl) rfl (lv_at hl 3 rfl) ?_
  refine lv_iconst (v := 2) hx hb (dAt dL_31 8 rfl) (by decide) ?_
  refine lv_iadd hx hb (dAt dL_31 9 rfl) ?_
  refine va_sld hx hb hX0 hbl hbA hw.2 (lw_in hi6 hL 2 (by decide)) (dAt dL_31 10 rfl) ?_
  refine lv_aload_n hx hb (dAt dL_31 11 rfl) rfl (lv_at hl 0 rfl) ?_
  refine lv_iload_n hx hb (dAt dL_31 12 rfl) rfl (lv_at hl 3 rfl) ?_
  refine lv_iconst (v := 3) hx hb (dAt dL_31 13 rfl) (by decide) ?_
  refine lv_iadd hx hb (dAt dL_31 14 rfl) ?_
  refine va_sld hx hb hX0 hbl hbA hw.2 (lw_in hi6 hL 3 (by decide)) (dAt dL_31 15 rfl) ?_
  refine y_calli CX hw hPM hd1 (x_runV (As := [.int (xs (nI i + (1 : Int32)).toNatClampNeg), .int (xs (nI i + (2 : Int32)).toNatClampNeg), .int (xs (nI i + (3 : Int32)).toNatClampNeg)]) (rest := []) CX hw (kX6_sheet l EX hX (xs (nI i + (1 : Int32)).toNatClampNeg) (xs (nI i + (2 : Int32)).toNatClampNeg) (xs (nI i + (3 : Int32)).toNatClampNeg) σ _ (hok σ τ (xs (nI i + (1 : Int32)).toNatClampNeg) (xs (nI i + (2 : Int32)).toNatClampNeg) (xs (nI i + (3 : Int32)).toNatClampNeg) hR)) mtX6_sheet lk_L_142 (hX.1 0) (nX hX (by decide)) rfl ⟨by decide, by decide⟩ ⟨rfl, rfl⟩ rfl hl.1 rfl (Nat.le_of_ble_eq_true rfl) (dAt dL_31 16 rfl) ⟨Nat.le_of_ble_eq_true rfl, Nat.le_of_ble_eq_true rfl⟩) (fun r1 σ1 H locs h hw hPM => ?_)
  refine lv_aload_n hx hb (dAt dL_31 17 rfl) rfl (lv_at hl 2 rfl) ?_
  refine lv_aload_n hx hb (dAt dL_31 18 rfl) rfl (lv_at hl 0 rfl) ?_
  refine lv_iload_n hx hb (dAt dL_31 19 rfl) rfl (lv_at hl 3 rfl) ?_
  refine lv_iconst (v := 1) hx hb (dAt dL_31 20 rfl) (by decide) ?_
  refine lv_iadd hx hb (dAt dL_31 21 rfl) ?_
  refine va_sld hx hb hX0 hbl hbA hw.2 (lw_in hi6 hL 1 (by decide)) (dAt dL_31 22 rfl) ?_
  refine lv_aload_n hx hb (dAt dL_31 23 rfl) rfl (lv_at hl 0 rfl) ?_
  refine lv_iload_n hx hb (dAt dL_31 24 rfl) rfl (lv_at hl 3 rfl) ?_
  refine lv_iconst (v := 2) hx hb (dAt dL_31 25 rfl) (by decide) ?_
  refine lv_iadd hx hb (dAt dL_31 26 rfl) ?_
  refine va_sld hx hb hX0 hbl hbA hw.2 (lw_in hi6 hL 2 (by decide)) (dAt dL_31 27 rfl) ?_
  refine lv_aload_n hx hb (dAt dL_31 28 rfl) rfl (lv_at hl 0 rfl) ?_
  refine lv_iload_n hx hb (dAt dL_31 29 rfl) rfl (lv_at hl 3 rfl) ?_
  refine lv_iconst (v := 3) hx hb (dAt dL_31 30 rfl) (by decide) ?_
  refine lv_iadd hx hb (dAt dL_31 31 rfl) ?_
  refine va_sld hx hb hX0 hbl hbA hw.2 (lw_in hi6 hL 3 (by decide)) (dAt dL_31 32 rfl) ?_
  refine y_calli CM ⟨hPM, hw.2⟩ hw.1 hd2 (x_runV (As := [.int (xs (nI i + (1 : Int32)).toNatClampNeg), .int (xs (nI i + (2 : Int32)).toNatClampNeg), .int (xs (nI i + (3 : Int32)).toNatClampNeg)]) (rest := [.int r1]) CM ⟨hPM, hw.2⟩ (kX7_sheet l EM hM (xs (nI i + (1 : Int32)).toNatClampNeg) (xs (nI i + (2 : Int32)).toNatClampNeg) (xs (nI i + (3 : Int32)).toNatClampNeg) τ _ h) mtX7_sheet lk_L_145 (hM.1 0) (nM hM (by decide)) rfl ⟨by decide, by decide⟩ ⟨rfl, rfl⟩ rfl hl.1 rfl (Nat.le_of_ble_eq_true rfl) (dAt dL_31 33 rfl) ⟨Nat.le_of_ble_eq_true rfl, Nat.le_of_ble_eq_true rfl⟩) (fun r2 τ1 H locs h hwM hPX => ?_)
  refine lv_icmp_eq (tgt := 1283) hx hb (dAt dL_31 34 rfl) (by decide) (fun _ => ?_) (fun z => absurd h.1 z)
  exact hnext σ1 τ1 H locs ls ⟨hPX, hwM.2⟩ hwM.1 h.2 hl
def tL_32 : List (Nat × Instr × Nat) := [(1041, .aload_n 1, 1), (1042, .aload_n 0, 1), (1043, .iload_n 3, 1), (1044, .iconst 1, 1), (1045, .iadd, 1), (1046, .iaload, 1), (1047, .invokevirtual 146, 3), (1050, .aload_n 2, 1), (1051, .aload_n 0, 1), (1052, .iload_n 3, 1), (1053, .iconst 1, 1), (1054, .iadd, 1), (1055, .iaload, 1), (1056, .invokevirtual 149, 3), (1059, .if_icmp .eq 224, 3), (1062, .iconst 0, 1), (1063, .ireturn, 1)]
theorem dL_32 : dOk cL_law tL_32 = true := by decide +kernel
set_option maxHeartbeats 4000000 in
set_option maxRecDepth 100000 in
theorem kL_32 {p : Program} {l : Launch} {e : Env} {s : State} {m : MethodId} {below : List Frame} {meth : Method} {c : Code} {b L : Nat} {xs : Nat → Int32} {EX EM : wE} {R : Mem → Mem → Prop} (hok : okL_32 R) (hL : L ≤ 3072) (CX : Cx p s m #[Value.ref b] c cL_law 4 RL EX (fun q : Nat => s.heap.size ≤ q)) (CM : Cx p s m #[Value.ref b] c cL_law 4 RL EM (fun q : Nat => s.heap.size ≤ q)) (hX : wX EX) (hM : wM EM) (hd1 : ∀ q, wA EX q → ¬ wA EM q) (hd2 : ∀ q, wA EM q → ¬ wA EX q) (hX0 : va_X b L xs s s.heap) (hbl : b < s.heap.size) {i : Nat} (hi6 : i + 6 ≤ L) {σ τ : Mem} {H : Heap} {locs : List Loc} {ls : Array Slot} (hw : wd EX (fun q : Nat => s.heap.size ≤ q) s σ H locs) (hPM : va_P EM.1 vwCl (wL EM τ) H) (hR : R σ τ) (hl : lv_has ls 4 [(0, .ref b), (1, .ref (gE EX 0)), (2, .ref (gE EM 0)), (3, .int (nI i))]) (hnext : ∀ (σ τ : Mem) (H : Heap) (locs : List Loc) (ls : Array Slot), wd EX (fun q : Nat => s.heap.size ≤ q) s σ H locs → va_P EM.1 vwCl (wL EM τ) H → R σ τ → lv_has ls 4 [(0, .ref b), (1, .ref (gE EX 0)), (2, .ref (gE EM 0)), (3, .int (nI i))] → W p l e room_1 s m #[Value.ref b] below meth c H locs 90 6406 (lw_Z below #[Value.ref b] s) (F0 m 1283 ls [])) : W p l e room_1 s m #[Value.ref b] below meth c H locs 90 6406 (lw_Z below #[Value.ref b] s) (F0 m 1041 ls []) := by
  have hx := CX.1.1
  have hb := CX.1.2.1
  have hbA : ¬ (fun q : Nat => s.heap.size ≤ q) b := Nat.not_le.mpr hbl
  refine lv_aload_n hx hb (dAt dL_32 0 rfl) rfl (lv_at hl 1 rfl) ?_
  refine lv_aload_n hx hb (dAt dL_32 1 rfl) rfl (lv_at hl 0 rfl) ?_
  refine lv_iload_n hx hb (dAt dL_32 2 rfl) rfl (lv_at hl 3 rfl) ?_
  refine lv_iconst (v := 1) hx hb (dAt dL_32 3 rfl) (by decide) ?_
  refine lv_iadd hx hb (dAt dL_32 4 rfl) ?_
  refine va_sld hx hb hX0 hbl hbA hw.2 (lw_in hi6 hL 1 (by decide)) (dAt dL_32 5 rfl) ?_
  refine y_calli CX hw hPM hd1 (x_runV (As := [.int (xs (nI i + (1 : Int32)).toNatClampNeg)]) (rest := []) CX hw (kX6_lose l EX hX (xs (nI i + (1 : Int32)).toNatClampNeg) σ _ (hok σ τ (xs (nI i + (1 : Int32)).toNatClampNeg) hR)) mtX6_lose lk_L_146 (hX.1 0) (nX hX (by decide)) rfl ⟨by decide, by decide⟩ ⟨rfl, rfl⟩ rfl hl.1 rfl (Nat.le_of_ble_eq_true rfl) (dAt dL_32 6 rfl) ⟨Nat.le_of_ble_eq_true rfl, Nat.le_of_ble_eq_true rfl⟩) (fun r1 σ1 H locs h hw hPM => ?_)
  refine lv_aload_n hx hb (dAt dL_32 7 rfl) rfl (lv_at hl 2 rfl) ?_
  refine lv_aload_n hx hb (dAt dL_32 8 rfl) rfl (lv_at hl 0 rfl) ?_
  refine lv_iload_n hx hb (dAt dL_32 9 rfl) rfl (lv_at hl 3 rfl) ?_
  refine lv_iconst (v := 1) hx hb (dAt dL_32 10 rfl) (by decide) ?_
  refine lv_iadd hx hb (dAt dL_32 11 rfl) ?_
  refine va_sld hx hb hX0 hbl hbA hw.2 (lw_in hi6 hL 1 (by decide)) (dAt dL_32 12 rfl) ?_
  refine y_calli CM ⟨hPM, hw.2⟩ hw.1 hd2 (x_runV (As := [.int (xs (nI i + (1 : Int32)).toNatClampNeg)]) (rest := [.int r1]) CM ⟨hPM, hw.2⟩ (kX7_lose l EM hM (xs (nI i + (1 : Int32)).toNatClampNeg) τ _ h) mtX7_lose lk_L_149 (hM.1 0) (nM hM (by decide)) rfl ⟨by decide, by decide⟩ ⟨rfl, rfl⟩ rfl hl.1 rfl (Nat.le_of_ble_eq_true rfl) (dAt dL_32 13 rfl) ⟨Nat.le_of_ble_eq_true rfl, Nat.le_of_ble_eq_true rfl⟩) (fun r2 τ1 H locs h hwM hPX => ?_)
  refine lv_icmp_eq (tgt := 1283) hx hb (dAt dL_32 14 rfl) (by decide) (fun _ => ?_) (fun z => absurd h.1 z)
  exact hnext σ1 τ1 H locs ls ⟨hPX, hwM.2⟩ hwM.1 h.2 hl
def tL_33 : List (Nat × Instr × Nat) := [(1064, .aload_n 1, 1), (1065, .aload_n 0, 1), (1066, .iload_n 3, 1), (1067, .iconst 1, 1), (1068, .iadd, 1), (1069, .iaload, 1), (1070, .aload_n 0, 1), (1071, .iload_n 3, 1), (1072, .iconst 2, 1), (1073, .iadd, 1), (1074, .iaload, 1), (1075, .aload_n 0, 1), (1076, .iload_n 3, 1), (1077, .iconst 3, 1), (1078, .iadd, 1), (1079, .iaload, 1), (1080, .aload_n 0, 1), (1081, .iload_n 3, 1), (1082, .iconst 4, 1), (1083, .iadd, 1), (1084, .iaload, 1), (1085, .invokevirtual 150, 3), (1088, .aload_n 2, 1), (1089, .aload_n 0, 1), (1090, .iload_n 3, 1), (1091, .iconst 1, 1), (1092, .iadd, 1), (1093, .iaload, 1), (1094, .aload_n 0, 1), (1095, .iload_n 3, 1), (1096, .iconst 2, 1), (1097, .iadd, 1), (1098, .iaload, 1), (1099, .aload_n 0, 1), (1100, .iload_n 3, 1), (1101, .iconst 3, 1), (1102, .iadd, 1), (1103, .iaload, 1), (1104, .aload_n 0, 1), (1105, .iload_n 3, 1), (1106, .iconst 4, 1), (1107, .iadd, 1), (1108, .iaload, 1), (1109, .invokevirtual 154, 3), (1112, .if_icmp .eq 171, 3), (1115, .iconst 0, 1), (1116, .ireturn, 1)]
theorem dL_33 : dOk cL_law tL_33 = true := by decide +kernel
set_option maxHeartbeats 4000000 in
set_option maxRecDepth 100000 in
theorem kL_33 {p : Program} {l : Launch} {e : Env} {s : State} {m : MethodId} {below : List Frame} {meth : Method} {c : Code} {b L : Nat} {xs : Nat → Int32} {EX EM : wE} {R : Mem → Mem → Prop} (hok : okL_33 R) (hL : L ≤ 3072) (CX : Cx p s m #[Value.ref b] c cL_law 4 RL EX (fun q : Nat => s.heap.size ≤ q)) (CM : Cx p s m #[Value.ref b] c cL_law 4 RL EM (fun q : Nat => s.heap.size ≤ q)) (hX : wX EX) (hM : wM EM) (hd1 : ∀ q, wA EX q → ¬ wA EM q) (hd2 : ∀ q, wA EM q → ¬ wA EX q) (hX0 : va_X b L xs s s.heap) (hbl : b < s.heap.size) {i : Nat} (hi6 : i + 6 ≤ L) {σ τ : Mem} {H : Heap} {locs : List Loc} {ls : Array Slot} (hw : wd EX (fun q : Nat => s.heap.size ≤ q) s σ H locs) (hPM : va_P EM.1 vwCl (wL EM τ) H) (hR : R σ τ) (hl : lv_has ls 4 [(0, .ref b), (1, .ref (gE EX 0)), (2, .ref (gE EM 0)), (3, .int (nI i))]) (hnext : ∀ (σ τ : Mem) (H : Heap) (locs : List Loc) (ls : Array Slot), wd EX (fun q : Nat => s.heap.size ≤ q) s σ H locs → va_P EM.1 vwCl (wL EM τ) H → R σ τ → lv_has ls 4 [(0, .ref b), (1, .ref (gE EX 0)), (2, .ref (gE EM 0)), (3, .int (nI i))] → W p l e room_1 s m #[Value.ref b] below meth c H locs 90 6406 (lw_Z below #[Value.ref b] s) (F0 m 1283 ls [])) : W p l e room_1 s m #[Value.ref b] below meth c H locs 90 6406 (lw_Z below #[Value.ref b] s) (F0 m 1064 ls []) := by
  have hx := CX.1.1
  have hb := CX.1.2.1
  have hbA : ¬ (fun q : Nat => s.heap.size ≤ q) b := Nat.not_le.mpr hbl
  refine lv_aload_n hx hb (dAt dL_33 0 rfl) rfl (lv_at hl 1 rfl) ?_
  refine lv_aload_n hx hb (dAt dL_33 1 rfl) rfl (lv_at hl 0 rfl) ?_
  refine lv_iload_n hx hb (dAt dL_33 2 rfl) rfl (lv_at hl 3 rfl) ?_
  refine lv_iconst (v := 1) hx hb (dAt dL_33 3 rfl) (by decide) ?_
  refine lv_iadd hx hb (dAt dL_33 4 rfl) ?_
  refine va_sld hx hb hX0 hbl hbA hw.2 (lw_in hi6 hL 1 (by decide)) (dAt dL_33 5 rfl) ?_
  refine lv_aload_n hx hb (dAt dL_33 6 rfl) rfl (lv_at hl 0 rfl) ?_
  refine lv_iload_n hx hb (dAt dL_33 7 rfl) rfl (lv_at hl 3 rfl) ?_
  refine lv_iconst (v := 2) hx hb (dAt dL_33 8 rfl) (by decide) ?_
  refine lv_iadd hx hb (dAt dL_33 9 rfl) ?_
  refine va_sld hx hb hX0 hbl hbA hw.2 (lw_in hi6 hL 2 (by decide)) (dAt dL_33 10 rfl) ?_
  refine lv_aload_n hx hb (dAt dL_33 11 rfl) rfl (lv_at hl 0 rfl) ?_
  refine lv_iload_n hx hb (dAt dL_33 12 rfl) rfl (lv_at hl 3 rfl) ?_
  refine lv_iconst (v := 3) hx hb (dAt dL_33 13 rfl) (by decide) ?_
  refine lv_iadd hx hb (dAt dL_33 14 rfl) ?_
  refine va_sld hx hb hX0 hbl hbA hw.2 (lw_in hi6 hL 3 (by decide)) (dAt dL_33 15 rfl) ?_
  refine lv_aload_n hx hb (dAt dL_33 16 rfl) rfl (lv_at hl 0 rfl) ?_
  refine lv_iload_n hx hb (dAt dL_33 17 rfl) rfl (lv_at hl 3 rfl) ?_
  refine lv_iconst (v := 4) hx hb (dAt dL_33 18 rfl) (by decide) ?_
  refine lv_iadd hx hb (dAt dL_33 19 rfl) ?_
  refine va_sld hx hb hX0 hbl hbA hw.2 (lw_in hi6 hL 4 (by decide)) (dAt dL_33 20 rfl) ?_
  refine y_calli CX hw hPM hd1 (x_runV (As := [.int (xs (nI i + (1 : Int32)).toNatClampNeg), .int (xs (nI i + (2 : Int32)).toNatClampNeg), .int (xs (nI i + (3 : Int32)).toNatClampNeg), .int (xs (nI i + (4 : Int32)).toNatClampNeg)]) (rest := []) CX hw (kX6_lay l EX hX (xs (nI i + (1 : Int32)).toNatClampNeg) (xs (nI i + (2 : Int32)).toNatClampNeg) (xs (nI i + (3 : Int32)).toNatClampNeg) (xs (nI i + (4 : Int32)).toNatClampNeg) σ _ (hok σ τ (xs (nI i + (1 : Int32)).toNatClampNeg) (xs (nI i + (2 : Int32)).toNatClampNeg) (xs (nI i + (3 : Int32)).toNatClampNeg) (xs (nI i + (4 : Int32)).toNatClampNeg) hR)) mtX6_lay lk_L_150 (hX.1 0) (nX hX (by decide)) rfl ⟨by decide, by decide⟩ ⟨rfl, rfl⟩ rfl hl.1 rfl (Nat.le_of_ble_eq_true rfl) (dAt dL_33 21 rfl) ⟨Nat.le_of_ble_eq_true rfl, Nat.le_of_ble_eq_true rfl⟩) (fun r1 σ1 H locs h hw hPM => ?_)
  refine lv_aload_n hx hb (dAt dL_33 22 rfl) rfl (lv_at hl 2 rfl) ?_
  refine lv_aload_n hx hb (dAt dL_33 23 rfl) rfl (lv_at hl 0 rfl) ?_
  refine lv_iload_n hx hb (dAt dL_33 24 rfl) rfl (lv_at hl 3 rfl) ?_
  refine lv_iconst (v := 1) hx hb (dAt dL_33 25 rfl) (by decide) ?_
  refine lv_iadd hx hb (dAt dL_33 26 rfl) ?_
  refine va_sld hx hb hX0 hbl hbA hw.2 (lw_in hi6 hL 1 (by decide)) (dAt dL_33 27 rfl) ?_
  refine lv_aload_n hx hb (dAt dL_33 28 rfl) rfl (lv_at hl 0 rfl) ?_
  refine lv_iload_n hx hb (dAt dL_33 29 rfl) rfl (lv_at hl 3 rfl) ?_
  refine lv_iconst (v := 2) hx hb (dAt dL_33 30 rfl) (by decide) ?_
  refine lv_iadd hx hb (dAt dL_33 31 rfl) ?_
  refine va_sld hx hb hX0 hbl hbA hw.2 (lw_in hi6 hL 2 (by decide)) (dAt dL_33 32 rfl) ?_
  refine lv_aload_n hx hb (dAt dL_33 33 rfl) rfl (lv_at hl 0 rfl) ?_
  refine lv_iload_n hx hb (dAt dL_33 34 rfl) rfl (lv_at hl 3 rfl) ?_
  refine lv_iconst (v := 3) hx hb (dAt dL_33 35 rfl) (by decide) ?_
  refine lv_iadd hx hb (dAt dL_33 36 rfl) ?_
  refine va_sld hx hb hX0 hbl hbA hw.2 (lw_in hi6 hL 3 (by decide)) (dAt dL_33 37 rfl) ?_
  refine lv_aload_n hx hb (dAt dL_33 38 rfl) rfl (lv_at hl 0 rfl) ?_
  refine lv_iload_n hx hb (dAt dL_33 39 rfl) rfl (lv_at hl 3 rfl) ?_
  refine lv_iconst (v := 4) hx hb (dAt dL_33 40 rfl) (by decide) ?_
  refine lv_iadd hx hb (dAt dL_33 41 rfl) ?_
  refine va_sld hx hb hX0 hbl hbA hw.2 (lw_in hi6 hL 4 (by decide)) (dAt dL_33 42 rfl) ?_
  refine y_calli CM ⟨hPM, hw.2⟩ hw.1 hd2 (x_runV (As := [.int (xs (nI i + (1 : Int32)).toNatClampNeg), .int (xs (nI i + (2 : Int32)).toNatClampNeg), .int (xs (nI i + (3 : Int32)).toNatClampNeg), .int (xs (nI i + (4 : Int32)).toNatClampNeg)]) (rest := [.int r1]) CM ⟨hPM, hw.2⟩ (kX7_lay l EM hM (xs (nI i + (1 : Int32)).toNatClampNeg) (xs (nI i + (2 : Int32)).toNatClampNeg) (xs (nI i + (3 : Int32)).toNatClampNeg) (xs (nI i + (4 : Int32)).toNatClampNeg) τ _ h) mtX7_lay lk_L_154 (hM.1 0) (nM hM (by decide)) rfl ⟨by decide, by decide⟩ ⟨rfl, rfl⟩ rfl hl.1 rfl (Nat.le_of_ble_eq_true rfl) (dAt dL_33 43 rfl) ⟨Nat.le_of_ble_eq_true rfl, Nat.le_of_ble_eq_true rfl⟩) (fun r2 τ1 H locs h hwM hPX => ?_)
  refine lv_icmp_eq (tgt := 1283) hx hb (dAt dL_33 44 rfl) (by decide) (fun _ => ?_) (fun z => absurd h.1 z)
  exact hnext σ1 τ1 H locs ls ⟨hPX, hwM.2⟩ hwM.1 h.2 hl
def tL_34 : List (Nat × Instr × Nat) := [(1117, .aload_n 1, 1), (1118, .aload_n 0, 1), (1119, .iload_n 3, 1), (1120, .iconst 1, 1), (1121, .iadd, 1), (1122, .iaload, 1), (1123, .aload_n 0, 1), (1124, .iload_n 3, 1), (1125, .iconst 2, 1), (1126, .iadd, 1), (1127, .iaload, 1), (1128, .aload_n 0, 1), (1129, .iload_n 3, 1), (1130, .iconst 3, 1), (1131, .iadd, 1), (1132, .iaload, 1), (1133, .invokevirtual 155, 3), (1136, .aload_n 2, 1), (1137, .aload_n 0, 1), (1138, .iload_n 3, 1), (1139, .iconst 1, 1), (1140, .iadd, 1), (1141, .iaload, 1), (1142, .aload_n 0, 1), (1143, .iload_n 3, 1), (1144, .iconst 2, 1), (1145, .iadd, 1), (1146, .iaload, 1), (1147, .aload_n 0, 1), (1148, .iload_n 3, 1), (1149, .iconst 3, 1), (1150, .iadd, 1), (1151, .iaload, 1), (1152, .invokevirtual 158, 3), (1155, .if_icmp .eq 128, 3), (1158, .iconst 0, 1), (1159, .ireturn, 1)]
theorem dL_34 : dOk cL_law tL_34 = true := by decide +kernel
set_option maxHeartbeats 4000000 in
set_option maxRecDepth 100000 in
theorem kL_34 {p : Program} {l : Launch} {e : Env} {s : State} {m : MethodId} {below : List Frame} {meth : Method} {c : Code} {b L : Nat} {xs : Nat → Int32} {EX EM : wE} {R : Mem → Mem → Prop} (hok : okL_34 R) (hL : L ≤ 3072) (CX : Cx p s m #[Value.ref b] c cL_law 4 RL EX (fun q : Nat => s.heap.size ≤ q)) (CM : Cx p s m #[Value.ref b] c cL_law 4 RL EM (fun q : Nat => s.heap.size ≤ q)) (hX : wX EX) (hM : wM EM) (hd1 : ∀ q, wA EX q → ¬ wA EM q) (hd2 : ∀ q, wA EM q → ¬ wA EX q) (hX0 : va_X b L xs s s.heap) (hbl : b < s.heap.size) {i : Nat} (hi6 : i + 6 ≤ L) {σ τ : Mem} {H : Heap} {locs : List Loc} {ls : Array Slot} (hw : wd EX (fun q : Nat => s.heap.size ≤ q) s σ H locs) (hPM : va_P EM.1 vwCl (wL EM τ) H) (hR : R σ τ) (hl : lv_has ls 4 [(0, .ref b), (1, .ref (gE EX 0)), (2, .ref (gE EM 0)), (3, .int (nI i))]) (hnext : ∀ (σ τ : Mem) (H : Heap) (locs : List Loc) (ls : Array Slot), wd EX (fun q : Nat => s.heap.size ≤ q) s σ H locs → va_P EM.1 vwCl (wL EM τ) H → R σ τ → lv_has ls 4 [(0, .ref b), (1, .ref (gE EX 0)), (2, .ref (gE EM 0)), (3, .int (nI i))] → W p l e room_1 s m #[Value.ref b] below meth c H locs 90 6406 (lw_Z below #[Value.ref b] s) (F0 m 1283 ls [])) : W p l e room_1 s m #[Value.ref b] below meth c H locs 90 6406 (lw_Z below #[Value.ref b] s) (F0 m 1117 ls []) := by
  have hx := CX.1.1
  have hb := CX.1.2.1
  have hbA : ¬ (fun q : Nat => s.heap.size ≤ q) b := Nat.not_le.mpr hbl
  refine lv_aload_n hx hb (dAt dL_34 0 rfl) rfl (lv_at hl 1 rfl) ?_
  refine lv_aload_n hx hb (dAt dL_34 1 rfl) rfl (lv_at hl 0 rfl) ?_
  refine lv_iload_n hx hb (dAt dL_34 2 rfl) rfl (lv_at hl 3 rfl) ?_
  refine lv_iconst (v := 1) hx hb (dAt dL_34 3 rfl) (by decide) ?_
  refine lv_iadd hx hb (dAt dL_34 4 rfl) ?_
  refine va_sld hx hb hX0 hbl hbA hw.2 (lw_in hi6 hL 1 (by decide)) (dAt dL_34 5 rfl) ?_
  refine lv_aload_n hx hb (dAt dL_34 6 rfl) rfl (lv_at hl 0 rfl) ?_
  refine lv_iload_n hx hb (dAt dL_34 7 rfl) rfl (lv_at hl 3 rfl) ?_
  refine lv_iconst (v := 2) hx hb (dAt dL_34 8 rfl) (by decide) ?_
  refine lv_iadd hx hb (dAt dL_34 9 rfl) ?_
  refine va_sld hx hb hX0 hbl hbA hw.2 (lw_in hi6 hL 2 (by decide)) (dAt dL_34 10 rfl) ?_
  refine lv_aload_n hx hb (dAt dL_34 11 rfl) rfl (lv_at hl 0 rfl) ?_
  refine lv_iload_n hx hb (dAt dL_34 12 rfl) rfl (lv_at hl 3 rfl) ?_
  refine lv_iconst (v := 3) hx hb (dAt dL_34 13 rfl) (by decide) ?_
  refine lv_iadd hx hb (dAt dL_34 14 rfl) ?_
  refine va_sld hx hb hX0 hbl hbA hw.2 (lw_in hi6 hL 3 (by decide)) (dAt dL_34 15 rfl) ?_
  refine y_calli CX hw hPM hd1 (x_runV (As := [.int (xs (nI i + (1 : Int32)).toNatClampNeg), .int (xs (nI i + (2 : Int32)).toNatClampNeg), .int (xs (nI i + (3 : Int32)).toNatClampNeg)]) (rest := []) CX hw (kX6_get l EX hX (xs (nI i + (1 : Int32)).toNatClampNeg) (xs (nI i + (2 : Int32)).toNatClampNeg) (xs (nI i + (3 : Int32)).toNatClampNeg) σ _ (hok σ τ (xs (nI i + (1 : Int32)).toNatClampNeg) (xs (nI i + (2 : Int32)).toNatClampNeg) (xs (nI i + (3 : Int32)).toNatClampNeg) hR)) mtX6_get lk_L_155 (hX.1 0) (nX hX (by decide)) rfl ⟨by decide, by decide⟩ ⟨rfl, rfl⟩ rfl hl.1 rfl (Nat.le_of_ble_eq_true rfl) (dAt dL_34 16 rfl) ⟨Nat.le_of_ble_eq_true rfl, Nat.le_of_ble_eq_true rfl⟩) (fun r1 σ1 H locs h hw hPM => ?_)
  refine lv_aload_n hx hb (dAt dL_34 17 rfl) rfl (lv_at hl 2 rfl) ?_
  refine lv_aload_n hx hb (dAt dL_34 18 rfl) rfl (lv_at hl 0 rfl) ?_
  refine lv_iload_n hx hb (dAt dL_34 19 rfl) rfl (lv_at hl 3 rfl) ?_
  refine lv_iconst (v := 1) hx hb (dAt dL_34 20 rfl) (by decide) ?_
  refine lv_iadd hx hb (dAt dL_34 21 rfl) ?_
  refine va_sld hx hb hX0 hbl hbA hw.2 (lw_in hi6 hL 1 (by decide)) (dAt dL_34 22 rfl) ?_
  refine lv_aload_n hx hb (dAt dL_34 23 rfl) rfl (lv_at hl 0 rfl) ?_
  refine lv_iload_n hx hb (dAt dL_34 24 rfl) rfl (lv_at hl 3 rfl) ?_
  refine lv_iconst (v := 2) hx hb (dAt dL_34 25 rfl) (by decide) ?_
  refine lv_iadd hx hb (dAt dL_34 26 rfl) ?_
  refine va_sld hx hb hX0 hbl hbA hw.2 (lw_in hi6 hL 2 (by decide)) (dAt dL_34 27 rfl) ?_
  refine lv_aload_n hx hb (dAt dL_34 28 rfl) rfl (lv_at hl 0 rfl) ?_
  refine lv_iload_n hx hb (dAt dL_34 29 rfl) rfl (lv_at hl 3 rfl) ?_
  refine lv_iconst (v := 3) hx hb (dAt dL_34 30 rfl) (by decide) ?_
  refine lv_iadd hx hb (dAt dL_34 31 rfl) ?_
  refine va_sld hx hb hX0 hbl hbA hw.2 (lw_in hi6 hL 3 (by decide)) (dAt dL_34 32 rfl) ?_
  refine y_calli CM ⟨hPM, hw.2⟩ hw.1 hd2 (x_runV (As := [.int (xs (nI i + (1 : Int32)).toNatClampNeg), .int (xs (nI i + (2 : Int32)).toNatClampNeg), .int (xs (nI i + (3 : Int32)).toNatClampNeg)]) (rest := [.int r1]) CM ⟨hPM, hw.2⟩ (kX7_get l EM hM (xs (nI i + (1 : Int32)).toNatClampNeg) (xs (nI i + (2 : Int32)).toNatClampNeg) (xs (nI i + (3 : Int32)).toNatClampNeg) τ _ h) mtX7_get lk_L_158 (hM.1 0) (nM hM (by decide)) rfl ⟨by decide, by decide⟩ ⟨rfl, rfl⟩ rfl hl.1 rfl (Nat.le_of_ble_eq_true rfl) (dAt dL_34 33 rfl) ⟨Nat.le_of_ble_eq_true rfl, Nat.le_of_ble_eq_true rfl⟩) (fun r2 τ1 H locs h hwM hPX => ?_)
  refine lv_icmp_eq (tgt := 1283) hx hb (dAt dL_34 34 rfl) (by decide) (fun _ => ?_) (fun z => absurd h.1 z)
  exact hnext σ1 τ1 H locs ls ⟨hPX, hwM.2⟩ hwM.1 h.2 hl
def tL_35 : List (Nat × Instr × Nat) := [(1160, .aload_n 1, 1), (1161, .aload_n 0, 1), (1162, .iload_n 3, 1), (1163, .iconst 1, 1), (1164, .iadd, 1), (1165, .iaload, 1), (1166, .aload_n 0, 1), (1167, .iload_n 3, 1), (1168, .iconst 2, 1), (1169, .iadd, 1), (1170, .iaload, 1), (1171, .aload_n 0, 1), (1172, .iload_n 3, 1), (1173, .iconst 3, 1), (1174, .iadd, 1), (1175, .iaload, 1), (1176, .aload_n 0, 1), (1177, .iload_n 3, 1), (1178, .iconst 4, 1), (1179, .iadd, 1), (1180, .iaload, 1), (1181, .aload_n 0, 1), (1182, .iload_n 3, 1), (1183, .iconst 5, 1), (1184, .iadd, 1), (1185, .iaload, 1), (1186, .invokevirtual 159, 3), (1189, .aload_n 2, 1), (1190, .aload_n 0, 1), (1191, .iload_n 3, 1), (1192, .iconst 1, 1), (1193, .iadd, 1), (1194, .iaload, 1), (1195, .aload_n 0, 1), (1196, .iload_n 3, 1), (1197, .iconst 2, 1), (1198, .iadd, 1), (1199, .iaload, 1), (1200, .aload_n 0, 1), (1201, .iload_n 3, 1), (1202, .iconst 3, 1), (1203, .iadd, 1), (1204, .iaload, 1), (1205, .aload_n 0, 1), (1206, .iload_n 3, 1), (1207, .iconst 4, 1), (1208, .iadd, 1), (1209, .iaload, 1), (1210, .aload_n 0, 1), (1211, .iload_n 3, 1), (1212, .iconst 5, 1), (1213, .iadd, 1), (1214, .iaload, 1), (1215, .invokevirtual 163, 3), (1218, .if_icmp .eq 65, 3), (1221, .iconst 0, 1), (1222, .ireturn, 1)]
theorem dL_35 : dOk cL_law tL_35 = true := by decide +kernel
set_option maxHeartbeats 4000000 in
set_option maxRecDepth 100000 in
theorem kL_35 {p : Program} {l : Launch} {e : Env} {s : State} {m : MethodId} {below : List Frame} {meth : Method} {c : Code} {b L : Nat} {xs : Nat → Int32} {EX EM : wE} {R : Mem → Mem → Prop} (hok : okL_35 R) (hL : L ≤ 3072) (CX : Cx p s m #[Value.ref b] c cL_law 4 RL EX (fun q : Nat => s.heap.size ≤ q)) (CM : Cx p s m #[Value.ref b] c cL_law 4 RL EM (fun q : Nat => s.heap.size ≤ q)) (hX : wX EX) (hM : wM EM) (hd1 : ∀ q, wA EX q → ¬ wA EM q) (hd2 : ∀ q, wA EM q → ¬ wA EX q) (hX0 : va_X b L xs s s.heap) (hbl : b < s.heap.size) {i : Nat} (hi6 : i + 6 ≤ L) {σ τ : Mem} {H : Heap} {locs : List Loc} {ls : Array Slot} (hw : wd EX (fun q : Nat => s.heap.size ≤ q) s σ H locs) (hPM : va_P EM.1 vwCl (wL EM τ) H) (hR : R σ τ) (hl : lv_has ls 4 [(0, .ref b), (1, .ref (gE EX 0)), (2, .ref (gE EM 0)), (3, .int (nI i))]) (hnext : ∀ (σ τ : Mem) (H : Heap) (locs : List Loc) (ls : Array Slot), wd EX (fun q : Nat => s.heap.size ≤ q) s σ H locs → va_P EM.1 vwCl (wL EM τ) H → R σ τ → lv_has ls 4 [(0, .ref b), (1, .ref (gE EX 0)), (2, .ref (gE EM 0)), (3, .int (nI i))] → W p l e room_1 s m #[Value.ref b] below meth c H locs 90 6406 (lw_Z below #[Value.ref b] s) (F0 m 1283 ls [])) : W p l e room_1 s m #[Value.ref b] below meth c H locs 90 6406 (lw_Z below #[Value.ref b] s) (F0 m 1160 ls []) := by
  have hx := CX.1.1
  have hb := CX.1.2.1
  have hbA : ¬ (fun q : Nat => s.heap.size ≤ q) b := Nat.not_le.mpr hbl
  refine lv_aload_n hx hb (dAt dL_35 0 rfl) rfl (lv_at hl 1 rfl) ?_
  refine lv_aload_n hx hb (dAt dL_35 1 rfl) rfl (lv_at hl 0 rfl) ?_
  refine lv_iload_n hx hb (dAt dL_35 2 rfl) rfl (lv_at hl 3 rfl) ?_
  refine lv_iconst (v := 1) hx hb (dAt dL_35 3 rfl) (by decide) ?_
  refine lv_iadd hx hb (dAt dL_35 4 rfl) ?_
  refine va_sld hx hb hX0 hbl hbA hw.2 (lw_in hi6 hL 1 (by decide)) (dAt dL_35 5 rfl) ?_
  refine lv_aload_n hx hb (dAt dL_35 6 rfl) rfl (lv_at hl 0 rfl) ?_
  refine lv_iload_n hx hb (dAt dL_35 7 rfl) rfl (lv_at hl 3 rfl) ?_
  refine lv_iconst (v := 2) hx hb (dAt dL_35 8 rfl) (by decide) ?_
  refine lv_iadd hx hb (dAt dL_35 9 rfl) ?_
  refine va_sld hx hb hX0 hbl hbA hw.2 (lw_in hi6 hL 2 (by decide)) (dAt dL_35 10 rfl) ?_
  refine lv_aload_n hx hb (dAt dL_35 11 rfl) rfl (lv_at hl 0 rfl) ?_
  refine lv_iload_n hx hb (dAt dL_35 12 rfl) rfl (lv_at hl 3 rfl) ?_
  refine lv_iconst (v := 3) hx hb (dAt dL_35 13 rfl) (by decide) ?_
  refine lv_iadd hx hb (dAt dL_35 14 rfl) ?_
  refine va_sld hx hb hX0 hbl hbA hw.2 (lw_in hi6 hL 3 (by decide)) (dAt dL_35 15 rfl) ?_
  refine lv_aload_n hx hb (dAt dL_35 16 rfl) rfl (lv_at hl 0 rfl) ?_
  refine lv_iload_n hx hb (dAt dL_35 17 rfl) rfl (lv_at hl 3 rfl) ?_
  refine lv_iconst (v := 4) hx hb (dAt dL_35 18 rfl) (by decide) ?_
  refine lv_iadd hx hb (dAt dL_35 19 rfl) ?_
  refine va_sld hx hb hX0 hbl hbA hw.2 (lw_in hi6 hL 4 (by decide)) (dAt dL_35 20 rfl) ?_
  refine lv_aload_n hx hb (dAt dL_35 21 rfl) rfl (lv_at hl 0 rfl) ?_
  refine lv_iload_n hx hb (dAt dL_35 22 rfl) rfl (lv_at hl 3 rfl) ?_
  refine lv_iconst (v := 5) hx hb (dAt dL_35 23 rfl) (by decide) ?_
  refine lv_iadd hx hb (dAt dL_35 24 rfl) ?_
  refine va_sld hx hb hX0 hbl hbA hw.2 (lw_in hi6 hL 5 (by decide)) (dAt dL_35 25 rfl) ?_
  refine y_calli CX hw hPM hd1 (x_runV (As := [.int (xs (nI i + (1 : Int32)).toNatClampNeg), .int (xs (nI i + (2 : Int32)).toNatClampNeg), .int (xs (nI i + (3 : Int32)).toNatClampNeg), .int (xs (nI i + (4 : Int32)).toNatClampNeg), .int (xs (nI i + (5 : Int32)).toNatClampNeg)]) (rest := []) CX hw (kX6_copy l EX hX (xs (nI i + (1 : Int32)).toNatClampNeg) (xs (nI i + (2 : Int32)).toNatClampNeg) (xs (nI i + (3 : Int32)).toNatClampNeg) (xs (nI i + (4 : Int32)).toNatClampNeg) (xs (nI i + (5 : Int32)).toNatClampNeg) σ _ (hok σ τ (xs (nI i + (1 : Int32)).toNatClampNeg) (xs (nI i + (2 : Int32)).toNatClampNeg) (xs (nI i + (3 : Int32)).toNatClampNeg) (xs (nI i + (4 : Int32)).toNatClampNeg) (xs (nI i + (5 : Int32)).toNatClampNeg) hR)) mtX6_copy lk_L_159 (hX.1 0) (nX hX (by decide)) rfl ⟨by decide, by decide⟩ ⟨rfl, rfl⟩ rfl hl.1 rfl (Nat.le_of_ble_eq_true rfl) (dAt dL_35 26 rfl) ⟨Nat.le_of_ble_eq_true rfl, Nat.le_of_ble_eq_true rfl⟩) (fun r1 σ1 H locs h hw hPM => ?_)
  refine lv_aload_n hx hb (dAt dL_35 27 rfl) rfl (lv_at hl 2 rfl) ?_
  refine lv_aload_n hx hb (dAt dL_35 28 rfl) rfl (lv_at hl 0 rfl) ?_
  refine lv_iload_n hx hb (dAt dL_35 29 rfl) rfl (lv_at hl 3 rfl) ?_
  refine lv_iconst (v := 1) hx hb (dAt dL_35 30 rfl) (by decide) ?_
  refine lv_iadd hx hb (dAt dL_35 31 rfl) ?_
  refine va_sld hx hb hX0 hbl hbA hw.2 (lw_in hi6 hL 1 (by decide)) (dAt dL_35 32 rfl) ?_
  refine lv_aload_n hx hb (dAt dL_35 33 rfl) rfl (lv_at hl 0 rfl) ?_
  refine lv_iload_n hx hb (dAt dL_35 34 rfl) rfl (lv_at hl 3 rfl) ?_
  refine lv_iconst (v := 2) hx hb (dAt dL_35 35 rfl) (by decide) ?_
  refine lv_iadd hx hb (dAt dL_35 36 rfl) ?_
  refine va_sld hx hb hX0 hbl hbA hw.2 (lw_in hi6 hL 2 (by decide)) (dAt dL_35 37 rfl) ?_
  refine lv_aload_n hx hb (dAt dL_35 38 rfl) rfl (lv_at hl 0 rfl) ?_
  refine lv_iload_n hx hb (dAt dL_35 39 rfl) rfl (lv_at hl 3 rfl) ?_
  refine lv_iconst (v := 3) hx hb (dAt dL_35 40 rfl) (by decide) ?_
  refine lv_iadd hx hb (dAt dL_35 41 rfl) ?_
  refine va_sld hx hb hX0 hbl hbA hw.2 (lw_in hi6 hL 3 (by decide)) (dAt dL_35 42 rfl) ?_
  refine lv_aload_n hx hb (dAt dL_35 43 rfl) rfl (lv_at hl 0 rfl) ?_
  refine lv_iload_n hx hb (dAt dL_35 44 rfl) rfl (lv_at hl 3 rfl) ?_
  refine lv_iconst (v := 4) hx hb (dAt dL_35 45 rfl) (by decide) ?_
  refine lv_iadd hx hb (dAt dL_35 46 rfl) ?_
  refine va_sld hx hb hX0 hbl hbA hw.2 (lw_in hi6 hL 4 (by decide)) (dAt dL_35 47 rfl) ?_
  refine lv_aload_n hx hb (dAt dL_35 48 rfl) rfl (lv_at hl 0 rfl) ?_
  refine lv_iload_n hx hb (dAt dL_35 49 rfl) rfl (lv_at hl 3 rfl) ?_
  refine lv_iconst (v := 5) hx hb (dAt dL_35 50 rfl) (by decide) ?_
  refine lv_iadd hx hb (dAt dL_35 51 rfl) ?_
  refine va_sld hx hb hX0 hbl hbA hw.2 (lw_in hi6 hL 5 (by decide)) (dAt dL_35 52 rfl) ?_
  refine y_calli CM ⟨hPM, hw.2⟩ hw.1 hd2 (x_runV (As := [.int (xs (nI i + (1 : Int32)).toNatClampNeg), .int (xs (nI i + (2 : Int32)).toNatClampNeg), .int (xs (nI i + (3 : Int32)).toNatClampNeg), .int (xs (nI i + (4 : Int32)).toNatClampNeg), .int (xs (nI i + (5 : Int32)).toNatClampNeg)]) (rest := [.int r1]) CM ⟨hPM, hw.2⟩ (kX7_copy l EM hM (xs (nI i + (1 : Int32)).toNatClampNeg) (xs (nI i + (2 : Int32)).toNatClampNeg) (xs (nI i + (3 : Int32)).toNatClampNeg) (xs (nI i + (4 : Int32)).toNatClampNeg) (xs (nI i + (5 : Int32)).toNatClampNeg) τ _ h) mtX7_copy lk_L_163 (hM.1 0) (nM hM (by decide)) rfl ⟨by decide, by decide⟩ ⟨rfl, rfl⟩ rfl hl.1 rfl (Nat.le_of_ble_eq_true rfl) (dAt dL_35 53 rfl) ⟨Nat.le_of_ble_eq_true rfl, Nat.le_of_ble_eq_true rfl⟩) (fun r2 τ1 H locs h hwM hPX => ?_)
  refine lv_icmp_eq (tgt := 1283) hx hb (dAt dL_35 54 rfl) (by decide) (fun _ => ?_) (fun z => absurd h.1 z)
  exact hnext σ1 τ1 H locs ls ⟨hPX, hwM.2⟩ hwM.1 h.2 hl
def tL_36 : List (Nat × Instr × Nat) := [(1223, .aload_n 1, 1), (1224, .aload_n 0, 1), (1225, .iload_n 3, 1), (1226, .iconst 1, 1), (1227, .iadd, 1), (1228, .iaload, 1), (1229, .invokevirtual 164, 3), (1232, .aload_n 2, 1), (1233, .aload_n 0, 1), (1234, .iload_n 3, 1), (1235, .iconst 1, 1), (1236, .iadd, 1), (1237, .iaload, 1), (1238, .invokevirtual 167, 3), (1241, .if_icmp .eq 42, 3), (1244, .iconst 0, 1), (1245, .ireturn, 1)]
theorem dL_36 : dOk cL_law tL_36 = true := by decide +kernel
set_option maxHeartbeats 4000000 in
set_option maxRecDepth 100000 in
theorem kL_36 {p : Program} {l : Launch} {e : Env} {s : State} {m : MethodId} {below : List Frame} {meth : Method} {c : Code} {b L : Nat} {xs : Nat → Int32} {EX EM : wE} {R : Mem → Mem → Prop} (hok : okL_36 R) (hL : L ≤ 3072) (CX : Cx p s m #[Value.ref b] c cL_law 4 RL EX (fun q : Nat => s.heap.size ≤ q)) (CM : Cx p s m #[Value.ref b] c cL_law 4 RL EM (fun q : Nat => s.heap.size ≤ q)) (hX : wX EX) (hM : wM EM) (hd1 : ∀ q, wA EX q → ¬ wA EM q) (hd2 : ∀ q, wA EM q → ¬ wA EX q) (hX0 : va_X b L xs s s.heap) (hbl : b < s.heap.size) {i : Nat} (hi6 : i + 6 ≤ L) {σ τ : Mem} {H : Heap} {locs : List Loc} {ls : Array Slot} (hw : wd EX (fun q : Nat => s.heap.size ≤ q) s σ H locs) (hPM : va_P EM.1 vwCl (wL EM τ) H) (hR : R σ τ) (hl : lv_has ls 4 [(0, .ref b), (1, .ref (gE EX 0)), (2, .ref (gE EM 0)), (3, .int (nI i))]) (hnext : ∀ (σ τ : Mem) (H : Heap) (locs : List Loc) (ls : Array Slot), wd EX (fun q : Nat => s.heap.size ≤ q) s σ H locs → va_P EM.1 vwCl (wL EM τ) H → R σ τ → lv_has ls 4 [(0, .ref b), (1, .ref (gE EX 0)), (2, .ref (gE EM 0)), (3, .int (nI i))] → W p l e room_1 s m #[Value.ref b] below meth c H locs 90 6406 (lw_Z below #[Value.ref b] s) (F0 m 1283 ls [])) : W p l e room_1 s m #[Value.ref b] below meth c H locs 90 6406 (lw_Z below #[Value.ref b] s) (F0 m 1223 ls []) := by
  have hx := CX.1.1
  have hb := CX.1.2.1
  have hbA : ¬ (fun q : Nat => s.heap.size ≤ q) b := Nat.not_le.mpr hbl
  refine lv_aload_n hx hb (dAt dL_36 0 rfl) rfl (lv_at hl 1 rfl) ?_
  refine lv_aload_n hx hb (dAt dL_36 1 rfl) rfl (lv_at hl 0 rfl) ?_
  refine lv_iload_n hx hb (dAt dL_36 2 rfl) rfl (lv_at hl 3 rfl) ?_
  refine lv_iconst (v := 1) hx hb (dAt dL_36 3 rfl) (by decide) ?_
  refine lv_iadd hx hb (dAt dL_36 4 rfl) ?_
  refine va_sld hx hb hX0 hbl hbA hw.2 (lw_in hi6 hL 1 (by decide)) (dAt dL_36 5 rfl) ?_
  refine y_calli CX hw hPM hd1 (x_runV (As := [.int (xs (nI i + (1 : Int32)).toNatClampNeg)]) (rest := []) CX hw (kX6_write l EX hX (xs (nI i + (1 : Int32)).toNatClampNeg) σ _ (hok σ τ (xs (nI i + (1 : Int32)).toNatClampNeg) hR)) mtX6_write lk_L_164 (hX.1 0) (nX hX (by decide)) rfl ⟨by decide, by decide⟩ ⟨rfl, rfl⟩ rfl hl.1 rfl (Nat.le_of_ble_eq_true rfl) (dAt dL_36 6 rfl) ⟨Nat.le_of_ble_eq_true rfl, Nat.le_of_ble_eq_true rfl⟩) (fun r1 σ1 H locs h hw hPM => ?_)
  refine lv_aload_n hx hb (dAt dL_36 7 rfl) rfl (lv_at hl 2 rfl) ?_
  refine lv_aload_n hx hb (dAt dL_36 8 rfl) rfl (lv_at hl 0 rfl) ?_
  refine lv_iload_n hx hb (dAt dL_36 9 rfl) rfl (lv_at hl 3 rfl) ?_
  refine lv_iconst (v := 1) hx hb (dAt dL_36 10 rfl) (by decide) ?_
  refine lv_iadd hx hb (dAt dL_36 11 rfl) ?_
  refine va_sld hx hb hX0 hbl hbA hw.2 (lw_in hi6 hL 1 (by decide)) (dAt dL_36 12 rfl) ?_
  refine y_calli CM ⟨hPM, hw.2⟩ hw.1 hd2 (x_runV (As := [.int (xs (nI i + (1 : Int32)).toNatClampNeg)]) (rest := [.int r1]) CM ⟨hPM, hw.2⟩ (kX7_write l EM hM (xs (nI i + (1 : Int32)).toNatClampNeg) τ _ h) mtX7_write lk_L_167 (hM.1 0) (nM hM (by decide)) rfl ⟨by decide, by decide⟩ ⟨rfl, rfl⟩ rfl hl.1 rfl (Nat.le_of_ble_eq_true rfl) (dAt dL_36 13 rfl) ⟨Nat.le_of_ble_eq_true rfl, Nat.le_of_ble_eq_true rfl⟩) (fun r2 τ1 H locs h hwM hPX => ?_)
  refine lv_icmp_eq (tgt := 1283) hx hb (dAt dL_36 14 rfl) (by decide) (fun _ => ?_) (fun z => absurd h.1 z)
  exact hnext σ1 τ1 H locs ls ⟨hPX, hwM.2⟩ hwM.1 h.2 hl
def tL_37 : List (Nat × Instr × Nat) := [(1246, .aload_n 1, 1), (1247, .aload_n 0, 1), (1248, .iload_n 3, 1), (1249, .iconst 1, 1), (1250, .iadd, 1), (1251, .iaload, 1), (1252, .invokevirtual 168, 3), (1255, .aload_n 2, 1), (1256, .aload_n 0, 1), (1257, .iload_n 3, 1), (1258, .iconst 1, 1), (1259, .iadd, 1), (1260, .iaload, 1), (1261, .invokevirtual 171, 3), (1264, .if_icmp .eq 19, 3), (1267, .iconst 0, 1), (1268, .ireturn, 1)]
theorem dL_37 : dOk cL_law tL_37 = true := by decide +kernel
set_option maxHeartbeats 4000000 in
set_option maxRecDepth 100000 in
theorem kL_37 {p : Program} {l : Launch} {e : Env} {s : State} {m : MethodId} {below : List Frame} {meth : Method} {c : Code} {b L : Nat} {xs : Nat → Int32} {EX EM : wE} {R : Mem → Mem → Prop} (hok : okL_37 R) (hL : L ≤ 3072) (CX : Cx p s m #[Value.ref b] c cL_law 4 RL EX (fun q : Nat => s.heap.size ≤ q)) (CM : Cx p s m #[Value.ref b] c cL_law 4 RL EM (fun q : Nat => s.heap.size ≤ q)) (hX : wX EX) (hM : wM EM) (hd1 : ∀ q, wA EX q → ¬ wA EM q) (hd2 : ∀ q, wA EM q → ¬ wA EX q) (hX0 : va_X b L xs s s.heap) (hbl : b < s.heap.size) {i : Nat} (hi6 : i + 6 ≤ L) {σ τ : Mem} {H : Heap} {locs : List Loc} {ls : Array Slot} (hw : wd EX (fun q : Nat => s.heap.size ≤ q) s σ H locs) (hPM : va_P EM.1 vwCl (wL EM τ) H) (hR : R σ τ) (hl : lv_has ls 4 [(0, .ref b), (1, .ref (gE EX 0)), (2, .ref (gE EM 0)), (3, .int (nI i))]) (hnext : ∀ (σ τ : Mem) (H : Heap) (locs : List Loc) (ls : Array Slot), wd EX (fun q : Nat => s.heap.size ≤ q) s σ H locs → va_P EM.1 vwCl (wL EM τ) H → R σ τ → lv_has ls 4 [(0, .ref b), (1, .ref (gE EX 0)), (2, .ref (gE EM 0)), (3, .int (nI i))] → W p l e room_1 s m #[Value.ref b] below meth c H locs 90 6406 (lw_Z below #[Value.ref b] s) (F0 m 1283 ls [])) : W p l e room_1 s m #[Value.ref b] below meth c H locs 90 6406 (lw_Z below #[Value.ref b] s) (F0 m 1246 ls []) := by
  have hx := CX.1.1
  have hb := CX.1.2.1
  have hbA : ¬ (fun q : Nat => s.heap.size ≤ q) b := Nat.not_le.mpr hbl
  refine lv_aload_n hx hb (dAt dL_37 0 rfl) rfl (lv_at hl 1 rfl) ?_
  refine lv_aload_n hx hb (dAt dL_37 1 rfl) rfl (lv_at hl 0 rfl) ?_
  refine lv_iload_n hx hb (dAt dL_37 2 rfl) rfl (lv_at hl 3 rfl) ?_
  refine lv_iconst (v := 1) hx hb (dAt dL_37 3 rfl) (by decide) ?_
  refine lv_iadd hx hb (dAt dL_37 4 rfl) ?_
  refine va_sld hx hb hX0 hbl hbA hw.2 (lw_in hi6 hL 1 (by decide)) (dAt dL_37 5 rfl) ?_
  refine y_calli CX hw hPM hd1 (x_runV (As := [.int (xs (nI i + (1 : Int32)).toNatClampNeg)]) (rest := []) CX hw (kX6_count l EX hX (xs (nI i + (1 : Int32)).toNatClampNeg) σ _ (hok σ τ (xs (nI i + (1 : Int32)).toNatClampNeg) hR)) mtX6_count lk_L_168 (hX.1 0) (nX hX (by decide)) rfl ⟨by decide, by decide⟩ ⟨rfl, rfl⟩ rfl hl.1 rfl (Nat.le_of_ble_eq_true rfl) (dAt dL_37 6 rfl) ⟨Nat.le_of_ble_eq_true rfl, Nat.le_of_ble_eq_true rfl⟩) (fun r1 σ1 H locs h hw hPM => ?_)
  refine lv_aload_n hx hb (dAt dL_37 7 rfl) rfl (lv_at hl 2 rfl) ?_
  refine lv_aload_n hx hb (dAt dL_37 8 rfl) rfl (lv_at hl 0 rfl) ?_
  refine lv_iload_n hx hb (dAt dL_37 9 rfl) rfl (lv_at hl 3 rfl) ?_
  refine lv_iconst (v := 1) hx hb (dAt dL_37 10 rfl) (by decide) ?_
  refine lv_iadd hx hb (dAt dL_37 11 rfl) ?_
  refine va_sld hx hb hX0 hbl hbA hw.2 (lw_in hi6 hL 1 (by decide)) (dAt dL_37 12 rfl) ?_
  refine y_calli CM ⟨hPM, hw.2⟩ hw.1 hd2 (x_runV (As := [.int (xs (nI i + (1 : Int32)).toNatClampNeg)]) (rest := [.int r1]) CM ⟨hPM, hw.2⟩ (kX7_count l EM hM (xs (nI i + (1 : Int32)).toNatClampNeg) τ _ h) mtX7_count lk_L_171 (hM.1 0) (nM hM (by decide)) rfl ⟨by decide, by decide⟩ ⟨rfl, rfl⟩ rfl hl.1 rfl (Nat.le_of_ble_eq_true rfl) (dAt dL_37 13 rfl) ⟨Nat.le_of_ble_eq_true rfl, Nat.le_of_ble_eq_true rfl⟩) (fun r2 τ1 H locs h hwM hPX => ?_)
  refine lv_icmp_eq (tgt := 1283) hx hb (dAt dL_37 14 rfl) (by decide) (fun _ => ?_) (fun z => absurd h.1 z)
  exact hnext σ1 τ1 H locs ls ⟨hPX, hwM.2⟩ hwM.1 h.2 hl
def tL_38 : List (Nat × Instr × Nat) := [(1269, .aload_n 1, 1), (1270, .invokevirtual 172, 3), (1273, .aload_n 2, 1), (1274, .invokevirtual 176, 3), (1277, .lcmp, 1), (1278, .ifCond .eq 5, 3), (1281, .iconst 0, 1), (1282, .ireturn, 1)]
theorem dL_38 : dOk cL_law tL_38 = true := by decide +kernel
set_option maxHeartbeats 4000000 in
set_option maxRecDepth 100000 in
theorem kL_38 {p : Program} {l : Launch} {e : Env} {s : State} {m : MethodId} {below : List Frame} {meth : Method} {c : Code} {b L : Nat} {xs : Nat → Int32} {EX EM : wE} {R : Mem → Mem → Prop} (hok : okL_38 R) (hL : L ≤ 3072) (CX : Cx p s m #[Value.ref b] c cL_law 4 RL EX (fun q : Nat => s.heap.size ≤ q)) (CM : Cx p s m #[Value.ref b] c cL_law 4 RL EM (fun q : Nat => s.heap.size ≤ q)) (hX : wX EX) (hM : wM EM) (hd1 : ∀ q, wA EX q → ¬ wA EM q) (hd2 : ∀ q, wA EM q → ¬ wA EX q) (hX0 : va_X b L xs s s.heap) (hbl : b < s.heap.size) {i : Nat} (hi6 : i + 6 ≤ L) {σ τ : Mem} {H : Heap} {locs : List Loc} {ls : Array Slot} (hw : wd EX (fun q : Nat => s.heap.size ≤ q) s σ H locs) (hPM : va_P EM.1 vwCl (wL EM τ) H) (hR : R σ τ) (hl : lv_has ls 4 [(0, .ref b), (1, .ref (gE EX 0)), (2, .ref (gE EM 0)), (3, .int (nI i))]) (hnext : ∀ (σ τ : Mem) (H : Heap) (locs : List Loc) (ls : Array Slot), wd EX (fun q : Nat => s.heap.size ≤ q) s σ H locs → va_P EM.1 vwCl (wL EM τ) H → R σ τ → lv_has ls 4 [(0, .ref b), (1, .ref (gE EX 0)), (2, .ref (gE EM 0)), (3, .int (nI i))] → W p l e room_1 s m #[Value.ref b] below meth c H locs 90 6406 (lw_Z below #[Value.ref b] s) (F0 m 1283 ls [])) : W p l e room_1 s m #[Value.ref b] below meth c H locs 90 6406 (lw_Z below #[Value.ref b] s) (F0 m 1269 ls []) := by
  have hx := CX.1.1
  have hb := CX.1.2.1
  have hbA : ¬ (fun q : Nat => s.heap.size ≤ q) b := Nat.not_le.mpr hbl
  refine lv_aload_n hx hb (dAt dL_38 0 rfl) rfl (lv_at hl 1 rfl) ?_
  refine y_calll CX hw hPM hd1 (x_runV (As := []) (rest := []) CX hw (kX6_digest l EX hX  σ _ (hok σ τ  hR)) mtX6_digest lk_L_172 (hX.1 0) (nX hX (by decide)) rfl ⟨by decide, by decide⟩ ⟨rfl, rfl⟩ rfl hl.1 rfl (Nat.le_of_ble_eq_true rfl) (dAt dL_38 1 rfl) ⟨Nat.le_of_ble_eq_true rfl, Nat.le_of_ble_eq_true rfl⟩) (fun r1 σ1 H locs h hw hPM => ?_)
  refine lv_aload_n hx hb (dAt dL_38 2 rfl) rfl (lv_at hl 2 rfl) ?_
  refine y_calll CM ⟨hPM, hw.2⟩ hw.1 hd2 (x_runV (As := []) (rest := [.long r1]) CM ⟨hPM, hw.2⟩ (kX7_digest l EM hM  τ _ h) mtX7_digest lk_L_176 (hM.1 0) (nM hM (by decide)) rfl ⟨by decide, by decide⟩ ⟨rfl, rfl⟩ rfl hl.1 rfl (Nat.le_of_ble_eq_true rfl) (dAt dL_38 3 rfl) ⟨Nat.le_of_ble_eq_true rfl, Nat.le_of_ble_eq_true rfl⟩) (fun r2 τ1 H locs h hwM hPX => ?_)
  refine W.lcmp hx hb (dAt dL_38 4 rfl) ?_
  refine lv_if_eq (tgt := 1283) hx hb (dAt dL_38 5 rfl) (by decide) (fun _ => ?_) (fun z => absurd ((lg_cmp_eq _ _).mpr h.1) z)
  exact hnext σ1 τ1 H locs ls ⟨hPX, hwM.2⟩ hwM.1 h.2 hl
