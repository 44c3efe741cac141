theorem app_P {D : va_G} {cl : List vw_C} {a b : va_W} {H : Heap} (h : va_P D cl (a ++ b) H) : va_P D cl a H ∧ va_P D cl b H := by
  refine ⟨fun k q hk => h k q ?_, fun k q hk => h (a.length + k) q ?_⟩
  · rw [List.getElem?_append_left (List.getElem?_eq_some_iff.mp hk).1]
    exact hk
  · rw [List.getElem?_append_right (by omega)]
    rw [show a.length + k - a.length = k by omega]
    exact hk
theorem app_I {A : Nat → Prop} {EX EM : wE} {σ τ : Mem} (h : va_D A (wL EX σ ++ wL EM τ)) : wI EX ∧ wI EM ∧ (∀ q, wA EX q → ¬ wA EM q) ∧ (∀ q, wA EX q → A q) ∧ (∀ q, wA EM q → A q) := by
  have hlen : (wL EX σ).length = nE EX := by simp [wL]
  have hl : ∀ k, k < nE EX → (wL EX σ ++ wL EM τ)[k]? = some (gE EX k, wCe EX.2.1 (tE EX) (σ k) (sE EX k)) := fun k hk => by
    rw [List.getElem?_append_left (by rw [hlen]; exact hk)]
    exact wL_at hk
  have hr : ∀ k, k < nE EM → (wL EX σ ++ wL EM τ)[nE EX + k]? = some (gE EM k, wCe EM.2.1 (tE EM) (τ k) (sE EM k)) := fun k hk => by
    rw [List.getElem?_append_right (by omega), hlen, show nE EX + k - nE EX = k by omega]
    exact wL_at hk
  refine ⟨fun i j hi hj e => h.1 i j _ _ (hl i hi) (hl j hj) e, fun i j hi hj e => ?_, ?_, ?_, ?_⟩
  · have := h.1 (nE EX + i) (nE EX + j) _ _ (hr i hi) (hr j hj) e
    omega
  · rintro q ⟨i, hi, rfl⟩ ⟨j, hj, e⟩
    have := h.1 i (nE EX + j) _ _ (hl i hi) (hr j hj) e
    omega
  · rintro q ⟨i, hi, rfl⟩
    exact h.2 i _ (hl i hi)
  · rintro q ⟨i, hi, rfl⟩
    exact h.2 (nE EX + i) _ (hr i hi)
theorem lw_NW {s : State} {a : Array Value} (hts : ∀ w ∈ lw_tbl, w.before a s = true) : NW s := ⟨fun q hq => va_Nw.of rfl (hts _ (nFs_in q hq)), fun q hq => va_Nw.of rfl (hts _ (nMs_in q hq))⟩
theorem lw_ArrC {s : State} {a : Array Value} (h : (Cond.arrayClass .int).before a s = true) : ∃ cI : ClassId, ArrOfT s cI .int ∧ va_RA s cI .int := by
  obtain ⟨c, k, comp, h1, h2, h3⟩ := Cond.arrayClass_spec h
  exact ⟨c, fun n z => ⟨fun k h => (by cases h), k, h2, comp, h3⟩, h1⟩
theorem lw_ArrO {s : State} {a : Array Value} {C : String} (h : (Cond.arrayOver (.object C)).before a s = true) : ∃ cI : ClassId, ArrOfT s cI (.object C) ∧ va_RA s cI (.object C) := by
  obtain ⟨comp, c, k, h1, -, h2, h3, h4⟩ := Cond.arrayOver_spec h
  exact ⟨c, fun n z => ⟨fun k h => (by cases h), k, h2, comp, h3⟩, k, comp, h2, h3, h1, h4⟩
set_option maxHeartbeats 4000000 in
set_option maxRecDepth 100000 in
theorem start_of {R : Mem → Mem → Prop} (hok : LawOk R) (hR : R s0X s0M) {p : Program} {e : Env} {s : State} {m : MethodId} {below : List Frame} {meth : Method} {c : Code} (l : Launch) {b L : Nat} {xs : Nat → Int32} (hL : L ≤ 3072) (C0 : lw_At p s m meth c b L xs) : W p l e room_1 s m #[Value.ref b] below meth c s.heap [] 0 0 (lw_Z below #[Value.ref b] s) (entryFrame m ([Value.ref b] : List Value).toArray 4) := by
  obtain ⟨hx, hb, hr, hml, hown, hts, hX0, hbl, hlocks, hgv⟩ := id C0
  have hs := flat_of_before _ hgv
  have hTB : ∀ w ∈ TB, w.before #[Value.ref b] s = true := fun w h => hts w (List.mem_filter.mp h).1
  have hAo : ∀ a : Nat, a < s.heap.size → ¬ (fun q : Nat => s.heap.size ≤ q) a := fun a h z => absurd h (Nat.not_lt.mpr z)
  obtain ⟨c0, iS0, hKn0⟩ := u_known (C := RX0) (T := TX0) (N := 19) (n := 19) hts (fun w h => (List.mem_filter.mp (cl0.2.1 w h)).1) (hts (.instantiable RX0 19) (List.mem_of_getElem? (i := 202) (by decide +kernel)))
  obtain ⟨c1, iS1, hKn1⟩ := u_known (C := RX1) (T := TX1) (N := 4) (n := 4) hts (fun w h => (List.mem_filter.mp (cl1.2.1 w h)).1) (hts (.instantiable RX1 4) (List.mem_of_getElem? (i := 134) (by decide +kernel)))
  obtain ⟨c2, iS2, hKn2⟩ := u_known (C := RX2) (T := TX2) (N := 3) (n := 3) hts (fun w h => (List.mem_filter.mp (cl2.2.1 w h)).1) (hts (.instantiable RX2 3) (List.mem_of_getElem? (i := 279) (by decide +kernel)))
  obtain ⟨c3, iS3, hKn3⟩ := u_known (C := RX3) (T := TX3) (N := 7) (n := 7) hts (fun w h => (List.mem_filter.mp (cl3.2.1 w h)).1) (hts (.instantiable RX3 7) (List.mem_of_getElem? (i := 158) (by decide +kernel)))
  obtain ⟨c4, iS4, hKn4⟩ := u_known (C := RX4) (T := TX4) (N := 3) (n := 3) hts (fun w h => (List.mem_filter.mp (cl4.2.1 w h)).1) (hts (.instantiable RX4 3) (List.mem_of_getElem? (i := 297) (by decide +kernel)))
  obtain ⟨c5, iS5, hKn5⟩ := u_known (C := RX5) (T := TX5) (N := 4) (n := 4) hts (fun w h => (List.mem_filter.mp (cl5.2.1 w h)).1) (hts (.instantiable RX5 4) (List.mem_of_getElem? (i := 106) (by decide +kernel)))
  obtain ⟨c6, iS6, hKn6⟩ := u_known (C := RX6) (T := TX6) (N := 15) (n := 15) hts (fun w h => (List.mem_filter.mp (cl6.2.1 w h)).1) (hts (.instantiable RX6 15) (List.mem_of_getElem? (i := 97) (by decide +kernel)))
  obtain ⟨c7, iS7, hKn7⟩ := u_known (C := RX7) (T := TX7) (N := 37) (n := 37) hts (fun w h => (List.mem_filter.mp (cl7.2.1 w h)).1) (hts (.instantiable RX7 37) (List.mem_of_getElem? (i := 742) (by decide +kernel)))
  obtain ⟨dC, dI, hKc⟩ : ∃ (dC : Nat → ClassId) (dI : Nat → Nat → Nat), ∀ (k : Nat) (q : vw_C), vwCl[k]? = some q → u_Kn s q.1 q.2.1 q.2.2 (dC k) (dI k) := by
    refine ⟨fun k => match k with | 0 => c0 | 1 => c1 | 2 => c2 | 3 => c3 | 4 => c4 | 5 => c5 | 6 => c6 | _ => c7, fun k => match k with | 0 => iS0 | 1 => iS1 | 2 => iS2 | 3 => iS3 | 4 => iS4 | 5 => iS5 | 6 => iS6 | _ => iS7, ?_⟩
    intro k q hq
    match k, hq with
    | 0, hq => cases hq; exact hKn0
    | 1, hq => cases hq; exact hKn1
    | 2, hq => cases hq; exact hKn2
    | 3, hq => cases hq; exact hKn3
    | 4, hq => cases hq; exact hKn4
    | 5, hq => cases hq; exact hKn5
    | 6, hq => cases hq; exact hKn6
    | 7, hq => cases hq; exact hKn7
    | k + 8, hq => simp [vwCl] at hq
  obtain ⟨cI, hI1, hI2⟩ := lw_ArrC (hTB _ arI)
  obtain ⟨cT, hT1, hT2⟩ := lw_ArrO (hts (.arrayOver (.object "MayPole$Text")) (List.mem_of_getElem? (i := 105) (by decide +kernel)))
  obtain ⟨cS, hS1, hS2⟩ := lw_ArrO (hts (.arrayOver (.object "MayPole$Sheet")) (List.mem_of_getElem? (i := 296) (by decide +kernel)))
  obtain ⟨tA, etA, htA⟩ := va_Tof (tm := .static "MayPole" "BEATS_OF_PLACES" "[I") (ty := .int) (N := 4) (f := stP) (A := fun q : Nat => s.heap.size ≤ q) (by decide) (hs (.arrayOf (.static "MayPole" "BEATS_OF_PLACES" "[I") .int) (by decide +kernel)) (va_eqt (hs (.eq (.length (.static "MayPole" "BEATS_OF_PLACES" "[I")) (.int 4)) (by decide +kernel))) (fun j hj => by
    match j, hj with
    | 0, _ => exact va_eqt (hs (.eq (.elem (.static "MayPole" "BEATS_OF_PLACES" "[I") (.int 0)) (.int 0)) (by decide +kernel))
    | 1, _ => exact va_eqt (hs (.eq (.elem (.static "MayPole" "BEATS_OF_PLACES" "[I") (.int 1)) (.int 6)) (by decide +kernel))
    | 2, _ => exact va_eqt (hs (.eq (.elem (.static "MayPole" "BEATS_OF_PLACES" "[I") (.int 2)) (.int 13)) (by decide +kernel))
    | 3, _ => exact va_eqt (hs (.eq (.elem (.static "MayPole" "BEATS_OF_PLACES" "[I") (.int 3)) (.int 23)) (by decide +kernel))) hAo
  have ztA := va_Zref (A := fun q : Nat => s.heap.size ≤ q) (hts (.laysStatic "MayPole" "BEATS_OF_PLACES" "[I") (List.mem_of_getElem? (i := 723) (by decide +kernel))) (hTB (.initialized "MayPole") (TB_of 84 (by decide +kernel) rfl)) etA hAo
  obtain ⟨tB, etB, htB⟩ := va_Tof (tm := .static "MayPole" "BEATS_OF_PLANS" "[I") (ty := .int) (N := 3) (f := stQ) (A := fun q : Nat => s.heap.size ≤ q) (by decide) (hs (.arrayOf (.static "MayPole" "BEATS_OF_PLANS" "[I") .int) (by decide +kernel)) (va_eqt (hs (.eq (.length (.static "MayPole" "BEATS_OF_PLANS" "[I")) (.int 3)) (by decide +kernel))) (fun j hj => by
    match j, hj with
    | 0, _ => exact va_eqt (hs (.eq (.elem (.static "MayPole" "BEATS_OF_PLANS" "[I") (.int 0)) (.int 3)) (by decide +kernel))
    | 1, _ => exact va_eqt (hs (.eq (.elem (.static "MayPole" "BEATS_OF_PLANS" "[I") (.int 1)) (.int 11)) (by decide +kernel))
    | 2, _ => exact va_eqt (hs (.eq (.elem (.static "MayPole" "BEATS_OF_PLANS" "[I") (.int 2)) (.int 23)) (by decide +kernel))) hAo
  have ztB := va_Zref (A := fun q : Nat => s.heap.size ≤ q) (hts (.laysStatic "MayPole" "BEATS_OF_PLANS" "[I") (List.mem_of_getElem? (i := 729) (by decide +kernel))) (hTB (.initialized "MayPole") (TB_of 84 (by decide +kernel) rfl)) etB hAo
  obtain ⟨E, hE⟩ : ∃ E : wE, E = ((dC, dI), (fun _ => 0), 0, (fun _ => .inl 0), (cI, cT, cS), (tA, tB)) := ⟨_, rfl⟩
  have hK : va_K E.1 vwCl (wT E) s := by
    rw [hE]
    refine ⟨hKc, fun k q hk => ?_⟩
    match k, hk with
    | 0, hk => cases hk; exact ⟨hI1, hI2⟩
    | 1, hk => cases hk; exact ⟨hT1, hT2⟩
    | 2, hk => cases hk; exact ⟨hS1, hS2⟩
  have hST : ST E (fun q : Nat => s.heap.size ≤ q) s s.heap := by
    rw [hE]
    exact ⟨⟨ztA, htA⟩, ztB, htB⟩
  have hAO : AO s := ⟨va_AO.of (hts (.arrayOver (.object "MayPole$Text")) (List.mem_of_getElem? (i := 105) (by decide +kernel))), va_AO.of (hts (.arrayOver (.object "MayPole$Sheet")) (List.mem_of_getElem? (i := 296) (by decide +kernel)))⟩
  have hN := lw_NW hts
  have C : Kx p s m #[Value.ref b] c cL_law 4 RL E (fun q : Nat => s.heap.size ≤ q) := ⟨⟨hx, hb, hml, hown, hTB⟩, hK, hN, hST, hAO, fun _ h => h⟩
  have hS : va_S (fun q : Nat => s.heap.size ≤ q) s.heap s.heap [] := va_S.rf
  have hP : va_P E.1 vwCl [] s.heap := fun k q h => by simp at h
  have hD : va_D (fun q : Nat => s.heap.size ≤ q) [] := ⟨fun i j p q h => by simp at h, fun k q h => by simp at h⟩
  have hl := lv_entry ([.ref b]) (n := 4) (Nat.le_of_ble_eq_true rfl)
  rw [lg_entry_eq]
  generalize (lg_sl ([.ref b]) ++ List.replicate (4 - (lg_sl ([.ref b])).length) Slot.unset).toArray = ls at hl ⊢
  have hl : lv_has ls 4 [(0, .ref b)] := hl
  refine c_new (fs := [.null, .null, .null, .null, .null, .null, .null, .null, .null, .null, .null, .int 0, .int 0, .int 0, .int 0]) C hP hD hS cl6 tyX6 tyX6_ok (TB_of 96 (by decide +kernel) rfl) (TB_of 97 (by decide +kernel) rfl) (TB_of 84 (by decide +kernel) rfl) (by decide) ⟨Nat.le_of_ble_eq_true rfl, Nat.le_of_ble_eq_true rfl⟩ (dAt dL_h 0 rfl) (fun q1 H hP hD hS => ?_)
  refine lv_dup hx hb (dAt dL_h 1 rfl) rfl ?_
  refine c_callI (ws := []) (x := (q1, .inr (6, [.null, .null, .null, .null, .null, .null, .null, .null, .null, .null, .null, .int 0, .int 0, .int 0, .int 0]))) (F := fun u => wL (xE E q1 u) s0X) (As := []) (rest := [.ref q1]) C hP hD hS (kX6_init l E q1 H.size) mtX6_init lk_L_9 rfl ⟨by decide, by decide⟩ ⟨rfl, rfl⟩ rfl hl.1 rfl (Nat.le_of_ble_eq_true rfl) (dAt dL_h 2 rfl) ⟨Nat.le_of_ble_eq_true rfl, Nat.le_of_ble_eq_true rfl⟩ (fun u1 H locs hP hD hS => ?_)
  refine lv_astore_n (lv' := [(1, .ref q1), (0, .ref b)]) hx hb (dAt dL_h 3 rfl) rfl hl (by decide) rfl (fun ls hl => ?_)
  replace hP : va_P E.1 vwCl (wL (xE E q1 u1) s0X) H := hP
  replace hD : va_D (fun q : Nat => s.heap.size ≤ q) (wL (xE E q1 u1) s0X) := hD
  refine c_new (fs := [.null, .null, .null, .null, .int 0, .null, .null, .int 0, .null, .int 0, .null, .int 0, .int 0, .null, .int 0, .null, .null, .null, .null, .int 0, .int 0, .null, .null, .null, .null, .int 0, .int 0, .int 0, .null, .null, .null, .null, .null, .int 0, .null, .null, .int 0]) C hP hD hS cl7 tyX7 tyX7_ok (TB_of 741 (by decide +kernel) rfl) (TB_of 742 (by decide +kernel) rfl) (TB_of 93 (by decide +kernel) rfl) (by decide) ⟨Nat.le_of_ble_eq_true rfl, Nat.le_of_ble_eq_true rfl⟩ (dAt dL_h 4 rfl) (fun q2 H hP hD hS => ?_)
  refine lv_dup hx hb (dAt dL_h 5 rfl) rfl ?_
  refine c_callI (ws := wL (xE E q1 u1) s0X) (x := (q2, .inr (7, [.null, .null, .null, .null, .int 0, .null, .null, .int 0, .null, .int 0, .null, .int 0, .int 0, .null, .int 0, .null, .null, .null, .null, .int 0, .int 0, .null, .null, .null, .null, .int 0, .int 0, .int 0, .null, .null, .null, .null, .null, .int 0, .null, .null, .int 0]))) (F := fun u => wL (mE E q2 u) s0M) (As := []) (rest := [.ref q2]) C hP hD hS (kX7_init l E q2 H.size) mtX7_init lk_L_12 rfl ⟨by decide, by decide⟩ ⟨rfl, rfl⟩ rfl hl.1 rfl (Nat.le_of_ble_eq_true rfl) (dAt dL_h 6 rfl) ⟨Nat.le_of_ble_eq_true rfl, Nat.le_of_ble_eq_true rfl⟩ (fun u2 H locs hP hD hS => ?_)
  refine lv_astore_n (lv' := [(2, .ref q2), (1, .ref q1), (0, .ref b)]) hx hb (dAt dL_h 7 rfl) rfl hl (by decide) rfl (fun ls hl => ?_)
  refine lv_iconst (v := 0) hx hb (dAt dL_h 8 rfl) (by decide) ?_
  refine lv_istore_n (lv' := [(3, .int 0), (2, .ref q2), (1, .ref q1), (0, .ref b)]) hx hb (dAt dL_h 9 rfl) rfl hl (by decide) rfl (fun ls hl => ?_)
  obtain ⟨hI1, hI2, hd1, hA1, hA2⟩ := app_I hD
  obtain ⟨hPX, hPM⟩ := app_P hP
  have CX : Cx p s m #[Value.ref b] c cL_law 4 RL (xE E q1 u1) (fun q : Nat => s.heap.size ≤ q) := ⟨C.1, hK, hN, hST, hI1, hA1⟩
  have CM : Cx p s m #[Value.ref b] c cL_law 4 RL (mE E q2 u2) (fun q : Nat => s.heap.size ≤ q) := ⟨C.1, hK, hN, hST, hI2, hA2⟩
  exact law_loop hok hL CX CM ⟨fun _ => rfl, rfl, hI1⟩ ⟨fun _ => rfl, rfl, hI2⟩ hd1 (fun q h1 h2 => hd1 q h2 h1) hX0 hbl hr hlocks (L + 1) 0 (Nat.zero_le _) (by omega) s0X s0M H locs ls ⟨hPX, hS⟩ hPM hR (lv_sub hl [3, 2, 1, 0] rfl)
