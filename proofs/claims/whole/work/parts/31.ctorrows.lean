theorem ltb {a b : Nat} (h : Nat.ble (a + 1) b = true) : a < b := Nat.le_of_ble_eq_true h
/-- loops that count up: from the end backwards -/
theorem up_loop (P : Nat → Nat → Prop) (e : Nat) (hx : ∀ n, P (n + 1) e) (hs : ∀ n j, j < e → P n (j + 1) → P (n + 1) j) : ∀ j, j ≤ e → ∃ n, P n j := by
  intro j hj
  obtain ⟨d, rfl⟩ : ∃ d, e = j + d := ⟨e - j, by omega⟩
  refine ⟨d + 1, ?_⟩
  induction d generalizing j with
  | zero => exact hx 0
  | succ d ih =>
    refine hs (d + 1) j (by omega) ?_
    have e1 : j + (d + 1) = (j + 1) + d := by omega
    rw [e1] at hx hs
    exact ih (j + 1) hx hs (by omega)
/-- the memory behind Arrays.fill -/
def fillM (σ : Mem) (a n : Nat) (v : Int32) : Mem := fun c => if c = a then (fun i => if i < n then v else σ a i) else σ c
theorem s_fill {a n : Nat} {v : Int32} {σ : Mem} {Q : Mem → Prop} (hn : n < 2 ^ 31) (hq : Q (fillM σ a n v)) : wJ7_fill_53178 a n v σ Q := by
  unfold wJ7_fill_53178
  intro x3 hx3
  subst hx3
  have key := up_loop (fun f j => wJ7_fill_53178_5 Q f a n v (nI j) (nI n) (fillM σ a j v)) n ?_ ?_ 0 (Nat.zero_le _)
  · obtain ⟨f, hf⟩ := key
    refine ⟨f, ?_⟩
    have e0 : fillM σ a 0 v = σ := by
      funext c i
      by_cases h : c = a
      · subst h; simp [fillM]
      · simp [fillM, h]
    rw [e0] at hf
    exact hf
  · intro f
    rw [wJ7_fill_53178_5]
    exact ⟨fun _ => hq, fun h => absurd (nI_le (Nat.le_refl n) hn) h⟩
  · intro f j hj ih
    rw [wJ7_fill_53178_5]
    refine ⟨fun h => absurd h (nI_ge hj hn), fun _ => ⟨vp_in_nI hj hn, ?_⟩⟩
    intro τ hτ
    rw [nI_clamp (by omega)] at hτ
    have e1 : τ = fillM σ a (j + 1) v := by
      rw [hτ]
      funext c i
      by_cases h : c = a
      · subst h
        simp only [um, fillM, if_true, upd]
        by_cases h2 : i = j
        · subst h2; simp
        · by_cases h3 : i < j
          · simp [h2, h3, Nat.lt_succ_of_lt h3]
          · have h4 : ¬ i < j + 1 := by omega
            simp [h2, h3, h4]
      · simp [um, fillM, h]
    rw [e1, show nI j + (1 : Int32) = nI (j + 1) from nI_1 j]
    exact ih
def AO (U : State) : Prop := va_AO "MayPole$Text" U ∧ va_AO "MayPole$Sheet" U
def cB (E : wE) (ws : va_W) (A : Nat → Prop) (U : State) : Prop := va_P E.1 vwCl ws U.heap ∧ va_K E.1 vwCl (wT E) U ∧ NW U ∧ ST E A U U.heap ∧ AO U
abbrev cPc (E : wE) (ws0 : va_W) (sz : Nat) (av : List Value) : Array Value → State → Prop := va_Pc av (fun U => U.heap.size = sz ∧ cB E ws0 (va_A ws0 sz) U ∧ va_D (fun _ => True) ws0)
abbrev cQ (E : wE) (ws0 : va_W) (sz : Nat) (F : (Nat → Nat) → va_W) : Array Value → State → Outcome → State → Prop := va_Qv (fun _ : Nat → Nat => True) (fun u t => va_P E.1 vwCl (F u) t.heap ∧ va_D (va_A ws0 sz) (F u)) (va_A ws0 sz)
def Kx (p : Program) (s : State) (m : MethodId) (args : Array Value) (c : Code) (cc : ByteArray) (nL : Nat) (own : String) (E : wE) (A : Nat → Prop) : Prop := CallFix p m c cc nL s args TB own ∧ va_K E.1 vwCl (wT E) s ∧ NW s ∧ ST E A s s.heap ∧ AO s ∧ ∀ q, s.heap.size ≤ q → A q
theorem cBlind {E : wE} {ws0 : va_W} {sz : Nat} {av : List Value} : FrameBlind (cPc E ws0 sz av) := fun a U g mk q => by
  obtain ⟨q0, q1, ⟨qP, qK, qN, qS, qA⟩, qD⟩ := q
  exact ⟨q0, q1, ⟨qP, va_K.moved (u := U) (U := U.calling g mk a) (Vm.Alike.refl U.vm) qK, NW.same (u := U) (U := U.calling g mk a) rfl qN, ST.moved (u := U) (U := U.calling g mk a) (Vm.Alike.refl U.vm) qS, va_AO.moved (u := U) (U := U.calling g mk a) (Vm.Alike.refl U.vm) qA.1, va_AO.moved (u := U) (U := U.calling g mk a) (Vm.Alike.refl U.vm) qA.2⟩, qD⟩
section CR
variable {p : Program} {l : Launch} {e : Env} {R : Room} {s : State} {m : MethodId} {args : Array Value} {below : List Frame} {meth : Method} {c : Code} {H : Heap} {locs : List Loc} {cells slots : Nat} {Q : State → Prop}
variable {cc : ByteArray} {nL : Nat} {own : String} {E : wE} {A : Nat → Prop} {ws : va_W} {pc : Nat} {ls : Array Slot} {rest st0 : List Value}
variable {y : MethodName} {bytes : ByteArray} {maxL n idx mc ms : Nat} {rm : Room} {As : List Value} {F : (Nat → Nat) → va_W}
theorem cMet {ws0 : va_W} {sz : Nat} {av : List Value} (hy : plainName y.cls = true) (hlen : (lg_sl av).length ≤ maxL)
    (body : ∀ (p : Program) (e : Env) (s : State) (m : MethodId) (args : Array Value) (below : List Frame) (meth : Method) (c : Code) (ls : Array Slot), Kx p s m args c bytes maxL y.cls E (va_A ws0 s.heap.size) → meth.sig.returnType = none → meth.locks = false → meth.name = y.name → lv_has ls maxL (lv_args 0 av) → va_P E.1 vwCl ws0 s.heap → va_D (va_A ws0 s.heap.size) ws0 →
      W p l e rm s m args below meth c s.heap [] 0 0 (MQ below (cQ E ws0 s.heap.size F) args s mc ms (va_A ws0 s.heap.size)) (F0 m 0 ls [])) : Met l y (Cond.code y bytes maxL none :: TB) rm (cPc E ws0 sz av) (cQ E ws0 sz F) mc ms (va_A ws0 sz) := by
  refine Met.ofW (cc := bytes) (maxL := maxL) (ret := none) hy rfl ?_
  intro p e s m args below meth c s₁ B hml hv
  obtain ⟨rfl, hsz, ⟨hP, hK, hN, hS, hO⟩, hD⟩ := hv
  subst hsz
  have hts := atoms_spec (ws := Cond.code y bytes maxL none :: TB) B.pre
  have hl := lv_entry av (n := maxL) hlen
  rw [lg_entry_eq]
  exact body p e s m _ below meth c _ ⟨⟨B.exec, B.bytes, hml, findClass_of_methodNamed B.named, fun w hw => hts w (List.mem_cons_of_mem _ hw)⟩, hK, hN, hS, hO, fun q h => Or.inr h⟩ B.returns B.notSynchronized (name_of_methodNamed B.named B.method).1 hl hP hD.self
theorem c_newa (C : Kx p s m args c cc nL own E A) (hP : va_P E.1 vwCl ws H) (hD : va_D A ws) (hS : va_S A s.heap H locs) {n : Int32} {N : Nat} (harr : Cond.arrayClass .int ∈ TB) (hn : ¬ n < 0) (hN : n.toNatClampNeg = N) (hby : N * 4 ≤ 536870912) (hcs : cells + 1 ≤ R.cells ∧ slots + N ≤ R.slots) (hdg : decode cc pc = .ok (.newarray .int, 2))
    (kk : ∀ (q : Nat) (H1 : Heap), va_P E.1 vwCl (ws ++ [(q, .inl ((tE E).1, N, .inl (fun _ => 0)))]) H1 → va_D A (ws ++ [(q, .inl ((tE E).1, N, .inl (fun _ => 0)))]) → va_S A s.heap H1 locs → W p l e R s m args below meth c H1 locs (cells + 1) (slots + N) Q (F0 m (pc + 2) ls (.ref q :: rest))) : W p l e R s m args below meth c H locs cells slots Q (F0 m pc ls (.int n :: rest)) := by
  refine va_newa (atype := .int) (ty := .int) (a0 := (N, .inl (fun _ => 0))) C.1.1 C.1.2.1 (C.1.2.2.2.2 _ harr) rfl C.2.1 hP hD hS C.2.2.2.2.2 (fun _ => rfl) hn hN hby hcs.1 hcs.2 hdg fun q cA H1 hK1 hP1 hD1 hS1 => ?_
  have h1 := (hK1.2 3 (cA, .int) rfl).2
  have h2 := (C.2.1.2 0 _ rfl).2
  have e1 : cA = (tE E).1 := Option.some.inj (h1.symm.trans h2)
  subst e1
  exact kk q H1 hP1 hD1 hS1
theorem c_putF (C : Kx p s m args c cc nL own E A) (hP : va_P E.1 vwCl ws H) (hD : va_D A ws) (hS : va_S A s.heap H locs) {ci j a : Nat} {ty : FieldType} {v : Value} {fs : List Value} {T : u_T} {N : Nat} (hF : FLk own idx ci j ty true) (q0 : Nat) (he : ws[q0]? = some (a, .inr (ci, fs))) (hc : vwCl[ci]? = some (own, T, N)) (hin : meth.name = "<init>") (hn : narrow ty v = v) (hfit : fits ty v = true) (hl : j < fs.length) (hdg : decode cc pc = .ok (.putfield idx, 3))
    (kk : ∀ (H1 : Heap) (locs1 : List Loc), va_P E.1 vwCl (ws.set q0 (a, .inr (ci, fs.set j v))) H1 → va_D A (ws.set q0 (a, .inr (ci, fs.set j v))) → va_S A s.heap H1 locs1 → W p l e R s m args below meth c H1 locs1 cells slots Q (F0 m (pc + 3) ls rest)) : W p l e R s m args below meth c H locs cells slots Q (F0 m pc ls (v :: .ref a :: rest)) := by
  obtain ⟨Cn, T1, N1, ⟨h1, h2, ⟨ty0, h6⟩, h7⟩, h3, h4, h8, h9, h5⟩ := hF
  have e1 : Cn = own := by
    have := h1.symm.trans hc
    simp only [Option.some.injEq, Prod.mk.injEq] at this
    exact this.1
  exact va_putF C.1.1 C.1.2.1 C.1.2.2.2.2 h2 ty0 h6 h7 C.1.2.2.2.1 C.2.1 hP hD hS q0 he h1 j h3 (C.1.2.2.2.2 _ h4) (fun _ h9 => h9) h9 hin (h5.trans e1) h8 hn hfit hl hdg kk
theorem c_put (C : Kx p s m args c cc nL own E A) (hP : va_P E.1 vwCl ws H) (hD : va_D A ws) (hS : va_S A s.heap H locs) {ci j a : Nat} {ty : FieldType} {v : Value} {fs : List Value} (hF : FLk own idx ci j ty false) (q0 : Nat) (he : ws[q0]? = some (a, .inr (ci, fs))) (hn : narrow ty v = v) (hfit : fits ty v = true) (hl : j < fs.length) (hdg : decode cc pc = .ok (.putfield idx, 3))
    (kk : ∀ (H1 : Heap) (locs1 : List Loc), va_P E.1 vwCl (ws.set q0 (a, .inr (ci, fs.set j v))) H1 → va_D A (ws.set q0 (a, .inr (ci, fs.set j v))) → va_S A s.heap H1 locs1 → W p l e R s m args below meth c H1 locs1 cells slots Q (F0 m (pc + 3) ls rest)) : W p l e R s m args below meth c H locs cells slots Q (F0 m pc ls (v :: .ref a :: rest)) := by
  obtain ⟨Cn, T1, N1, ⟨h1, h2, ⟨ty0, h6⟩, h7⟩, h3, h4, h8, h9, h5⟩ := hF
  exact va_put C.1.1 C.1.2.1 C.1.2.2.2.2 h2 ty0 h6 h7 C.1.2.2.2.1 C.2.1 hP hD hS q0 he h1 j h3 (C.1.2.2.2.2 _ h4) (fun _ h9 => h9) h9 h8 hn hfit hl hdg kk
theorem c_get (C : Kx p s m args c cc nL own E A) (hP : va_P E.1 vwCl ws H) {ci j a : Nat} {ty : FieldType} {fin : Bool} {v : Value} {fs : List Value} (hF : FLk own idx ci j ty fin) (q0 : Nat) (he : ws[q0]? = some (a, .inr (ci, fs))) (hv : fs[j]? = some v) (hdg : decode cc pc = .ok (.getfield idx, 3))
    (kk : W p l e R s m args below meth c H locs cells slots Q (F0 m (pc + 3) ls (v :: rest))) : W p l e R s m args below meth c H locs cells slots Q (F0 m pc ls (.ref a :: rest)) := by
  obtain ⟨Cn, T1, N1, ⟨h1, h2, -, -⟩, h3, h4, -, -, h5⟩ := hF
  exact va_get C.1.1 C.1.2.1 C.1.2.2.2.2 h2 C.1.2.2.2.1 C.2.1 hP q0 he h1 j h3 (C.1.2.2.2.2 _ h4) (fun _ h9 => h9) hv hdg kk
theorem c_ret (C : Kx p s m args c cc nL own E A) {ws0 : va_W} {u : Nat → Nat} (hA : A = va_A ws0 s.heap.size) (hP : va_P E.1 vwCl (F u) H) (hD : va_D A (F u)) (hS : va_S A s.heap H locs) (hr : meth.sig.returnType = none) (hlk : meth.locks = false) (hdg : decode cc pc = .ok (.return_, 1)) :
    W p l e R s m args below meth c H locs cells slots (MQ below (cQ E ws0 s.heap.size F) args s cells slots A) (F0 m pc ls []) := by
  subst hA
  exact W.vret C.1.1 C.1.2.1 hr (fun t ht hW => ⟨⟨u, rfl, trivial, by rw [ht]; exact hP, hD⟩, hS.F ht⟩) hS.2.2 hdg hlk
theorem c_free {x : Nat × va_E} (hD : va_D A (ws ++ [x])) (hS : va_S A s.heap H locs) (hA : ∀ q, s.heap.size ≤ q → A q) : ∀ q, va_A [x] H.size q → A q := by
  intro q hq
  rcases hq with ⟨k, ev, hk⟩ | hq
  · have hk0 : k = 0 := by
      have := (List.getElem?_eq_some_iff.mp hk).1
      simp at this
      exact this
    subst hk0
    simp at hk
    have := hD.2 ws.length x (by simp)
    rw [hk] at this
    exact this
  · exact hA q (Nat.le_trans hS.1 hq)
theorem c_join {x : Nat × va_E} {w1 : va_W} {H1 : Heap} (hP : va_P E.1 vwCl (ws ++ [x]) H) (hD : va_D A (ws ++ [x])) (hf : ∀ q, va_A [x] H.size q → A q) (hk : ∀ q : Nat, q < H.size → ¬ va_A [x] H.size q → H1[q]? = H[q]?) (hP1 : va_P E.1 vwCl w1 H1) (hD1 : va_D (va_A [x] H.size) w1) : va_P E.1 vwCl (ws ++ w1) H1 ∧ va_D A (ws ++ w1) := by
  have hin : ∀ (k : Nat) (q : Nat × va_E), ws[k]? = some q → (ws ++ [x])[k]? = some q := fun k q h => by
    rw [List.getElem?_append_left (List.getElem?_eq_some_iff.mp h).1]
    exact h
  have hlast : (ws ++ [x])[ws.length]? = some x := by simp
  have hout : ∀ (k : Nat) (q : Nat × va_E), ws[k]? = some q → ¬ va_A [x] H.size q.1 := by
    intro k q h z
    have hlt := (hP k q (hin k q h)).lt
    rcases z with ⟨i, ev, hi⟩ | z
    · have hi0 : i = 0 := by
        have := (List.getElem?_eq_some_iff.mp hi).1
        simp at this
        exact this
      subst hi0
      simp at hi
      have := hD.1 k ws.length q x (hin k q h) hlast (by rw [hi])
      have hl := (List.getElem?_eq_some_iff.mp h).1
      omega
    · omega
  refine ⟨va_P.app (fun k q h => (hP k q (hin k q h)).kept (hk _ (hP k q (hin k q h)).lt (hout k q h))) hP1, va_D.app ⟨fun i j a b ha hb => hD.1 i j a b (hin i a ha) (hin j b hb), fun k q h => hD.2 k q (hin k q h)⟩ (hD1.weaken (fun k q _ h => hf _ h)) (fun i j a b ha hb z => ?_)⟩
  have h1 := hD1.2 j b hb
  rw [← z] at h1
  exact hout i a ha h1
theorem c_pre (C : Kx p s m args c cc nL own E A) {x : Nat × va_E} (hP : va_P E.1 vwCl (ws ++ [x]) H) (hD : va_D A (ws ++ [x])) (hS : va_S A s.heap H locs) (av : List Value) : PreS s H (cPc E [x] H.size av) av := by
  refine ⟨cBlind, fun U hU hW => ⟨rfl, by rw [hU], ⟨?_, va_K.moved hW.alike C.2.1, C.2.2.1.warm hW, ?_, va_AO.moved hW.alike C.2.2.2.2.1.1, va_AO.moved hW.alike C.2.2.2.2.1.2⟩, ?_⟩⟩
  · rw [hU]
    intro k q hk
    have hk0 : k = 0 := by
      have := (List.getElem?_eq_some_iff.mp hk).1
      simp at this
      exact this
    subst hk0
    simp at hk
    subst hk
    exact hP ws.length _ (by simp)
  · rw [hU]
    exact ((C.2.2.2.1.kept (H1 := H) (fun a h1 h2 => hS.2.1 a h1 h2)).narrow (c_free hD hS C.2.2.2.2.2)).moved hW.alike
  · refine ⟨fun i j a b ha hb _ => ?_, fun _ _ _ => trivial⟩
    have h1 := (List.getElem?_eq_some_iff.mp ha).1
    have h2 := (List.getElem?_eq_some_iff.mp hb).1
    simp at h1 h2
    omega
theorem c_callIN (C : Kx p s m args c cc nL own E A) {x : Nat × va_E} {host : String} (hP : va_P E.1 vwCl (ws ++ [x]) H) (hD : va_D A (ws ++ [x])) (hS : va_S A s.heap H locs) (hM : Met l y (Cond.code y bytes maxL none :: TB) rm (cPc E [x] H.size (.ref x.1 :: As)) (cQ E [x] H.size F) mc ms (va_A [x] H.size)) (hmt : MtI y bytes maxL n) (hlk : (own, idx, y, host) ∈ nMs) (hyn : y.name = "<init>") (hR : rm.frames + 1 ≤ R.frames ∧ 8 + (maxL + 11) + rm.locals ≤ R.locals) (h0 : rm.cells = mc ∧ rm.slots = ms) (hn : As.length = n) (hls : ls.size = nL) (hst : st0 = As.reverse ++ .ref x.1 :: rest) (hr : (rest.map fun v => v.category).sum ≤ 8) (hdg : decode cc pc = .ok (.invokespecial idx, 3)) (hcs : cells + mc ≤ R.cells ∧ slots + ms ≤ R.slots)
    (kk : ∀ (u : Nat → Nat) (H1 : Heap) (locs1 : List Loc), va_P E.1 vwCl (ws ++ F u) H1 → va_D A (ws ++ F u) → va_S A s.heap H1 locs1 → W p l e R s m args below meth c H1 locs1 (cells + mc) (slots + ms) Q (F0 m (pc + 3) ls rest)) : W p l e R s m args below meth c H locs cells slots Q (F0 m pc ls st0) := by
  have hf := c_free hD hS C.2.2.2.2.2
  have hts := C.1.2.2.2.2
  refine va_callv (A0 := A) (H0 := s.heap) (va_runIN (rest := rest) C.1 hM ⟨va_cnB n hts (TB_cons hmt.1.2.2) rfl h0.1 h0.2 (C.2.2.1.2 _ hlk) (hts _ hmt.1.2.1) hmt.2 hR, hyn, hts _ hmt.1.1⟩ (c_pre C hP hD hS _) rfl hn hls hst (lv_room hr) hdg hcs) hS (fun q _ h => hf q h) hf (fun u t H1 locs1 ht _ _ hB hz hk hS1 => ?_)
  obtain ⟨g1, g2⟩ := c_join (H1 := H1) hP hD hf hk (by rw [← ht]; exact hB.1) hB.2
  exact kk u H1 locs1 g1 g2 hS1
theorem c_callI (C : Kx p s m args c cc nL own E A) {x : Nat × va_E} (hP : va_P E.1 vwCl (ws ++ [x]) H) (hD : va_D A (ws ++ [x])) (hS : va_S A s.heap H locs) (hM : Met l y (Cond.code y bytes maxL none :: TB) rm (cPc E [x] H.size (.ref x.1 :: As)) (cQ E [x] H.size F) mc ms (va_A [x] H.size)) (hmt : MtI y bytes maxL n) (hlk : Cond.methodLink own idx y ∈ TB) (hyn : y.name = "<init>") (hR : rm.frames + 1 ≤ R.frames ∧ 8 + (maxL + 11) + rm.locals ≤ R.locals) (h0 : rm.cells = mc ∧ rm.slots = ms) (hn : As.length = n) (hls : ls.size = nL) (hst : st0 = As.reverse ++ .ref x.1 :: rest) (hr : (rest.map fun v => v.category).sum ≤ 8) (hdg : decode cc pc = .ok (.invokespecial idx, 3)) (hcs : cells + mc ≤ R.cells ∧ slots + ms ≤ R.slots)
    (kk : ∀ (u : Nat → Nat) (H1 : Heap) (locs1 : List Loc), va_P E.1 vwCl (ws ++ F u) H1 → va_D A (ws ++ F u) → va_S A s.heap H1 locs1 → W p l e R s m args below meth c H1 locs1 (cells + mc) (slots + ms) Q (F0 m (pc + 3) ls rest)) : W p l e R s m args below meth c H locs cells slots Q (F0 m pc ls st0) := by
  have hf := c_free hD hS C.2.2.2.2.2
  have hts := C.1.2.2.2.2
  refine va_callv (A0 := A) (H0 := s.heap) (va_runI (rest := rest) C.1 hM ⟨callB_of n hts (TB_cons hmt.1.2.2) rfl h0.1 h0.2 (hts _ hmt.1.2.1) (hts _ hlk) hmt.2 hR, hyn, hts _ hmt.1.1⟩ (c_pre C hP hD hS _) rfl hn hls hst (lv_room hr) hdg hcs) hS (fun q _ h => hf q h) hf (fun u t H1 locs1 ht _ _ hB hz hk hS1 => ?_)
  obtain ⟨g1, g2⟩ := c_join (H1 := H1) hP hD hf hk (by rw [← ht]; exact hB.1) hB.2
  exact kk u H1 locs1 g1 g2 hS1
theorem c_new (C : Kx p s m args c cc nL own E A) (hP : va_P E.1 vwCl ws H) (hD : va_D A ws) (hS : va_S A s.heap H locs) {ci N : Nat} {Cn : String} {T : u_T} {fs : List Value} (hc : CLf ci Cn T N) (ty : Nat → FieldType) (hty : ∀ k, k < N → parseFieldDescriptor (T k).2.2.1 = some (ty k)) (hcl : Cond.classLink own idx Cn ∈ TB) (hins : Cond.instantiable Cn N ∈ TB) (hini : Cond.initialized Cn ∈ TB) (hfs : ∀ j, j < N → defaultValue (ty j) = vp_V fs j) (hcs : cells + 1 ≤ R.cells ∧ slots + N ≤ R.slots) (hdg : decode cc pc = .ok (.new idx, 3))
    (kk : ∀ (q : Nat) (H1 : Heap), va_P E.1 vwCl (ws ++ [(q, .inr (ci, fs))]) H1 → va_D A (ws ++ [(q, .inr (ci, fs))]) → va_S A s.heap H1 locs → W p l e R s m args below meth c H1 locs (cells + 1) (slots + N) Q (F0 m (pc + 3) ls (.ref q :: rest))) : W p l e R s m args below meth c H locs cells slots Q (F0 m pc ls rest) :=
  va_new C.1.1 C.1.2.1 C.1.2.2.2.2 hc.2.1 ty hty C.1.2.2.2.1 (C.1.2.2.2.2 _ hcl) (C.1.2.2.2.2 _ hins) (C.1.2.2.2.2 _ hini) C.2.1 hP hD hS C.2.2.2.2.2 hc.1 hfs hcs.1 hcs.2 hdg kk
theorem c_anew (C : Kx p s m args c cc nL own E A) (hP : va_P E.1 vwCl ws H) (hD : va_D A ws) (hS : va_S A s.heap H locs) {n : Int32} {N t0 : Nat} {Cn : String} {cT : ClassId} (hcl : Cond.classLink own idx Cn ∈ TB) (hov : va_AO Cn s) (ht : (wT E)[t0]? = some (cT, .object Cn)) (hn : ¬ n < 0) (hN : n.toNatClampNeg = N) (hby : N * 4 ≤ 536870912) (hcs : cells + 1 ≤ R.cells ∧ slots + N ≤ R.slots) (hdg : decode cc pc = .ok (.anewarray idx, 3))
    (kk : ∀ (q : Nat) (H1 : Heap), va_P E.1 vwCl (ws ++ [(q, .inl (cT, N, .inr (.inr (.inr (.inr (fun _ => none))))))]) H1 → va_D A (ws ++ [(q, .inl (cT, N, .inr (.inr (.inr (.inr (fun _ => none))))))]) → va_S A s.heap H1 locs → W p l e R s m args below meth c H1 locs (cells + 1) (slots + N) Q (F0 m (pc + 3) ls (.ref q :: rest))) : W p l e R s m args below meth c H locs cells slots Q (F0 m pc ls (.int n :: rest)) := by
  refine va_newq C.1.1 C.1.2.1 C.1.2.2.2.1 (C.1.2.2.2.2 _ hcl) hov C.2.1 hP hD hS C.2.2.2.2.2 hn hN hby hcs.1 hcs.2 hdg fun q cA H1 hK1 hP1 hD1 hS1 => ?_
  obtain ⟨_, _, _, _, _, h1⟩ := (hK1.2 3 (cA, .object Cn) rfl).2
  obtain ⟨_, _, _, _, _, h2⟩ := (C.2.1.2 t0 _ ht).2
  have e1 : cA = cT := Option.some.inj (h1.symm.trans h2)
  subst e1
  exact kk q H1 hP1 hD1 hS1
theorem c_aast (C : Kx p s m args c cc nL own E A) (hP : va_P E.1 vwCl ws H) (hD : va_D A ws) (hS : va_S A s.heap H locs) (q0 t0 qk ci : Nat) {cA : ClassId} {r : vw_C} {a n v : Nat} {vs : List Value} {f : Nat → Option Nat} (ha : ws[q0]? = some (a, .inl (cA, n, .inr (.inr (.inr (.inr f)))))) (ht : (wT E)[t0]? = some (cA, .object r.1)) (hv : ws[qk]? = some (v, .inr (ci, vs))) (hc : vwCl[ci]? = some r) {i : Int32} (hin : vp_in i n) (hdg : decode cc pc = .ok (.aastore, 1))
    (kk : ∀ (H1 : Heap) (locs1 : List Loc), va_P E.1 vwCl (ws.set q0 (a, .inl (cA, n, .inr (.inr (.inr (.inr (va_up f i.toNatClampNeg (some v)))))))) H1 → va_D A (ws.set q0 (a, .inl (cA, n, .inr (.inr (.inr (.inr (va_up f i.toNatClampNeg (some v)))))))) → va_S A s.heap H1 locs1 → W p l e R s m args below meth c H1 locs1 cells slots Q (F0 m (pc + 1) ls rest)) : W p l e R s m args below meth c H locs cells slots Q (F0 m pc ls (.ref v :: .int i :: .ref a :: rest)) :=
  va_astq C.1.1 C.1.2.1 C.2.1 hP hD hS q0 t0 qk ci ha ht hv hc hin hdg kk
end CR
