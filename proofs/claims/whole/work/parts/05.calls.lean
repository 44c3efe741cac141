section WC
variable {p : Program} {l : Launch} {e : Env} {R : Room} {s : State} {m : MethodId} {args : Array Value} {below : List Frame} {meth : Method} {c : Code} {H : Heap} {locs : List Loc} {cells slots : Nat} {Q : State → Prop}
variable {cc : ByteArray} {nL : Nat} {own : String} {E : wE} {A : Nat → Prop} {σ : Mem} {pc : Nat} {ls : Array Slot} {rest st0 : List Value}
variable {y : MethodName} {bytes : ByteArray} {maxL n idx : Nat} {ret : Option FieldType} {rm : Room} {Qc : Array Value → State → Outcome → State → Prop} {As : List Value}
theorem x_cb (C : Cx p s m args c cc nL own E A) (hc : Cond.code y bytes maxL ret ∈ TB) (hi : Cond.initialized y.cls ∈ TB) (hl : Cond.methodLink own idx y ∈ TB) (hd : y.cls ≠ "java/lang/invoke/MethodHandle" ∧ y.cls ≠ "java/lang/invoke/VarHandle" ∧ (parseMethodDescriptor y.desc).map (fun d => d.parameters.length) = some n) (h0 : rm.cells = 0 ∧ rm.slots = 0) (hR : rm.frames + 1 ≤ R.frames ∧ 8 + (maxL + 11) + rm.locals ≤ R.locals) :
    CallB R s args own idx y bytes maxL ret (Cond.code y bytes maxL ret :: TB) rm 0 0 n :=
  callB_of n C.1.2.2.2.2 (TB_cons hc) rfl h0.1 h0.2 (C.1.2.2.2.2 _ hi) (C.1.2.2.2.2 _ hl) hd hR
theorem x_cn (C : Cx p s m args c cc nL own E A) {host : String} (hc : Cond.code y bytes maxL ret ∈ TB) (hi : Cond.initialized y.cls ∈ TB) (hl : (own, idx, y, host) ∈ nMs) (hd : y.cls ≠ "java/lang/invoke/MethodHandle" ∧ y.cls ≠ "java/lang/invoke/VarHandle" ∧ (parseMethodDescriptor y.desc).map (fun d => d.parameters.length) = some n) (h0 : rm.cells = 0 ∧ rm.slots = 0) (hR : rm.frames + 1 ≤ R.frames ∧ 8 + (maxL + 11) + rm.locals ≤ R.locals) :
    va_CN R s args own idx y host bytes maxL ret (Cond.code y bytes maxL ret :: TB) rm 0 0 n :=
  va_cnB n C.1.2.2.2.2 (TB_cons hc) rfl h0.1 h0.2 (C.2.2.1.2 _ hl) (C.1.2.2.2.2 _ hi) hd hR
theorem x_runV (C : Cx p s m args c cc nL own E A) (hw : wd E A s σ H locs) {k ci : Nat} {T : u_T} {N : Nat} {fs : List (Option Nat)} (hM : Met l y (Cond.code y bytes maxL ret :: TB) rm (wPc E σ (.ref (gE E k) :: As)) Qc 0 0 (wA E)) (hmt : MtV y bytes maxL ret n) (hlk : Cond.methodLink own idx y ∈ TB) (hk : sE E k = .inr (.inr (ci, fs))) (hN : k < nE E) (hci : vwCl[ci]? = some (y.cls, T, N)) (hR : rm.frames + 1 ≤ R.frames ∧ 8 + (maxL + 11) + rm.locals ≤ R.locals) (h0 : rm.cells = 0 ∧ rm.slots = 0) (hn : As.length = n) (hls : ls.size = nL) (hst : st0 = As.reverse ++ .ref (gE E k) :: rest) (hr : (rest.map fun v => v.category).sum ≤ 8) (hdg : decode cc pc = .ok (.invokevirtual idx, 3)) (hcs : cells ≤ R.cells ∧ slots ≤ R.slots) :
    va_Run p l e R s m args below meth c H locs cells slots 0 0 (F0 m pc ls st0) rest (Qc (Value.ref (gE E k) :: As).toArray) (wA E) :=
  va_runV (rest := rest) C.1 hM ⟨x_cb C hmt.1.2.2.2 hmt.1.2.2.1 hlk hmt.2 h0 hR, C.1.2.2.2.2 _ hmt.1.1, C.1.2.2.2.2 _ hmt.1.2.1⟩
    ⟨wBlind, va_recv (q := (y.cls, T, N)) (ci := ci) (fs := wFs E.2.1 (σ k) fs) C.2.1 hw.1 hci (q0 := k) (by rw [wL_at hN, hk]; rfl), fun U hU hW => ⟨rfl, wBof C hw hU hW⟩⟩ rfl hn hls hst (lv_room hr) hdg ⟨by omega, by omega⟩
theorem x_runVN (C : Cx p s m args c cc nL own E A) (hw : wd E A s σ H locs) {k ci : Nat} {T : u_T} {N : Nat} {host : String} {fs : List (Option Nat)} (hM : Met l y (Cond.code y bytes maxL ret :: TB) rm (wPc E σ (.ref (gE E k) :: As)) Qc 0 0 (wA E)) (hmt : MtV y bytes maxL ret n) (hlk : (own, idx, y, host) ∈ nMs) (hk : sE E k = .inr (.inr (ci, fs))) (hN : k < nE E) (hci : vwCl[ci]? = some (y.cls, T, N)) (hR : rm.frames + 1 ≤ R.frames ∧ 8 + (maxL + 11) + rm.locals ≤ R.locals) (h0 : rm.cells = 0 ∧ rm.slots = 0) (hn : As.length = n) (hls : ls.size = nL) (hst : st0 = As.reverse ++ .ref (gE E k) :: rest) (hr : (rest.map fun v => v.category).sum ≤ 8) (hdg : decode cc pc = .ok (.invokevirtual idx, 3)) (hcs : cells ≤ R.cells ∧ slots ≤ R.slots) :
    va_Run p l e R s m args below meth c H locs cells slots 0 0 (F0 m pc ls st0) rest (Qc (Value.ref (gE E k) :: As).toArray) (wA E) :=
  va_runVN (rest := rest) C.1 hM ⟨x_cn C hmt.1.2.2.2 hmt.1.2.2.1 hlk hmt.2 h0 hR, C.1.2.2.2.2 _ hmt.1.1, C.1.2.2.2.2 _ hmt.1.2.1⟩
    ⟨wBlind, va_recv (q := (y.cls, T, N)) (ci := ci) (fs := wFs E.2.1 (σ k) fs) C.2.1 hw.1 hci (q0 := k) (by rw [wL_at hN, hk]; rfl), fun U hU hW => ⟨rfl, wBof C hw hU hW⟩⟩ rfl hn hls hst (lv_room hr) hdg ⟨by omega, by omega⟩
theorem x_runS (C : Cx p s m args c cc nL own E A) (hw : wd E A s σ H locs) (hM : Met l y (Cond.code y bytes maxL ret :: TB) rm (wPc E σ As) Qc 0 0 (wA E)) (hmt : MtS y bytes maxL ret n) (hlk : Cond.methodLink own idx y ∈ TB) (hR : rm.frames + 1 ≤ R.frames ∧ 8 + (maxL + 11) + rm.locals ≤ R.locals) (h0 : rm.cells = 0 ∧ rm.slots = 0) (hn : As.length = n) (hls : ls.size = nL) (hst : st0 = As.reverse ++ rest) (hr : (rest.map fun v => v.category).sum ≤ 8) (hdg : decode cc pc = .ok (.invokestatic idx, 3)) (hcs : cells ≤ R.cells ∧ slots ≤ R.slots) :
    va_Run p l e R s m args below meth c H locs cells slots 0 0 (F0 m pc ls st0) rest (Qc As.toArray) (wA E) :=
  va_runS (rest := rest) C.1 hM ⟨x_cb C hmt.1.2.2 hmt.1.2.1 hlk hmt.2 h0 hR, C.1.2.2.2.2 _ hmt.1.1⟩
    ⟨wBlind, fun U hU hW => ⟨rfl, wBof C hw hU hW⟩⟩ rfl hn hls hst (lv_room hr) hdg ⟨by omega, by omega⟩
theorem x_runSN (C : Cx p s m args c cc nL own E A) (hw : wd E A s σ H locs) {host : String} (hM : Met l y (Cond.code y bytes maxL ret :: TB) rm (wPc E σ As) Qc 0 0 (wA E)) (hmt : MtS y bytes maxL ret n) (hlk : (own, idx, y, host) ∈ nMs) (hR : rm.frames + 1 ≤ R.frames ∧ 8 + (maxL + 11) + rm.locals ≤ R.locals) (h0 : rm.cells = 0 ∧ rm.slots = 0) (hn : As.length = n) (hls : ls.size = nL) (hst : st0 = As.reverse ++ rest) (hr : (rest.map fun v => v.category).sum ≤ 8) (hdg : decode cc pc = .ok (.invokestatic idx, 3)) (hcs : cells ≤ R.cells ∧ slots ≤ R.slots) :
    va_Run p l e R s m args below meth c H locs cells slots 0 0 (F0 m pc ls st0) rest (Qc As.toArray) (wA E) :=
  va_runSN (rest := rest) C.1 hM ⟨x_cn C hmt.1.2.2 hmt.1.2.1 hlk hmt.2 h0 hR, C.1.2.2.2.2 _ hmt.1.1, trivial⟩
    ⟨wBlind, fun U hU hW => ⟨rfl, wBof C hw hU hW⟩⟩ rfl hn hls hst (lv_room hr) hdg ⟨by omega, by omega⟩
theorem x_calli (C : Cx p s m args c cc nL own E A) (hw : wd E A s σ H locs) {Qf : Int32 → Mem → Prop} {a : Array Value} (hr : va_Run p l e R s m args below meth c H locs cells slots 0 0 (F0 m pc ls st0) rest (wQi E Qf a) (wA E))
    (kk : ∀ (r : Int32) (τ : Mem) (H1 : Heap) (locs1 : List Loc), Qf r τ → wd E A s τ H1 locs1 → W p l e R s m args below meth c H1 locs1 cells slots Q (F0 m (pc + 3) ls (.int r :: rest))) : W p l e R s m args below meth c H locs cells slots Q (F0 m pc ls st0) :=
  va_calli hr hw.2 (fun q _ h => C.2.2.2.2.2 q h) C.2.2.2.2.2 (fun r u t H1 locs1 ht _ hq hB _ _ hS => kk r u H1 locs1 hq ⟨by rw [← ht]; exact hB.1, hS⟩)
theorem x_calll (C : Cx p s m args c cc nL own E A) (hw : wd E A s σ H locs) {Qf : Int64 → Mem → Prop} {a : Array Value} (hr : va_Run p l e R s m args below meth c H locs cells slots 0 0 (F0 m pc ls st0) rest (wQl E Qf a) (wA E))
    (kk : ∀ (r : Int64) (τ : Mem) (H1 : Heap) (locs1 : List Loc), Qf r τ → wd E A s τ H1 locs1 → W p l e R s m args below meth c H1 locs1 cells slots Q (F0 m (pc + 3) ls (.long r :: rest))) : W p l e R s m args below meth c H locs cells slots Q (F0 m pc ls st0) :=
  va_calll hr hw.2 (fun q _ h => C.2.2.2.2.2 q h) C.2.2.2.2.2 (fun r u t H1 locs1 ht _ hq hB _ _ hS => kk r u H1 locs1 hq ⟨by rw [← ht]; exact hB.1, hS⟩)
theorem x_callv (C : Cx p s m args c cc nL own E A) (hw : wd E A s σ H locs) {Qf : Mem → Prop} {a : Array Value} (hr : va_Run p l e R s m args below meth c H locs cells slots 0 0 (F0 m pc ls st0) rest (wQv E Qf a) (wA E))
    (kk : ∀ (τ : Mem) (H1 : Heap) (locs1 : List Loc), Qf τ → wd E A s τ H1 locs1 → W p l e R s m args below meth c H1 locs1 cells slots Q (F0 m (pc + 3) ls rest)) : W p l e R s m args below meth c H locs cells slots Q (F0 m pc ls st0) :=
  va_callv hr hw.2 (fun q _ h => C.2.2.2.2.2 q h) C.2.2.2.2.2 (fun u t H1 locs1 ht _ hq hB _ _ hS => kk u H1 locs1 hq ⟨by rw [← ht]; exact hB.1, hS⟩)
theorem x_callr (C : Cx p s m args c cc nL own E A) (hw : wd E A s σ H locs) {k : Nat} {Qf : Mem → Prop} {a : Array Value} (hr : va_Run p l e R s m args below meth c H locs cells slots 0 0 (F0 m pc ls st0) rest (wQr E k Qf a) (wA E))
    (kk : ∀ (τ : Mem) (H1 : Heap) (locs1 : List Loc), Qf τ → wd E A s τ H1 locs1 → W p l e R s m args below meth c H1 locs1 cells slots Q (F0 m (pc + 3) ls (.ref (gE E k) :: rest))) : W p l e R s m args below meth c H locs cells slots Q (F0 m pc ls st0) :=
  va_callr hr hw.2 (fun q _ h => C.2.2.2.2.2 q h) C.2.2.2.2.2 (fun u ra t H1 locs1 ht _ hq hB _ _ hS => by
    obtain ⟨rfl, hB⟩ := hB
    exact kk u H1 locs1 hq ⟨by rw [← ht]; exact hB.1, hS⟩)
theorem x_iret (C : Cx p s m args c cc nL own E (wA E)) (hw : wd E (wA E) s σ H locs) (hr : meth.sig.returnType = some .int) (hlk : meth.locks = false) {Qf : Int32 → Mem → Prop} {v : Int32} (hq : Qf v σ) (hdg : decode cc pc = .ok (.ireturn, 1)) :
    W p l e R s m args below meth c H locs cells slots (MQ below (wQi E Qf) args s cells slots (wA E)) (F0 m pc ls [.int v]) :=
  W.iret (v := v) C.1.1 C.1.2.1 hr (fun t ht hW => ⟨⟨v, σ, rfl, hq, wBof C hw ht hW⟩, hw.2.F ht⟩) hw.2.2.2 hdg hlk
theorem x_zret (C : Cx p s m args c cc nL own E (wA E)) (hw : wd E (wA E) s σ H locs) (hr : meth.sig.returnType = some .boolean) (hlk : meth.locks = false) {Qf : Int32 → Mem → Prop} {v : Int32} (hn : narrow .boolean (.int v) = .int v) (hq : Qf v σ) (hdg : decode cc pc = .ok (.ireturn, 1)) :
    W p l e R s m args below meth c H locs cells slots (MQ below (wQi E Qf) args s cells slots (wA E)) (F0 m pc ls [.int v]) :=
  W.zret (v := v) (ty := .boolean) C.1.1 C.1.2.1 hr hn (fun t ht hW => ⟨⟨v, σ, rfl, hq, wBof C hw ht hW⟩, hw.2.F ht⟩) hw.2.2.2 hdg hlk
theorem x_lret (C : Cx p s m args c cc nL own E (wA E)) (hw : wd E (wA E) s σ H locs) (hr : meth.sig.returnType = some .long) (hlk : meth.locks = false) {Qf : Int64 → Mem → Prop} {v : Int64} (hq : Qf v σ) (hdg : decode cc pc = .ok (.lreturn, 1)) :
    W p l e R s m args below meth c H locs cells slots (MQ below (wQl E Qf) args s cells slots (wA E)) (F0 m pc ls [.long v]) :=
  W.lret (v := v) C.1.1 C.1.2.1 hr (fun t ht hW => ⟨⟨v, σ, rfl, hq, wBof C hw ht hW⟩, hw.2.F ht⟩) hw.2.2.2 hdg hlk
theorem x_vret (C : Cx p s m args c cc nL own E (wA E)) (hw : wd E (wA E) s σ H locs) (hr : meth.sig.returnType = none) (hlk : meth.locks = false) {Qf : Mem → Prop} (hq : Qf σ) (hdg : decode cc pc = .ok (.return_, 1)) :
    W p l e R s m args below meth c H locs cells slots (MQ below (wQv E Qf) args s cells slots (wA E)) (F0 m pc ls []) :=
  W.vret C.1.1 C.1.2.1 hr (fun t ht hW => ⟨⟨σ, rfl, hq, wBof C hw ht hW⟩, hw.2.F ht⟩) hw.2.2.2 hdg hlk
theorem x_aret (C : Cx p s m args c cc nL own E (wA E)) (hw : wd E (wA E) s σ H locs) {o : String} (hr : meth.sig.returnType = some (.object o)) (hlk : meth.locks = false) {k : Nat} {Qf : Mem → Prop} (hq : Qf σ) (hdg : decode cc pc = .ok (.areturn, 1)) :
    W p l e R s m args below meth c H locs cells slots (MQ below (wQr E k Qf) args s cells slots (wA E)) (F0 m pc ls [.ref (gE E k)]) :=
  W.aret (v := .ref (gE E k)) C.1.1 C.1.2.1 hr (Or.inl ⟨o, rfl⟩) (Or.inr ⟨_, rfl⟩) (fun t ht hW => ⟨⟨σ, gE E k, rfl, hq, rfl, wBof C hw ht hW⟩, hw.2.F ht⟩) hw.2.2.2 hdg hlk
/-- the opening of every contract -/
theorem wMet {av : List Value} (hy : plainName y.cls = true) (hI : wI E) (hlen : (lg_sl av).length ≤ maxL)
    (body : ∀ (p : Program) (e : Env) (s : State) (m : MethodId) (args : Array Value) (below : List Frame) (meth : Method) (c : Code) (ls : Array Slot), Cx p s m args c bytes maxL y.cls E (wA E) → meth.sig.returnType = ret → meth.locks = false → lv_has ls maxL (lv_args 0 av) → wd E (wA E) s σ s.heap [] →
      W p l e rm s m args below meth c s.heap [] 0 0 (MQ below Qc args s 0 0 (wA E)) (F0 m 0 ls [])) : Met l y (Cond.code y bytes maxL ret :: TB) rm (wPc E σ av) Qc 0 0 (wA E) := by
  refine Met.ofW (cc := bytes) (maxL := maxL) (ret := ret) hy rfl ?_
  intro p e s m args below meth c s₁ B hml hv
  obtain ⟨rfl, hP, hK, hN, hS⟩ := hv
  have hts := atoms_spec (ws := Cond.code y bytes maxL ret :: TB) B.pre
  have hl := lv_entry av (n := maxL) hlen
  rw [lg_entry_eq]
  exact body p e s m _ below meth c _ ⟨⟨B.exec, B.bytes, hml, findClass_of_methodNamed B.named, fun w hw => hts w (List.mem_cons_of_mem _ hw)⟩, hK, hN, hS, hI, fun _ h => h⟩ B.returns B.notSynchronized hl ⟨hP, va_S.rf⟩
theorem x_copy (C : Cx p s m args c cc nL own E A) (hw : wd E A s σ H locs) (hls : ls.size = nL) {k0 k1 n0 n1 : Nat} {sp dp n : Int32} (hlk : Cond.methodLink own idx arraycopyName ∈ TB) (h0 : sE E k0 = .inl n0) (hN0 : k0 < nE E) (h1 : sE E k1 = .inl n1) (hN1 : k1 < nE E)
    (hnat : Cond.native arraycopyName ∈ TB) (hstat : Cond.static arraycopyName ∈ TB) (hini : Cond.initialized "java/lang/System" ∈ TB)
    (hb : (¬ sp < 0 ∧ ¬ dp < 0 ∧ ¬ n < 0) ∧ sp.toNatClampNeg + n.toNatClampNeg ≤ n0 ∧ dp.toNatClampNeg + n.toNatClampNeg ≤ n1) (hf : 1 ≤ R.frames) (hlo : (rest.map fun v => v.category).sum + (nativeFrameWords "java/lang/System" "arraycopy" 5 + 11) ≤ R.locals) (hdg : decode cc pc = .ok (.invokestatic idx, 3))
    (kk : ∀ (H1 : Heap) (locs1 : List Loc), wd E A s (fun c => if c = k1 then va_cpy (σ k0) (σ k1) sp.toNatClampNeg dp.toNatClampNeg n.toNatClampNeg else σ c) H1 locs1 → W p l e R s m args below meth c H1 locs1 cells slots Q (F0 m (pc + 3) ls rest)) : W p l e R s m args below meth c H locs cells slots Q (F0 m pc ls (.int n :: .int dp :: .ref (gE E k1) :: .int sp :: .ref (gE E k0) :: rest)) := by
  have hts := C.1.2.2.2.2
  refine va_copyi (f := σ k0) (g := σ k1) (ty := .int) C.1.1 C.1.2.1 (C.1.2.2.1.trans hls.symm) C.1.2.2.2.1 (hts _ hlk) (hts _ hnat) (hts _ hstat) (hts _ hini) C.2.1 hw.1 (wD C.2.2.2.2.1 C.2.2.2.2.2) hw.2 k0 k1 0 0 (by rw [wL_at hN0, h0]; rfl) (by rw [wL_at hN1, h1]; rfl) rfl rfl rfl hb.1.1 hb.1.2.1 hb.1.2.2 hb.2.1 hb.2.2 (fun _ _ => rfl) hf hlo hdg fun H1 locs1 g1 g2 g3 => kk H1 locs1 ⟨?_, g3⟩
  have e := wL_set (E := E) (σ := σ) (τ := fun c => if c = k1 then va_cpy (σ k0) (σ k1) sp.toNatClampNeg dp.toNatClampNeg n.toNatClampNeg else σ c) hN1 (fun c hc => by simp [hc])
  rw [h1] at e
  simp only [if_true] at e
  rw [← e]
  exact g1
theorem x_stP (C : Cx p s m args c cc nL own E A) (hw : wd E A s σ H locs) (hlk : Cond.fieldLink own idx "MayPole" "BEATS_OF_PLACES" "[I" ∈ TB) (hdg : decode cc pc = .ok (.getstatic idx, 3))
    (kk : W p l e R s m args below meth c H locs cells slots Q (F0 m (pc + 3) ls (.ref (aE E).1 :: rest))) : W p l e R s m args below meth c H locs cells slots Q (F0 m pc ls rest) :=
  va_gets C.1.1 C.1.2.1 C.2.2.2.1.1.1 hw.2 C.1.2.2.2.1 (C.1.2.2.2.2 _ hlk) (fun _ h => h) hdg kk
theorem x_stQ (C : Cx p s m args c cc nL own E A) (hw : wd E A s σ H locs) (hlk : Cond.fieldLink own idx "MayPole" "BEATS_OF_PLANS" "[I" ∈ TB) (hdg : decode cc pc = .ok (.getstatic idx, 3))
    (kk : W p l e R s m args below meth c H locs cells slots Q (F0 m (pc + 3) ls (.ref (aE E).2 :: rest))) : W p l e R s m args below meth c H locs cells slots Q (F0 m pc ls rest) :=
  va_gets C.1.1 C.1.2.1 C.2.2.2.1.2.1 hw.2 C.1.2.2.2.1 (C.1.2.2.2.2 _ hlk) (fun _ h => h) hdg kk
theorem x_lenP (C : Cx p s m args c cc nL own E A) (hw : wd E A s σ H locs) (hdg : decode cc pc = .ok (.arraylength, 1))
    (kk : W p l e R s m args below meth c H locs cells slots Q (F0 m (pc + 1) ls (.int 4 :: rest))) : W p l e R s m args below meth c H locs cells slots Q (F0 m pc ls (.ref (aE E).1 :: rest)) :=
  va_tlen C.1.1 C.1.2.1 C.2.2.2.1.1.2 hw.2 rfl hdg kk
theorem x_lenQ (C : Cx p s m args c cc nL own E A) (hw : wd E A s σ H locs) (hdg : decode cc pc = .ok (.arraylength, 1))
    (kk : W p l e R s m args below meth c H locs cells slots Q (F0 m (pc + 1) ls (.int 3 :: rest))) : W p l e R s m args below meth c H locs cells slots Q (F0 m pc ls (.ref (aE E).2 :: rest)) :=
  va_tlen C.1.1 C.1.2.1 C.2.2.2.1.2.2 hw.2 rfl hdg kk
def stPi (i : Nat) : Int32 := match i with | 0 => 0 | 1 => 6 | 2 => 13 | _ => 23
def stQi (i : Nat) : Int32 := match i with | 0 => 3 | 1 => 11 | _ => 23
theorem x_ldP (C : Cx p s m args c cc nL own E A) (hw : wd E A s σ H locs) {i : Int32} (hin : vp_in i 4) (hdg : decode cc pc = .ok (.iaload, 1))
    (kk : W p l e R s m args below meth c H locs cells slots Q (F0 m (pc + 1) ls (.int (stPi i.toNatClampNeg) :: rest))) : W p l e R s m args below meth c H locs cells slots Q (F0 m pc ls (.int i :: .ref (aE E).1 :: rest)) :=
  va_ti C.1.1 C.1.2.1 C.2.2.2.1.1.2 hw.2 hin rfl hdg kk
theorem x_ldQ (C : Cx p s m args c cc nL own E A) (hw : wd E A s σ H locs) {i : Int32} (hin : vp_in i 3) (hdg : decode cc pc = .ok (.iaload, 1))
    (kk : W p l e R s m args below meth c H locs cells slots Q (F0 m (pc + 1) ls (.int (stQi i.toNatClampNeg) :: rest))) : W p l e R s m args below meth c H locs cells slots Q (F0 m pc ls (.int i :: .ref (aE E).2 :: rest)) :=
  va_ti C.1.1 C.1.2.1 C.2.2.2.1.2.2 hw.2 hin rfl hdg kk
/-- two roads that push one int and meet again -/
theorem x_dia {pcJ : Nat} {g : JFrame} {cnd : Prop} [Decidable cnd] {a b : Int32} (rest : List Value)
    (hJ : W p l e R s m args below meth c H locs cells slots Q (F0 m pcJ ls (.int (if cnd then a else b) :: rest)))
    (k : (cnd → W p l e R s m args below meth c H locs cells slots Q (F0 m pcJ ls (.int a :: rest))) → (¬ cnd → W p l e R s m args below meth c H locs cells slots Q (F0 m pcJ ls (.int b :: rest))) → W p l e R s m args below meth c H locs cells slots Q g) : W p l e R s m args below meth c H locs cells slots Q g :=
  k (fun h => by rw [if_pos h] at hJ; exact hJ) (fun h => by rw [if_neg h] at hJ; exact hJ)
end WC
/-- decode rows of a method, all at once -/
def dOk (cc : ByteArray) (t : List (Nat × Instr × Nat)) : Bool := t.all (fun q => decide (decode cc q.1 = .ok (q.2.1, q.2.2)))
theorem dAt {cc : ByteArray} {t : List (Nat × Instr × Nat)} (h : dOk cc t = true) (i : Nat) {pc n : Nat} {ins : Instr} (hi : t[i]? = some (pc, ins, n)) : decode cc pc = .ok (ins, n) := by
  have h1 : decide (decode cc pc = .ok (ins, n)) = true := List.all_eq_true.mp h (pc, ins, n) (List.mem_of_getElem? hi)
  exact of_decide_eq_true h1
