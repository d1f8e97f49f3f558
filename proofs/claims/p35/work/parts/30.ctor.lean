/-! constructors: contracts with new cells, at the addresses ad 1, ad 2 .. -/
def kPostN (D : va_G) (A : Nat → Prop) (w' : (Nat → Nat) → va_W) : Array Value → State → Outcome → State → Prop := fun _ st oc t => (oc = .returned none ∧ ∃ ad : Nat → Nat, va_P D vwCl (w' ad) t.heap ∧ va_D A (w' ad)) ∧ va_F A st t
def CtN (l : Launch) (y : MethodName) (ws : List Cond) (rm : Room) (D : va_G) (cI : ClassId) (av : List Value) (w : va_W) (w' : (Nat → Nat) → va_W) (mc ms : Nat) : Prop :=
  ∀ sz : Nat, Met l y ws rm (va_Pc av (kPre D cI w sz)) (kPostN D (va_A w sz) w') mc ms (va_A w sz)
theorem CtN.of {l : Launch} {y : MethodName} {ws ws' : List Cond} {rm : Room} {D : va_G} {cI : ClassId} {av : List Value} {w : va_W} {w' : (Nat → Nat) → va_W} {mc ms : Nat} {cc : ByteArray} {maxL : Nat} (hy : plainName y.cls = true) (hw : ws = Cond.code y cc maxL none :: ws') (hn : (lg_sl av).length ≤ maxL)
    (body : ∀ (p : Program) (e : Env) (s : State) (m : MethodId) (args : Array Value) (below : List Frame) (meth : Method) (c : Code) (A : Nat → Prop), kF rm s m args meth c p cc maxL none y.cls ws D cI A → meth.name = y.name → va_P D vwCl w s.heap → va_D A w → va_S A s.heap s.heap [] → ∀ ls : Array Slot, lv_has ls maxL (lv_args 0 av) →
      W p l e rm s m args below meth c s.heap [] 0 0 (MQ below (kPostN D A w') args s mc ms A) (F0 m 0 ls [])) : CtN l y ws rm D cI av w w' mc ms := by
  intro sz
  refine Met.ofW (cc := cc) (maxL := maxL) (ret := none) hy hw ?_
  intro p e s m args below meth c s₁ B hml hv
  obtain ⟨rfl, hsz, hP, hK, hD0⟩ := hv
  subst hsz
  rw [lg_entry_eq]
  exact body p e s m _ below meth c (va_A w s.heap.size) ⟨B.exec, B.bytes, hml, B.returns, findClass_of_methodNamed B.named, atoms_spec (ws := ws) B.pre, B.notSynchronized, hK, fun q h => Or.inr h⟩ (name_of_methodNamed B.named B.method).1 hP hD0.self va_S.rf _ (lv_entry av hn)
section KN
variable {p : Program} {l : Launch} {e : Env} {R : Room} {s : State} {m : MethodId} {args : Array Value} {below : List Frame} {meth : Method} {c : Code} {H : Heap} {locs : List Loc} {cells slots : Nat} {Q : State → Prop} {cc : ByteArray} {pc : Nat} {ls : Array Slot} {rest : List Value} {D : va_G} {cI : ClassId} {A : Nat → Prop} {w : va_W}
theorem kretvN {w' : (Nat → Nat) → va_W} (ad : Nat → Nat) (hx : p.tables.exec = Jvm.exec) (hb : c.code = cc) (hr : meth.sig.returnType = none) (hlk : meth.locks = false) (hP : va_P D vwCl (w' ad) H) (hD : va_D A (w' ad)) (hS : va_S A s.heap H locs) (hdg : decode cc pc = .ok (.return_, 1)) :
    W p l e R s m args below meth c H locs cells slots (MQ below (kPostN D A w') args s cells slots A) (F0 m pc ls []) :=
  W.vret hx hb hr (fun t ht _ => ⟨⟨rfl, ad, by rw [ht]; exact hP, hD⟩, hS.F ht⟩) hS.2.2 hdg hlk
theorem knewa (hx : p.tables.exec = Jvm.exec) (hb : c.code = cc) (harr : (Cond.arrayClass .int).before args s = true) (hK : kK D cI s) (hP : va_P D vwCl w H) (hD : va_D A w) (hS : va_S A s.heap H locs) (hA : ∀ q, s.heap.size ≤ q → A q) {n : Int32} {N : Nat} (hn : ¬ n < 0) (hN : n.toNatClampNeg = N) (hbytes : N * componentBytes .int ≤ 536870912) (hcells : cells + 1 ≤ R.cells) (hslots : slots + N ≤ R.slots) (hdg : decode cc pc = .ok (.newarray .int, 2))
    (kk : ∀ (q : Nat) (H1 : Heap), va_P D vwCl (w ++ [(q, .inl (cI, N, .inl (fun _ => 0)))]) H1 → va_D A (w ++ [(q, .inl (cI, N, .inl (fun _ => 0)))]) → va_S A s.heap H1 locs → W p l e R s m args below meth c H1 locs (cells + 1) (slots + N) Q (F0 m (pc + 2) ls (.ref q :: rest))) : W p l e R s m args below meth c H locs cells slots Q (F0 m pc ls (.int n :: rest)) := by
  refine va_newa (atype := .int) (ty := .int) (a0 := (N, .inl (fun _ => 0))) hx hb harr rfl hK.1 hP hD hS hA (fun _ => rfl) hn hN hbytes hcells hslots hdg (fun q cA H1 hK1 hP1 hD1 hS1 => ?_)
  have h1 : s.vm.findClass ("[" ++ (FieldType.int).toString) = some cI := (hK.1.2 0 (cI, .int) rfl).2
  have h2 : s.vm.findClass ("[" ++ (FieldType.int).toString) = some cA := (hK1.2 1 (cA, .int) rfl).2
  have h3 : cI = cA := Option.some.inj (h1.symm.trans h2)
  subst h3
  exact kk q H1 hP1 hD1 hS1
theorem krunI {y : MethodName} {bytes : ByteArray} {maxL nL index mc ms : Nat} {ws ws' Ts : List Cond} {rm : Room} {own : String} {b : Nat} {st0 : List Value} {wc : va_W} {wc' : (Nat → Nat) → va_W} {A0 : Nat → Prop}
    (hx : p.tables.exec = Jvm.exec) (hb : c.code = cc) (hml : c.maxLocals = nL) (hown : s.vm.findClass own = some m.cls) (hts : ∀ w ∈ Ts, w.before args s = true) (hK : kK D cI s)
    (hM : CtN l y ws rm D cI [.ref b] wc wc' mc ms) (hG : GoodIn Ts ws) (hini : (Cond.initialized y.cls).before args s = true) (hlnk : (Cond.methodLink own index y).before args s = true) (hinst : (Cond.instanceMethod y).before args s = true) (hy1 : y.name = "<init>") (hw : ws = Cond.code y bytes maxL none :: ws') (hrc : rm.cells = mc) (hrs : rm.slots = ms)
    (hd : y.cls ≠ "java/lang/invoke/MethodHandle" ∧ y.cls ≠ "java/lang/invoke/VarHandle" ∧ (parseMethodDescriptor y.desc).map (fun d => d.parameters.length) = some 0) (hR : rm.frames + 1 ≤ R.frames ∧ 8 + (maxL + 11) + rm.locals ≤ R.locals)
    (hP : va_P D vwCl wc H) (hD : va_D A0 wc) (hl : ls.size = nL) (hst : st0 = .ref b :: rest) (hcat : (rest.map fun v => v.category).sum ≤ 8) (hdg : decode cc pc = .ok (.invokespecial index, 3)) (hcr : cells + mc ≤ R.cells ∧ slots + ms ≤ R.slots) :
    va_Run p l e R s m args below meth c H locs cells slots mc ms (F0 m pc ls st0) rest (kPostN D (va_A wc H.size) wc' [Value.ref b].toArray) (va_A wc H.size) :=
  va_runI (As := []) ⟨hx, hb, hml, hown, hts⟩ (hM H.size) (cwI 0 hts hG hw hrc hrs hini hlnk hinst hy1 hd hR) (kPreS hK hP hD) rfl rfl hl hst (lv_room hcat) hdg hcr
theorem krunIN {y : MethodName} {bytes : ByteArray} {maxL nL index mc ms : Nat} {ws ws' Ts : List Cond} {rm : Room} {own host : String} {b : Nat} {st0 : List Value} {wc : va_W} {wc' : (Nat → Nat) → va_W} {A0 : Nat → Prop}
    (hx : p.tables.exec = Jvm.exec) (hb : c.code = cc) (hml : c.maxLocals = nL) (hown : s.vm.findClass own = some m.cls) (hts : ∀ w ∈ Ts, w.before args s = true) (hK : kK D cI s)
    (hM : CtN l y ws rm D cI [.ref b] wc wc' mc ms) (hG : GoodIn Ts ws) (hlnk : va_Nw (.methodLinkNest own index y host) s) (hini : (Cond.initialized y.cls).before args s = true) (hinst : (Cond.instanceMethod y).before args s = true) (hy1 : y.name = "<init>") (hw : ws = Cond.code y bytes maxL none :: ws') (hrc : rm.cells = mc) (hrs : rm.slots = ms)
    (hd : y.cls ≠ "java/lang/invoke/MethodHandle" ∧ y.cls ≠ "java/lang/invoke/VarHandle" ∧ (parseMethodDescriptor y.desc).map (fun d => d.parameters.length) = some 0) (hR : rm.frames + 1 ≤ R.frames ∧ 8 + (maxL + 11) + rm.locals ≤ R.locals)
    (hP : va_P D vwCl wc H) (hD : va_D A0 wc) (hl : ls.size = nL) (hst : st0 = .ref b :: rest) (hcat : (rest.map fun v => v.category).sum ≤ 8) (hdg : decode cc pc = .ok (.invokespecial index, 3)) (hcr : cells + mc ≤ R.cells ∧ slots + ms ≤ R.slots) :
    va_Run p l e R s m args below meth c H locs cells slots mc ms (F0 m pc ls st0) rest (kPostN D (va_A wc H.size) wc' [Value.ref b].toArray) (va_A wc H.size) :=
  va_runIN (As := []) ⟨hx, hb, hml, hown, hts⟩ (hM H.size) ⟨va_cnB 0 hts hG hw hrc hrs hlnk hini hd hR, hy1, hinst⟩ (kPreS hK hP hD) rfl rfl hl hst (lv_room hcat) hdg hcr
theorem kgoN {wc wr : va_W} {wc' : (Nat → Nat) → va_W} {st0 : List Value} {a : Array Value} {mc ms : Nat} (hr : va_Run p l e R s m args below meth c H locs cells slots mc ms (F0 m pc ls st0) rest (kPostN D (va_A wc H.size) wc' a) (va_A wc H.size)) (hP : va_P D vwCl w H) (hD : va_D A w) (hS : va_S A s.heap H locs) (hA : ∀ q, s.heap.size ≤ q → A q) (isC isR : List Nat) (hC : isC.map (fun i => w[i]?) = wc.map some)
    (hR : isR.map (fun i => w[i]?) = wr.map some) (hn : va_nd isR = true) (hdis : ∀ i ∈ isR, i ∉ isC)
    (kk : ∀ (ad : Nat → Nat) (H1 : Heap) (locs1 : List Loc), va_P D vwCl (wr ++ wc' ad) H1 → va_D A (wr ++ wc' ad) → va_S A s.heap H1 locs1 → W p l e R s m args below meth c H1 locs1 (cells + mc) (slots + ms) Q (F0 m (pc + 3) ls rest)) : W p l e R s m args below meth c H locs cells slots Q (F0 m pc ls st0) := by
  have hF := va_free hD hS hA isC hC
  intro T hT X
  obtain ⟨v, st₀, t, T', L, h0, X', hL, e1, e2, ⟨⟨hv, ad, hp, hd⟩, hz, hk⟩, st⟩ := hr T hT X
  cases hv
  rw [h0] at hz hk
  rw [← e1] at hp
  obtain ⟨j1, j2⟩ := va_join hP hD isC isR hC hR hn hdis (fun q h1 h2 => by rw [e1]; exact hk q h1 h2) hF hp hd
  obtain ⟨t2, a1, b1⟩ := kk ad T'.heap (locs ++ L) j1 j2
    ⟨Nat.le_trans hS.1 (by rw [e1]; exact hz), fun q h1 h2 => by rw [e1, hk q (Nat.lt_of_lt_of_le h1 hS.1) (fun z => h2 (hF q z))]; exact hS.2.1 q h1 h2, fun q hq => by
      rcases List.mem_append.mp hq with h | h
      · exact hS.2.2 q h
      · exact hF _ (hL q h)⟩ T' rfl X'
  exact ⟨t2, st t2 a1, b1⟩
end KN
noncomputable def fX1_init_L16 (t16 : (Nat → Int32) × Int32) : Option (((Nat → Int32) × Int32) ⊕ (Nat → Int32)) := if (92 : Int32) ≤ t16.2 then (some (.inr t16.1)) else (Option.bind (wrA t16.1 132 t16.2 (-100 : Int32)) fun v => some (.inl (v, t16.2 + (1 : Int32))))
noncomputable def fX1_init (fu : Nat) : Option (Nat → Int32) := lp fX1_init_L16 fu ((fun _ => 0), (44 : Int32))
theorem hdX0_init : (yX0_init).cls ≠ "java/lang/invoke/MethodHandle" ∧ (yX0_init).cls ≠ "java/lang/invoke/VarHandle" ∧ (parseMethodDescriptor (yX0_init).desc).map (fun d => d.parameters.length) = some 0 := by decide +kernel
theorem hdX1_init : (yX1_init).cls ≠ "java/lang/invoke/MethodHandle" ∧ (yX1_init).cls ≠ "java/lang/invoke/VarHandle" ∧ (parseMethodDescriptor (yX1_init).desc).map (fun d => d.parameters.length) = some 0 := by decide +kernel
theorem hdX2_init : (yX2_init).cls ≠ "java/lang/invoke/MethodHandle" ∧ (yX2_init).cls ≠ "java/lang/invoke/VarHandle" ∧ (parseMethodDescriptor (yX2_init).desc).map (fun d => d.parameters.length) = some 0 := by decide +kernel
theorem hdX3_init : (yX3_init).cls ≠ "java/lang/invoke/MethodHandle" ∧ (yX3_init).cls ≠ "java/lang/invoke/VarHandle" ∧ (parseMethodDescriptor (yX3_init).desc).map (fun d => d.parameters.length) = some 0 := by decide +kernel
set_option maxHeartbeats 4000000 in
set_option maxRecDepth 100000 in
theorem kX0_init (l : Launch) (D : va_G) (cI : ClassId) (a0 : Nat) : CtN l yX0_init wsX0_init { frames := 1, cells := 1, slots := 660, locals := 12 } D cI [.ref a0] [(a0, .inr (0, [.null, .int 0, .int 0]))] (fun ad => [(a0, .inr (0, [.ref (ad 1), .int 0, .int 0])), (ad 1, .inl (cI, 660, .inl (fun _ => 0)))]) 1 660 := by
  refine CtN.of (cc := cX0_init) (maxL := 1) (by decide) rfl (Nat.le_of_ble_eq_true rfl) ?_
  intro p e s m args below meth c A F hin hP hD hS ls hl
  obtain ⟨hx, hb, hml, hr, hown, hts, hlk, hK, hA⟩ := F
  have hown : s.vm.findClass RX0 = some m.cls := hown
  have hin : meth.name = "<init>" := hin
  have hl : lv_has ls 1 [(0, .ref a0)] := hl
  have hinX0 : ∀ w ∈ wsX00, w ∈ wsX0_init := by decide +kernel
  have hfl11 := hts (.fieldLink RX0 11 "CraneGuard$History" "rows" "[I") (by decide +kernel)
  have hfl15 := hts (.fieldLink RX0 15 "CraneGuard$History" "size" "I") (by decide +kernel)
  have hfl19 := hts (.fieldLink RX0 19 "CraneGuard$History" "next" "I") (by decide +kernel)
  refine lv_aload_n hx hb dX0_init_0 rfl (lv_at hl 0 rfl) ?_
  refine W.objInit hx hb hown (hts (.methodLink RX0 1 objectInit) (by decide +kernel)) (hts (.instanceMethod objectInit) (by decide +kernel)) (hts (.code objectInit ⟨#[0xb1]⟩ 1 none) (by decide +kernel)) rfl (by rw [hml]; exact hl.1) rfl dX0_init_1 (Nat.le_of_ble_eq_true rfl) (Nat.le_of_ble_eq_true rfl) ?_
  refine W.eq (g2 := F0 m 4 ls []) rfl ?_
  refine lv_aload_n hx hb dX0_init_4 rfl (lv_at hl 0 rfl) ?_
  refine lv_sipush (v := (660 : Int32)) hx hb dX0_init_5 (by decide) ?_
  refine knewa (N := 660) hx hb (hts (.arrayClass .int) (by decide +kernel)) hK hP hD hS hA (by decide) (by decide) (Nat.le_of_ble_eq_true rfl) (Nat.le_of_ble_eq_true rfl) (Nat.le_of_ble_eq_true rfl) dX0_init_8 (fun q8 H hP hD hS => ?_)
  have hP : va_P D vwCl [(a0, .inr (0, [.null, .int 0, .int 0])), (q8, .inl (cI, 660, .inl (fun _ => 0)))] H := hP
  have hD : va_D A [(a0, .inr (0, [.null, .int 0, .int 0])), (q8, .inl (cI, 660, .inl (fun _ => 0)))] := hD
  refine W.widen (k := 1) (n := 660) (Nat.le_of_ble_eq_true rfl) (Nat.le_of_ble_eq_true rfl) ?_
  refine va_putF (D := D) (ci := 0) (v := .ref q8) (ty := .array .int) (C := RX0) (T := TX0) (N := 3) hx hb hts hinX0 tyX0 tyX0_ok nmX0 hown hK.1 hP hD hS 0 rfl rfl 0 (by decide) hfl11 (fun _ h9 => h9) rfl hin rfl (by decide +kernel) rfl rfl (Nat.le_of_ble_eq_true rfl) dX0_init_10 (fun H locs hP hD hS => ?_)
  have hP : va_P D vwCl [(a0, .inr (0, [.ref q8, .int 0, .int 0])), (q8, .inl (cI, 660, .inl (fun _ => 0)))] H := hP
  have hD : va_D A [(a0, .inr (0, [.ref q8, .int 0, .int 0])), (q8, .inl (cI, 660, .inl (fun _ => 0)))] := hD
  refine lv_aload_n hx hb dX0_init_13 rfl (lv_at hl 0 rfl) ?_
  refine lv_iconst (v := (0 : Int32)) hx hb dX0_init_14 (by decide) ?_
  refine va_put (D := D) (ci := 0) (v := .int 0) (ty := .int) (C := RX0) (T := TX0) (N := 3) hx hb hts hinX0 tyX0 tyX0_ok nmX0 hown hK.1 hP hD hS 0 rfl rfl 1 (by decide) hfl15 (fun _ h9 => h9) rfl (by decide +kernel) rfl rfl (Nat.le_of_ble_eq_true rfl) dX0_init_15 (fun H locs hP hD hS => ?_)
  have hP : va_P D vwCl [(a0, .inr (0, [.ref q8, .int 0, .int 0])), (q8, .inl (cI, 660, .inl (fun _ => 0)))] H := hP
  have hD : va_D A [(a0, .inr (0, [.ref q8, .int 0, .int 0])), (q8, .inl (cI, 660, .inl (fun _ => 0)))] := hD
  refine lv_aload_n hx hb dX0_init_18 rfl (lv_at hl 0 rfl) ?_
  refine lv_iconst (v := (0 : Int32)) hx hb dX0_init_19 (by decide) ?_
  refine va_put (D := D) (ci := 0) (v := .int 0) (ty := .int) (C := RX0) (T := TX0) (N := 3) hx hb hts hinX0 tyX0 tyX0_ok nmX0 hown hK.1 hP hD hS 0 rfl rfl 2 (by decide) hfl19 (fun _ h9 => h9) rfl (by decide +kernel) rfl rfl (Nat.le_of_ble_eq_true rfl) dX0_init_20 (fun H locs hP hD hS => ?_)
  have hP : va_P D vwCl [(a0, .inr (0, [.ref q8, .int 0, .int 0])), (q8, .inl (cI, 660, .inl (fun _ => 0)))] H := hP
  have hD : va_D A [(a0, .inr (0, [.ref q8, .int 0, .int 0])), (q8, .inl (cI, 660, .inl (fun _ => 0)))] := hD
  exact kretvN (fun _ => q8) hx hb hr hlk hP hD hS dX0_init_23
set_option maxHeartbeats 4000000 in
set_option maxRecDepth 100000 in
theorem kX1_init (l : Launch) (D : va_G) (cI : ClassId) (a0 : Nat) (fu : Nat) (R0 : Nat → Int32) (hf : fX1_init fu = some R0) : CtN l yX1_init wsX1_init { frames := 1, cells := 1, slots := 132, locals := 12 } D cI [.ref a0] [(a0, .inr (1, [.null]))] (fun ad => [(a0, .inr (1, [.ref (ad 1)])), (ad 1, .inl (cI, 132, .inl R0))]) 1 132 := by
  refine CtN.of (cc := cX1_init) (maxL := 2) (by decide) rfl (Nat.le_of_ble_eq_true rfl) ?_
  intro p e s m args below meth c A F hin hP hD hS ls hl
  obtain ⟨hx, hb, hml, hr, hown, hts, hlk, hK, hA⟩ := F
  have hown : s.vm.findClass RX1 = some m.cls := hown
  have hin : meth.name = "<init>" := hin
  have hl : lv_has ls 2 [(0, .ref a0)] := hl
  have hinX1 : ∀ w ∈ wsX10, w ∈ wsX1_init := by decide +kernel
  have hfl11 := hts (.fieldLink RX1 11 "CraneGuard$Site" "row" "[I") (by decide +kernel)
  refine lv_aload_n hx hb dX1_init_0 rfl (lv_at hl 0 rfl) ?_
  refine W.objInit hx hb hown (hts (.methodLink RX1 5 objectInit) (by decide +kernel)) (hts (.instanceMethod objectInit) (by decide +kernel)) (hts (.code objectInit ⟨#[0xb1]⟩ 1 none) (by decide +kernel)) rfl (by rw [hml]; exact hl.1) rfl dX1_init_1 (Nat.le_of_ble_eq_true rfl) (Nat.le_of_ble_eq_true rfl) ?_
  refine W.eq (g2 := F0 m 4 ls []) rfl ?_
  refine lv_aload_n hx hb dX1_init_4 rfl (lv_at hl 0 rfl) ?_
  refine lv_sipush (v := (132 : Int32)) hx hb dX1_init_5 (by decide) ?_
  refine knewa (N := 132) hx hb (hts (.arrayClass .int) (by decide +kernel)) hK hP hD hS hA (by decide) (by decide) (Nat.le_of_ble_eq_true rfl) (Nat.le_of_ble_eq_true rfl) (Nat.le_of_ble_eq_true rfl) dX1_init_8 (fun q8 H hP hD hS => ?_)
  have hP : va_P D vwCl [(a0, .inr (1, [.null])), (q8, .inl (cI, 132, .inl (fun _ => 0)))] H := hP
  have hD : va_D A [(a0, .inr (1, [.null])), (q8, .inl (cI, 132, .inl (fun _ => 0)))] := hD
  refine W.widen (k := 1) (n := 132) (Nat.le_of_ble_eq_true rfl) (Nat.le_of_ble_eq_true rfl) ?_
  refine va_putF (D := D) (ci := 1) (v := .ref q8) (ty := .array .int) (C := RX1) (T := TX1) (N := 1) hx hb hts hinX1 tyX1 tyX1_ok nmX1 hown hK.1 hP hD hS 0 rfl rfl 0 (by decide) hfl11 (fun _ h9 => h9) rfl hin rfl (by decide +kernel) rfl rfl (Nat.le_of_ble_eq_true rfl) dX1_init_10 (fun H locs hP hD hS => ?_)
  have hP : va_P D vwCl [(a0, .inr (1, [.ref q8])), (q8, .inl (cI, 132, .inl (fun _ => 0)))] H := hP
  have hD : va_D A [(a0, .inr (1, [.ref q8])), (q8, .inl (cI, 132, .inl (fun _ => 0)))] := hD
  refine lv_bipush (v := (44 : Int32)) hx hb dX1_init_13 (by decide) ?_
  refine lv_istore_n (lv' := [(1, .int (44 : Int32)), (0, .ref a0)]) hx hb dX1_init_15 rfl hl (by decide) rfl (fun ls hl => ?_)
  unfold fX1_init at hf
  refine klp hf (fun t16 : (Nat → Int32) × Int32 => [(a0, .inr (1, [.ref q8])), (q8, .inl (cI, 132, .inl t16.1))]) 2 (fun t16 : (Nat → Int32) × Int32 => [(1, .int t16.2), (0, .ref a0)]) ?_ hP hD hS hl
  intro t16 x16_ hf hI1 hO1 H locs ls hP hD hS hl
  unfold fX1_init_L16 at hf
  have hP : va_P D vwCl [(a0, .inr (1, [.ref q8])), (q8, .inl (cI, 132, .inl t16.1))] H := hP
  have hD : va_D A [(a0, .inr (1, [.ref q8])), (q8, .inl (cI, 132, .inl t16.1))] := hD
  have hl : lv_has ls 2 [(1, .int t16.2), (0, .ref a0)] := hl
  refine lv_iload_n hx hb dX1_init_16 rfl (lv_at hl 0 rfl) ?_
  refine lv_bipush (v := (92 : Int32)) hx hb dX1_init_17 (by decide) ?_
  refine lv_icmp_ge (tgt := 36) hx hb dX1_init_19 (by decide) (fun c1 => ?_) (fun c1 => ?_)
  · have hf := kIfT c1 hf
    have he := Option.some.inj hf
    have he := hO1 _ he.symm
    subst he
    exact kretvN (fun _ => q8) hx hb hr hlk hP hD hS dX1_init_36
  · have hf := kIfF c1 hf
    refine lv_aload_n hx hb dX1_init_22 rfl (lv_at hl 1 rfl) ?_
    refine va_get (D := D) (ci := 1) (v := .ref q8) (C := RX1) (T := TX1) (N := 1) hx hb hts hinX1 hown hK.1 hP 0 rfl rfl 0 (by decide) hfl11 (fun _ h9 => h9) rfl dX1_init_23 ?_
    refine lv_iload_n hx hb dX1_init_26 rfl (lv_at hl 0 rfl) ?_
    refine lv_bipush (v := (-100 : Int32)) hx hb dX1_init_27 (by decide) ?_
    obtain ⟨v, h, hf⟩ := kBind hf
    refine kwr hx hb hK hP hD hS 1 rfl h [(a0, .inr (1, [.ref q8])), (q8, .inl (cI, 132, .inl v))] rfl dX1_init_29 (fun H locs hP hD hS => ?_)
    refine lv_iinc (v := t16.2 + (1 : Int32)) (lv' := [(1, .int (t16.2 + (1 : Int32))), (0, .ref a0)]) hx hb dX1_init_30 hl (k := 0) rfl rfl (by decide) rfl (fun ls hl => ?_)
    refine lv_goto (tgt := 16) hx hb dX1_init_33 (by decide) ?_
    obtain ⟨z, hz⟩ : ∃ z : Int32, z = t16.2 + (1 : Int32) := ⟨_, rfl⟩
    rw [← hz] at hf
    have hl : lv_has ls 2 [(1, .int z), (0, .ref a0)] := by rw [hz]; exact hl
    have he := (Option.some.inj hf).symm
    exact hI1 _ he H locs ls hP hD hS hl
set_option maxHeartbeats 4000000 in
set_option maxRecDepth 100000 in
theorem kX2_init (l : Launch) (D : va_G) (cI : ClassId) (a0 : Nat) : CtN l yX2_init wsX2_init { frames := 1, cells := 4, slots := 140, locals := 12 } D cI [.ref a0] [(a0, .inr (2, [.null, .int 0, .int 0, .null, .null, .null, .int 0]))] (fun ad => [(a0, .inr (2, [.ref (ad 1), .int 0, .int 0, .ref (ad 2), .ref (ad 3), .ref (ad 4), .int 0])), (ad 1, .inl (cI, 80, .inl (fun _ => 0))), (ad 2, .inl (cI, 20, .inl (fun _ => 0))), (ad 3, .inl (cI, 20, .inl (fun _ => 0))), (ad 4, .inl (cI, 20, .inl (fun _ => 0)))]) 4 140 := by
  refine CtN.of (cc := cX2_init) (maxL := 1) (by decide) rfl (Nat.le_of_ble_eq_true rfl) ?_
  intro p e s m args below meth c A F hin hP hD hS ls hl
  obtain ⟨hx, hb, hml, hr, hown, hts, hlk, hK, hA⟩ := F
  have hown : s.vm.findClass RX2 = some m.cls := hown
  have hin : meth.name = "<init>" := hin
  have hl : lv_has ls 1 [(0, .ref a0)] := hl
  have hinX2 : ∀ w ∈ wsX20, w ∈ wsX2_init := by decide +kernel
  have hfl11 := hts (.fieldLink RX2 11 "CraneGuard$Text" "bytes" "[I") (by decide +kernel)
  have hfl15 := hts (.fieldLink RX2 15 "CraneGuard$Text" "length" "I") (by decide +kernel)
  have hfl19 := hts (.fieldLink RX2 19 "CraneGuard$Text" "position" "I") (by decide +kernel)
  have hfl22 := hts (.fieldLink RX2 22 "CraneGuard$Text" "craneOf" "[I") (by decide +kernel)
  have hfl25 := hts (.fieldLink RX2 25 "CraneGuard$Text" "wayOf" "[I") (by decide +kernel)
  have hfl28 := hts (.fieldLink RX2 28 "CraneGuard$Text" "targetOf" "[I") (by decide +kernel)
  have hfl31 := hts (.fieldLink RX2 31 "CraneGuard$Text" "commands" "I") (by decide +kernel)
  refine lv_aload_n hx hb dX2_init_0 rfl (lv_at hl 0 rfl) ?_
  refine W.objInit hx hb hown (hts (.methodLink RX2 5 objectInit) (by decide +kernel)) (hts (.instanceMethod objectInit) (by decide +kernel)) (hts (.code objectInit ⟨#[0xb1]⟩ 1 none) (by decide +kernel)) rfl (by rw [hml]; exact hl.1) rfl dX2_init_1 (Nat.le_of_ble_eq_true rfl) (Nat.le_of_ble_eq_true rfl) ?_
  refine W.eq (g2 := F0 m 4 ls []) rfl ?_
  refine lv_aload_n hx hb dX2_init_4 rfl (lv_at hl 0 rfl) ?_
  refine lv_bipush (v := (80 : Int32)) hx hb dX2_init_5 (by decide) ?_
  refine knewa (N := 80) hx hb (hts (.arrayClass .int) (by decide +kernel)) hK hP hD hS hA (by decide) (by decide) (Nat.le_of_ble_eq_true rfl) (Nat.le_of_ble_eq_true rfl) (Nat.le_of_ble_eq_true rfl) dX2_init_7 (fun q7 H hP hD hS => ?_)
  have hP : va_P D vwCl [(a0, .inr (2, [.null, .int 0, .int 0, .null, .null, .null, .int 0])), (q7, .inl (cI, 80, .inl (fun _ => 0)))] H := hP
  have hD : va_D A [(a0, .inr (2, [.null, .int 0, .int 0, .null, .null, .null, .int 0])), (q7, .inl (cI, 80, .inl (fun _ => 0)))] := hD
  refine W.widen (k := 1) (n := 80) (Nat.le_of_ble_eq_true rfl) (Nat.le_of_ble_eq_true rfl) ?_
  refine va_putF (D := D) (ci := 2) (v := .ref q7) (ty := .array .int) (C := RX2) (T := TX2) (N := 7) hx hb hts hinX2 tyX2 tyX2_ok nmX2 hown hK.1 hP hD hS 0 rfl rfl 0 (by decide) hfl11 (fun _ h9 => h9) rfl hin rfl (by decide +kernel) rfl rfl (Nat.le_of_ble_eq_true rfl) dX2_init_9 (fun H locs hP hD hS => ?_)
  have hP : va_P D vwCl [(a0, .inr (2, [.ref q7, .int 0, .int 0, .null, .null, .null, .int 0])), (q7, .inl (cI, 80, .inl (fun _ => 0)))] H := hP
  have hD : va_D A [(a0, .inr (2, [.ref q7, .int 0, .int 0, .null, .null, .null, .int 0])), (q7, .inl (cI, 80, .inl (fun _ => 0)))] := hD
  refine lv_aload_n hx hb dX2_init_12 rfl (lv_at hl 0 rfl) ?_
  refine lv_iconst (v := (0 : Int32)) hx hb dX2_init_13 (by decide) ?_
  refine va_put (D := D) (ci := 2) (v := .int 0) (ty := .int) (C := RX2) (T := TX2) (N := 7) hx hb hts hinX2 tyX2 tyX2_ok nmX2 hown hK.1 hP hD hS 0 rfl rfl 1 (by decide) hfl15 (fun _ h9 => h9) rfl (by decide +kernel) rfl rfl (Nat.le_of_ble_eq_true rfl) dX2_init_14 (fun H locs hP hD hS => ?_)
  have hP : va_P D vwCl [(a0, .inr (2, [.ref q7, .int 0, .int 0, .null, .null, .null, .int 0])), (q7, .inl (cI, 80, .inl (fun _ => 0)))] H := hP
  have hD : va_D A [(a0, .inr (2, [.ref q7, .int 0, .int 0, .null, .null, .null, .int 0])), (q7, .inl (cI, 80, .inl (fun _ => 0)))] := hD
  refine lv_aload_n hx hb dX2_init_17 rfl (lv_at hl 0 rfl) ?_
  refine lv_iconst (v := (0 : Int32)) hx hb dX2_init_18 (by decide) ?_
  refine va_put (D := D) (ci := 2) (v := .int 0) (ty := .int) (C := RX2) (T := TX2) (N := 7) hx hb hts hinX2 tyX2 tyX2_ok nmX2 hown hK.1 hP hD hS 0 rfl rfl 2 (by decide) hfl19 (fun _ h9 => h9) rfl (by decide +kernel) rfl rfl (Nat.le_of_ble_eq_true rfl) dX2_init_19 (fun H locs hP hD hS => ?_)
  have hP : va_P D vwCl [(a0, .inr (2, [.ref q7, .int 0, .int 0, .null, .null, .null, .int 0])), (q7, .inl (cI, 80, .inl (fun _ => 0)))] H := hP
  have hD : va_D A [(a0, .inr (2, [.ref q7, .int 0, .int 0, .null, .null, .null, .int 0])), (q7, .inl (cI, 80, .inl (fun _ => 0)))] := hD
  refine lv_aload_n hx hb dX2_init_22 rfl (lv_at hl 0 rfl) ?_
  refine lv_bipush (v := (20 : Int32)) hx hb dX2_init_23 (by decide) ?_
  refine knewa (N := 20) hx hb (hts (.arrayClass .int) (by decide +kernel)) hK hP hD hS hA (by decide) (by decide) (Nat.le_of_ble_eq_true rfl) (Nat.le_of_ble_eq_true rfl) (Nat.le_of_ble_eq_true rfl) dX2_init_25 (fun q25 H hP hD hS => ?_)
  have hP : va_P D vwCl [(a0, .inr (2, [.ref q7, .int 0, .int 0, .null, .null, .null, .int 0])), (q7, .inl (cI, 80, .inl (fun _ => 0))), (q25, .inl (cI, 20, .inl (fun _ => 0)))] H := hP
  have hD : va_D A [(a0, .inr (2, [.ref q7, .int 0, .int 0, .null, .null, .null, .int 0])), (q7, .inl (cI, 80, .inl (fun _ => 0))), (q25, .inl (cI, 20, .inl (fun _ => 0)))] := hD
  refine W.widen (k := 2) (n := 100) (Nat.le_of_ble_eq_true rfl) (Nat.le_of_ble_eq_true rfl) ?_
  refine va_putF (D := D) (ci := 2) (v := .ref q25) (ty := .array .int) (C := RX2) (T := TX2) (N := 7) hx hb hts hinX2 tyX2 tyX2_ok nmX2 hown hK.1 hP hD hS 0 rfl rfl 3 (by decide) hfl22 (fun _ h9 => h9) rfl hin rfl (by decide +kernel) rfl rfl (Nat.le_of_ble_eq_true rfl) dX2_init_27 (fun H locs hP hD hS => ?_)
  have hP : va_P D vwCl [(a0, .inr (2, [.ref q7, .int 0, .int 0, .ref q25, .null, .null, .int 0])), (q7, .inl (cI, 80, .inl (fun _ => 0))), (q25, .inl (cI, 20, .inl (fun _ => 0)))] H := hP
  have hD : va_D A [(a0, .inr (2, [.ref q7, .int 0, .int 0, .ref q25, .null, .null, .int 0])), (q7, .inl (cI, 80, .inl (fun _ => 0))), (q25, .inl (cI, 20, .inl (fun _ => 0)))] := hD
  refine lv_aload_n hx hb dX2_init_30 rfl (lv_at hl 0 rfl) ?_
  refine lv_bipush (v := (20 : Int32)) hx hb dX2_init_31 (by decide) ?_
  refine knewa (N := 20) hx hb (hts (.arrayClass .int) (by decide +kernel)) hK hP hD hS hA (by decide) (by decide) (Nat.le_of_ble_eq_true rfl) (Nat.le_of_ble_eq_true rfl) (Nat.le_of_ble_eq_true rfl) dX2_init_33 (fun q33 H hP hD hS => ?_)
  have hP : va_P D vwCl [(a0, .inr (2, [.ref q7, .int 0, .int 0, .ref q25, .null, .null, .int 0])), (q7, .inl (cI, 80, .inl (fun _ => 0))), (q25, .inl (cI, 20, .inl (fun _ => 0))), (q33, .inl (cI, 20, .inl (fun _ => 0)))] H := hP
  have hD : va_D A [(a0, .inr (2, [.ref q7, .int 0, .int 0, .ref q25, .null, .null, .int 0])), (q7, .inl (cI, 80, .inl (fun _ => 0))), (q25, .inl (cI, 20, .inl (fun _ => 0))), (q33, .inl (cI, 20, .inl (fun _ => 0)))] := hD
  refine W.widen (k := 3) (n := 120) (Nat.le_of_ble_eq_true rfl) (Nat.le_of_ble_eq_true rfl) ?_
  refine va_putF (D := D) (ci := 2) (v := .ref q33) (ty := .array .int) (C := RX2) (T := TX2) (N := 7) hx hb hts hinX2 tyX2 tyX2_ok nmX2 hown hK.1 hP hD hS 0 rfl rfl 4 (by decide) hfl25 (fun _ h9 => h9) rfl hin rfl (by decide +kernel) rfl rfl (Nat.le_of_ble_eq_true rfl) dX2_init_35 (fun H locs hP hD hS => ?_)
  have hP : va_P D vwCl [(a0, .inr (2, [.ref q7, .int 0, .int 0, .ref q25, .ref q33, .null, .int 0])), (q7, .inl (cI, 80, .inl (fun _ => 0))), (q25, .inl (cI, 20, .inl (fun _ => 0))), (q33, .inl (cI, 20, .inl (fun _ => 0)))] H := hP
  have hD : va_D A [(a0, .inr (2, [.ref q7, .int 0, .int 0, .ref q25, .ref q33, .null, .int 0])), (q7, .inl (cI, 80, .inl (fun _ => 0))), (q25, .inl (cI, 20, .inl (fun _ => 0))), (q33, .inl (cI, 20, .inl (fun _ => 0)))] := hD
  refine lv_aload_n hx hb dX2_init_38 rfl (lv_at hl 0 rfl) ?_
  refine lv_bipush (v := (20 : Int32)) hx hb dX2_init_39 (by decide) ?_
  refine knewa (N := 20) hx hb (hts (.arrayClass .int) (by decide +kernel)) hK hP hD hS hA (by decide) (by decide) (Nat.le_of_ble_eq_true rfl) (Nat.le_of_ble_eq_true rfl) (Nat.le_of_ble_eq_true rfl) dX2_init_41 (fun q41 H hP hD hS => ?_)
  have hP : va_P D vwCl [(a0, .inr (2, [.ref q7, .int 0, .int 0, .ref q25, .ref q33, .null, .int 0])), (q7, .inl (cI, 80, .inl (fun _ => 0))), (q25, .inl (cI, 20, .inl (fun _ => 0))), (q33, .inl (cI, 20, .inl (fun _ => 0))), (q41, .inl (cI, 20, .inl (fun _ => 0)))] H := hP
  have hD : va_D A [(a0, .inr (2, [.ref q7, .int 0, .int 0, .ref q25, .ref q33, .null, .int 0])), (q7, .inl (cI, 80, .inl (fun _ => 0))), (q25, .inl (cI, 20, .inl (fun _ => 0))), (q33, .inl (cI, 20, .inl (fun _ => 0))), (q41, .inl (cI, 20, .inl (fun _ => 0)))] := hD
  refine W.widen (k := 4) (n := 140) (Nat.le_of_ble_eq_true rfl) (Nat.le_of_ble_eq_true rfl) ?_
  refine va_putF (D := D) (ci := 2) (v := .ref q41) (ty := .array .int) (C := RX2) (T := TX2) (N := 7) hx hb hts hinX2 tyX2 tyX2_ok nmX2 hown hK.1 hP hD hS 0 rfl rfl 5 (by decide) hfl28 (fun _ h9 => h9) rfl hin rfl (by decide +kernel) rfl rfl (Nat.le_of_ble_eq_true rfl) dX2_init_43 (fun H locs hP hD hS => ?_)
  have hP : va_P D vwCl [(a0, .inr (2, [.ref q7, .int 0, .int 0, .ref q25, .ref q33, .ref q41, .int 0])), (q7, .inl (cI, 80, .inl (fun _ => 0))), (q25, .inl (cI, 20, .inl (fun _ => 0))), (q33, .inl (cI, 20, .inl (fun _ => 0))), (q41, .inl (cI, 20, .inl (fun _ => 0)))] H := hP
  have hD : va_D A [(a0, .inr (2, [.ref q7, .int 0, .int 0, .ref q25, .ref q33, .ref q41, .int 0])), (q7, .inl (cI, 80, .inl (fun _ => 0))), (q25, .inl (cI, 20, .inl (fun _ => 0))), (q33, .inl (cI, 20, .inl (fun _ => 0))), (q41, .inl (cI, 20, .inl (fun _ => 0)))] := hD
  refine lv_aload_n hx hb dX2_init_46 rfl (lv_at hl 0 rfl) ?_
  refine lv_iconst (v := (0 : Int32)) hx hb dX2_init_47 (by decide) ?_
  refine va_put (D := D) (ci := 2) (v := .int 0) (ty := .int) (C := RX2) (T := TX2) (N := 7) hx hb hts hinX2 tyX2 tyX2_ok nmX2 hown hK.1 hP hD hS 0 rfl rfl 6 (by decide) hfl31 (fun _ h9 => h9) rfl (by decide +kernel) rfl rfl (Nat.le_of_ble_eq_true rfl) dX2_init_48 (fun H locs hP hD hS => ?_)
  have hP : va_P D vwCl [(a0, .inr (2, [.ref q7, .int 0, .int 0, .ref q25, .ref q33, .ref q41, .int 0])), (q7, .inl (cI, 80, .inl (fun _ => 0))), (q25, .inl (cI, 20, .inl (fun _ => 0))), (q33, .inl (cI, 20, .inl (fun _ => 0))), (q41, .inl (cI, 20, .inl (fun _ => 0)))] H := hP
  have hD : va_D A [(a0, .inr (2, [.ref q7, .int 0, .int 0, .ref q25, .ref q33, .ref q41, .int 0])), (q7, .inl (cI, 80, .inl (fun _ => 0))), (q25, .inl (cI, 20, .inl (fun _ => 0))), (q33, .inl (cI, 20, .inl (fun _ => 0))), (q41, .inl (cI, 20, .inl (fun _ => 0)))] := hD
  exact kretvN (fun k => match k with | 1 => q7 | 2 => q25 | 3 => q33 | _ => q41) hx hb hr hlk hP hD hS dX2_init_51
set_option maxHeartbeats 4000000 in
set_option maxRecDepth 100000 in
theorem kX3_init (l : Launch) (D : va_G) (cI : ClassId) (a0 : Nat) (fu : Nat) (R0 : Nat → Int32) (hf0 : fX1_init fu = some R0) : CtN l yX3_init wsX3_init { frames := 2, cells := 11, slots := 1076, locals := 34 } D cI [.ref a0] [(a0, .inr (3, [.null, .null, .null, .null]))] (fun ad => wX3 cI a0 (ad 1) (ad 2) (ad 3) (ad 4) (ad 5) (ad 6) (ad 7) (ad 8) (ad 9) (ad 10) (ad 11) R0 R0 (fun _ => 0) 0 0 (fun _ => 0) 0 0 (fun _ => 0) (fun _ => 0) (fun _ => 0) 0) 11 1076 := by
  refine CtN.of (cc := cX3_init) (maxL := 1) (by decide) rfl (Nat.le_of_ble_eq_true rfl) ?_
  intro p e s m args below meth c A F hin hP hD hS ls hl
  obtain ⟨hx, hb, hml, hr, hown, hts, hlk, hK, hA⟩ := F
  have hown : s.vm.findClass RX3 = some m.cls := hown
  have hin : meth.name = "<init>" := hin
  have hl : lv_has ls 1 [(0, .ref a0)] := hl
  have hinX3 : ∀ w ∈ wsX30, w ∈ wsX3_init := by decide +kernel
  have hfl10 := hts (.fieldLink RX3 10 "CraneGuard" "site" "LCraneGuard$Site;") (by decide +kernel)
  have hfl16 := hts (.fieldLink RX3 16 "CraneGuard" "trial" "LCraneGuard$Site;") (by decide +kernel)
  have hfl22 := hts (.fieldLink RX3 22 "CraneGuard" "history" "LCraneGuard$History;") (by decide +kernel)
  have hfl29 := hts (.fieldLink RX3 29 "CraneGuard" "text" "LCraneGuard$Text;") (by decide +kernel)
  refine lv_aload_n hx hb dX3_init_0 rfl (lv_at hl 0 rfl) ?_
  refine W.objInit hx hb hown (hts (.methodLink RX3 1 objectInit) (by decide +kernel)) (hts (.instanceMethod objectInit) (by decide +kernel)) (hts (.code objectInit ⟨#[0xb1]⟩ 1 none) (by decide +kernel)) rfl (by rw [hml]; exact hl.1) rfl dX3_init_1 (Nat.le_of_ble_eq_true rfl) (Nat.le_of_ble_eq_true rfl) ?_
  refine W.eq (g2 := F0 m 4 ls []) rfl ?_
  refine lv_aload_n hx hb dX3_init_4 rfl (lv_at hl 0 rfl) ?_
  refine va_new (ci := 1) (fs := [.null]) (C := RX1) (T := TX1) (N := 1) hx hb hts (show ∀ w ∈ wsX10, w ∈ wsX3_init by decide +kernel) tyX1 tyX1_ok hown (hts (.classLink RX3 7 RX1) (by decide +kernel)) (hts (.instantiable RX1 1) (by decide +kernel)) (hts (.initialized RX1) (by decide +kernel)) hK.1 hP hD hS hA rfl (fun j hj => by rcases (show j = 0 by omega) with rfl <;> rfl) (Nat.le_of_ble_eq_true rfl) (Nat.le_of_ble_eq_true rfl) dX3_init_5 (fun q5 H hP hD hS => ?_)
  have hP : va_P D vwCl [(a0, .inr (3, [.null, .null, .null, .null])), (q5, .inr (1, [.null]))] H := hP
  have hD : va_D A [(a0, .inr (3, [.null, .null, .null, .null])), (q5, .inr (1, [.null]))] := hD
  refine W.widen (k := 1) (n := 1) (Nat.le_of_ble_eq_true rfl) (Nat.le_of_ble_eq_true rfl) ?_
  refine lv_dup hx hb dX3_init_8 rfl ?_
  refine kgoN (wr := [(a0, .inr (3, [.null, .null, .null, .null]))]) (krunI (wc := [(q5, .inr (1, [.null]))]) (rest := [.ref q5, .ref a0]) hx hb hml hown hts hK (kX1_init l D cI q5 fu R0 hf0) ggX3_init_X1_init (hts (.initialized RX1) (by decide +kernel)) (hts (.methodLink RX3 9 yX1_init) (by decide +kernel)) (hts (.instanceMethod yX1_init) (by decide +kernel)) rfl rfl rfl rfl hdX1_init ⟨Nat.le_of_ble_eq_true rfl, Nat.le_of_ble_eq_true rfl⟩ (hP.sub [1] rfl) (hD.sub [1] (by decide) rfl) hl.1 rfl (Nat.le_of_ble_eq_true rfl) dX3_init_9 ⟨Nat.le_of_ble_eq_true rfl, Nat.le_of_ble_eq_true rfl⟩) hP hD hS hA [1] [0] rfl rfl (by decide) (by decide) (fun ad9 H locs hP hD hS => ?_)
  have hP : va_P D vwCl [(a0, .inr (3, [.null, .null, .null, .null])), (q5, .inr (1, [.ref (ad9 1)])), ((ad9 1), .inl (cI, 132, .inl R0))] H := hP
  have hD : va_D A [(a0, .inr (3, [.null, .null, .null, .null])), (q5, .inr (1, [.ref (ad9 1)])), ((ad9 1), .inl (cI, 132, .inl R0))] := hD
  refine W.widen (k := 2) (n := 133) (Nat.le_of_ble_eq_true rfl) (Nat.le_of_ble_eq_true rfl) ?_
  refine va_putF (D := D) (ci := 3) (v := .ref q5) (ty := .object "CraneGuard$Site") (C := RX3) (T := TX3) (N := 4) hx hb hts hinX3 tyX3 tyX3_ok nmX3 hown hK.1 hP hD hS 0 rfl rfl 0 (by decide) hfl10 (fun _ h9 => h9) rfl hin rfl (by decide +kernel) rfl rfl (Nat.le_of_ble_eq_true rfl) dX3_init_12 (fun H locs hP hD hS => ?_)
  have hP : va_P D vwCl [(a0, .inr (3, [.ref q5, .null, .null, .null])), (q5, .inr (1, [.ref (ad9 1)])), ((ad9 1), .inl (cI, 132, .inl R0))] H := hP
  have hD : va_D A [(a0, .inr (3, [.ref q5, .null, .null, .null])), (q5, .inr (1, [.ref (ad9 1)])), ((ad9 1), .inl (cI, 132, .inl R0))] := hD
  refine lv_aload_n hx hb dX3_init_15 rfl (lv_at hl 0 rfl) ?_
  refine va_new (ci := 1) (fs := [.null]) (C := RX1) (T := TX1) (N := 1) hx hb hts (show ∀ w ∈ wsX10, w ∈ wsX3_init by decide +kernel) tyX1 tyX1_ok hown (hts (.classLink RX3 7 RX1) (by decide +kernel)) (hts (.instantiable RX1 1) (by decide +kernel)) (hts (.initialized RX1) (by decide +kernel)) hK.1 hP hD hS hA rfl (fun j hj => by rcases (show j = 0 by omega) with rfl <;> rfl) (Nat.le_of_ble_eq_true rfl) (Nat.le_of_ble_eq_true rfl) dX3_init_16 (fun q16 H hP hD hS => ?_)
  have hP : va_P D vwCl [(a0, .inr (3, [.ref q5, .null, .null, .null])), (q5, .inr (1, [.ref (ad9 1)])), ((ad9 1), .inl (cI, 132, .inl R0)), (q16, .inr (1, [.null]))] H := hP
  have hD : va_D A [(a0, .inr (3, [.ref q5, .null, .null, .null])), (q5, .inr (1, [.ref (ad9 1)])), ((ad9 1), .inl (cI, 132, .inl R0)), (q16, .inr (1, [.null]))] := hD
  refine W.widen (k := 3) (n := 134) (Nat.le_of_ble_eq_true rfl) (Nat.le_of_ble_eq_true rfl) ?_
  refine lv_dup hx hb dX3_init_19 rfl ?_
  refine kgoN (wr := [(a0, .inr (3, [.ref q5, .null, .null, .null])), (q5, .inr (1, [.ref (ad9 1)])), ((ad9 1), .inl (cI, 132, .inl R0))]) (krunI (wc := [(q16, .inr (1, [.null]))]) (rest := [.ref q16, .ref a0]) hx hb hml hown hts hK (kX1_init l D cI q16 fu R0 hf0) ggX3_init_X1_init (hts (.initialized RX1) (by decide +kernel)) (hts (.methodLink RX3 9 yX1_init) (by decide +kernel)) (hts (.instanceMethod yX1_init) (by decide +kernel)) rfl rfl rfl rfl hdX1_init ⟨Nat.le_of_ble_eq_true rfl, Nat.le_of_ble_eq_true rfl⟩ (hP.sub [3] rfl) (hD.sub [3] (by decide) rfl) hl.1 rfl (Nat.le_of_ble_eq_true rfl) dX3_init_20 ⟨Nat.le_of_ble_eq_true rfl, Nat.le_of_ble_eq_true rfl⟩) hP hD hS hA [3] [0, 1, 2] rfl rfl (by decide) (by decide) (fun ad20 H locs hP hD hS => ?_)
  have hP : va_P D vwCl [(a0, .inr (3, [.ref q5, .null, .null, .null])), (q5, .inr (1, [.ref (ad9 1)])), ((ad9 1), .inl (cI, 132, .inl R0)), (q16, .inr (1, [.ref (ad20 1)])), ((ad20 1), .inl (cI, 132, .inl R0))] H := hP
  have hD : va_D A [(a0, .inr (3, [.ref q5, .null, .null, .null])), (q5, .inr (1, [.ref (ad9 1)])), ((ad9 1), .inl (cI, 132, .inl R0)), (q16, .inr (1, [.ref (ad20 1)])), ((ad20 1), .inl (cI, 132, .inl R0))] := hD
  refine W.widen (k := 4) (n := 266) (Nat.le_of_ble_eq_true rfl) (Nat.le_of_ble_eq_true rfl) ?_
  refine va_putF (D := D) (ci := 3) (v := .ref q16) (ty := .object "CraneGuard$Site") (C := RX3) (T := TX3) (N := 4) hx hb hts hinX3 tyX3 tyX3_ok nmX3 hown hK.1 hP hD hS 0 rfl rfl 1 (by decide) hfl16 (fun _ h9 => h9) rfl hin rfl (by decide +kernel) rfl rfl (Nat.le_of_ble_eq_true rfl) dX3_init_23 (fun H locs hP hD hS => ?_)
  have hP : va_P D vwCl [(a0, .inr (3, [.ref q5, .ref q16, .null, .null])), (q5, .inr (1, [.ref (ad9 1)])), ((ad9 1), .inl (cI, 132, .inl R0)), (q16, .inr (1, [.ref (ad20 1)])), ((ad20 1), .inl (cI, 132, .inl R0))] H := hP
  have hD : va_D A [(a0, .inr (3, [.ref q5, .ref q16, .null, .null])), (q5, .inr (1, [.ref (ad9 1)])), ((ad9 1), .inl (cI, 132, .inl R0)), (q16, .inr (1, [.ref (ad20 1)])), ((ad20 1), .inl (cI, 132, .inl R0))] := hD
  refine lv_aload_n hx hb dX3_init_26 rfl (lv_at hl 0 rfl) ?_
  refine va_new (ci := 0) (fs := [.null, .int 0, .int 0]) (C := RX0) (T := TX0) (N := 3) hx hb hts (show ∀ w ∈ wsX00, w ∈ wsX3_init by decide +kernel) tyX0 tyX0_ok hown (hts (.classLink RX3 19 RX0) (by decide +kernel)) (hts (.instantiable RX0 3) (by decide +kernel)) (hts (.initialized RX0) (by decide +kernel)) hK.1 hP hD hS hA rfl (fun j hj => by rcases (show j = 0 ∨ j = 1 ∨ j = 2 by omega) with rfl | rfl | rfl <;> rfl) (Nat.le_of_ble_eq_true rfl) (Nat.le_of_ble_eq_true rfl) dX3_init_27 (fun q27 H hP hD hS => ?_)
  have hP : va_P D vwCl [(a0, .inr (3, [.ref q5, .ref q16, .null, .null])), (q5, .inr (1, [.ref (ad9 1)])), ((ad9 1), .inl (cI, 132, .inl R0)), (q16, .inr (1, [.ref (ad20 1)])), ((ad20 1), .inl (cI, 132, .inl R0)), (q27, .inr (0, [.null, .int 0, .int 0]))] H := hP
  have hD : va_D A [(a0, .inr (3, [.ref q5, .ref q16, .null, .null])), (q5, .inr (1, [.ref (ad9 1)])), ((ad9 1), .inl (cI, 132, .inl R0)), (q16, .inr (1, [.ref (ad20 1)])), ((ad20 1), .inl (cI, 132, .inl R0)), (q27, .inr (0, [.null, .int 0, .int 0]))] := hD
  refine W.widen (k := 5) (n := 269) (Nat.le_of_ble_eq_true rfl) (Nat.le_of_ble_eq_true rfl) ?_
  refine lv_dup hx hb dX3_init_30 rfl ?_
  refine kgoN (wr := [(a0, .inr (3, [.ref q5, .ref q16, .null, .null])), (q5, .inr (1, [.ref (ad9 1)])), ((ad9 1), .inl (cI, 132, .inl R0)), (q16, .inr (1, [.ref (ad20 1)])), ((ad20 1), .inl (cI, 132, .inl R0))]) (krunIN (wc := [(q27, .inr (0, [.null, .int 0, .int 0]))]) (rest := [.ref q27, .ref a0]) hx hb hml hown hts hK (kX0_init l D cI q27) ggX3_init_X0_init hK.2.2.2.2.1 (hts (.initialized RX0) (by decide +kernel)) (hts (.instanceMethod yX0_init) (by decide +kernel)) rfl rfl rfl rfl hdX0_init ⟨Nat.le_of_ble_eq_true rfl, Nat.le_of_ble_eq_true rfl⟩ (hP.sub [5] rfl) (hD.sub [5] (by decide) rfl) hl.1 rfl (Nat.le_of_ble_eq_true rfl) dX3_init_31 ⟨Nat.le_of_ble_eq_true rfl, Nat.le_of_ble_eq_true rfl⟩) hP hD hS hA [5] [0, 1, 2, 3, 4] rfl rfl (by decide) (by decide) (fun ad31 H locs hP hD hS => ?_)
  have hP : va_P D vwCl [(a0, .inr (3, [.ref q5, .ref q16, .null, .null])), (q5, .inr (1, [.ref (ad9 1)])), ((ad9 1), .inl (cI, 132, .inl R0)), (q16, .inr (1, [.ref (ad20 1)])), ((ad20 1), .inl (cI, 132, .inl R0)), (q27, .inr (0, [.ref (ad31 1), .int 0, .int 0])), ((ad31 1), .inl (cI, 660, .inl (fun _ => 0)))] H := hP
  have hD : va_D A [(a0, .inr (3, [.ref q5, .ref q16, .null, .null])), (q5, .inr (1, [.ref (ad9 1)])), ((ad9 1), .inl (cI, 132, .inl R0)), (q16, .inr (1, [.ref (ad20 1)])), ((ad20 1), .inl (cI, 132, .inl R0)), (q27, .inr (0, [.ref (ad31 1), .int 0, .int 0])), ((ad31 1), .inl (cI, 660, .inl (fun _ => 0)))] := hD
  refine W.widen (k := 6) (n := 929) (Nat.le_of_ble_eq_true rfl) (Nat.le_of_ble_eq_true rfl) ?_
  refine va_putF (D := D) (ci := 3) (v := .ref q27) (ty := .object "CraneGuard$History") (C := RX3) (T := TX3) (N := 4) hx hb hts hinX3 tyX3 tyX3_ok nmX3 hown hK.1 hP hD hS 0 rfl rfl 2 (by decide) hfl22 (fun _ h9 => h9) rfl hin rfl (by decide +kernel) rfl rfl (Nat.le_of_ble_eq_true rfl) dX3_init_34 (fun H locs hP hD hS => ?_)
  have hP : va_P D vwCl [(a0, .inr (3, [.ref q5, .ref q16, .ref q27, .null])), (q5, .inr (1, [.ref (ad9 1)])), ((ad9 1), .inl (cI, 132, .inl R0)), (q16, .inr (1, [.ref (ad20 1)])), ((ad20 1), .inl (cI, 132, .inl R0)), (q27, .inr (0, [.ref (ad31 1), .int 0, .int 0])), ((ad31 1), .inl (cI, 660, .inl (fun _ => 0)))] H := hP
  have hD : va_D A [(a0, .inr (3, [.ref q5, .ref q16, .ref q27, .null])), (q5, .inr (1, [.ref (ad9 1)])), ((ad9 1), .inl (cI, 132, .inl R0)), (q16, .inr (1, [.ref (ad20 1)])), ((ad20 1), .inl (cI, 132, .inl R0)), (q27, .inr (0, [.ref (ad31 1), .int 0, .int 0])), ((ad31 1), .inl (cI, 660, .inl (fun _ => 0)))] := hD
  refine lv_aload_n hx hb dX3_init_37 rfl (lv_at hl 0 rfl) ?_
  refine va_new (ci := 2) (fs := [.null, .int 0, .int 0, .null, .null, .null, .int 0]) (C := RX2) (T := TX2) (N := 7) hx hb hts (show ∀ w ∈ wsX20, w ∈ wsX3_init by decide +kernel) tyX2 tyX2_ok hown (hts (.classLink RX3 26 RX2) (by decide +kernel)) (hts (.instantiable RX2 7) (by decide +kernel)) (hts (.initialized RX2) (by decide +kernel)) hK.1 hP hD hS hA rfl (fun j hj => by rcases (show j = 0 ∨ j = 1 ∨ j = 2 ∨ j = 3 ∨ j = 4 ∨ j = 5 ∨ j = 6 by omega) with rfl | rfl | rfl | rfl | rfl | rfl | rfl <;> rfl) (Nat.le_of_ble_eq_true rfl) (Nat.le_of_ble_eq_true rfl) dX3_init_38 (fun q38 H hP hD hS => ?_)
  have hP : va_P D vwCl [(a0, .inr (3, [.ref q5, .ref q16, .ref q27, .null])), (q5, .inr (1, [.ref (ad9 1)])), ((ad9 1), .inl (cI, 132, .inl R0)), (q16, .inr (1, [.ref (ad20 1)])), ((ad20 1), .inl (cI, 132, .inl R0)), (q27, .inr (0, [.ref (ad31 1), .int 0, .int 0])), ((ad31 1), .inl (cI, 660, .inl (fun _ => 0))), (q38, .inr (2, [.null, .int 0, .int 0, .null, .null, .null, .int 0]))] H := hP
  have hD : va_D A [(a0, .inr (3, [.ref q5, .ref q16, .ref q27, .null])), (q5, .inr (1, [.ref (ad9 1)])), ((ad9 1), .inl (cI, 132, .inl R0)), (q16, .inr (1, [.ref (ad20 1)])), ((ad20 1), .inl (cI, 132, .inl R0)), (q27, .inr (0, [.ref (ad31 1), .int 0, .int 0])), ((ad31 1), .inl (cI, 660, .inl (fun _ => 0))), (q38, .inr (2, [.null, .int 0, .int 0, .null, .null, .null, .int 0]))] := hD
  refine W.widen (k := 7) (n := 936) (Nat.le_of_ble_eq_true rfl) (Nat.le_of_ble_eq_true rfl) ?_
  refine lv_dup hx hb dX3_init_41 rfl ?_
  refine kgoN (wr := [(a0, .inr (3, [.ref q5, .ref q16, .ref q27, .null])), (q5, .inr (1, [.ref (ad9 1)])), ((ad9 1), .inl (cI, 132, .inl R0)), (q16, .inr (1, [.ref (ad20 1)])), ((ad20 1), .inl (cI, 132, .inl R0)), (q27, .inr (0, [.ref (ad31 1), .int 0, .int 0])), ((ad31 1), .inl (cI, 660, .inl (fun _ => 0)))]) (krunIN (wc := [(q38, .inr (2, [.null, .int 0, .int 0, .null, .null, .null, .int 0]))]) (rest := [.ref q38, .ref a0]) hx hb hml hown hts hK (kX2_init l D cI q38) ggX3_init_X2_init hK.2.2.2.2.2 (hts (.initialized RX2) (by decide +kernel)) (hts (.instanceMethod yX2_init) (by decide +kernel)) rfl rfl rfl rfl hdX2_init ⟨Nat.le_of_ble_eq_true rfl, Nat.le_of_ble_eq_true rfl⟩ (hP.sub [7] rfl) (hD.sub [7] (by decide) rfl) hl.1 rfl (Nat.le_of_ble_eq_true rfl) dX3_init_42 ⟨Nat.le_of_ble_eq_true rfl, Nat.le_of_ble_eq_true rfl⟩) hP hD hS hA [7] [0, 1, 2, 3, 4, 5, 6] rfl rfl (by decide) (by decide) (fun ad42 H locs hP hD hS => ?_)
  have hP : va_P D vwCl [(a0, .inr (3, [.ref q5, .ref q16, .ref q27, .null])), (q5, .inr (1, [.ref (ad9 1)])), ((ad9 1), .inl (cI, 132, .inl R0)), (q16, .inr (1, [.ref (ad20 1)])), ((ad20 1), .inl (cI, 132, .inl R0)), (q27, .inr (0, [.ref (ad31 1), .int 0, .int 0])), ((ad31 1), .inl (cI, 660, .inl (fun _ => 0))), (q38, .inr (2, [.ref (ad42 1), .int 0, .int 0, .ref (ad42 2), .ref (ad42 3), .ref (ad42 4), .int 0])), ((ad42 1), .inl (cI, 80, .inl (fun _ => 0))), ((ad42 2), .inl (cI, 20, .inl (fun _ => 0))), ((ad42 3), .inl (cI, 20, .inl (fun _ => 0))), ((ad42 4), .inl (cI, 20, .inl (fun _ => 0)))] H := hP
  have hD : va_D A [(a0, .inr (3, [.ref q5, .ref q16, .ref q27, .null])), (q5, .inr (1, [.ref (ad9 1)])), ((ad9 1), .inl (cI, 132, .inl R0)), (q16, .inr (1, [.ref (ad20 1)])), ((ad20 1), .inl (cI, 132, .inl R0)), (q27, .inr (0, [.ref (ad31 1), .int 0, .int 0])), ((ad31 1), .inl (cI, 660, .inl (fun _ => 0))), (q38, .inr (2, [.ref (ad42 1), .int 0, .int 0, .ref (ad42 2), .ref (ad42 3), .ref (ad42 4), .int 0])), ((ad42 1), .inl (cI, 80, .inl (fun _ => 0))), ((ad42 2), .inl (cI, 20, .inl (fun _ => 0))), ((ad42 3), .inl (cI, 20, .inl (fun _ => 0))), ((ad42 4), .inl (cI, 20, .inl (fun _ => 0)))] := hD
  refine W.widen (k := 11) (n := 1076) (Nat.le_of_ble_eq_true rfl) (Nat.le_of_ble_eq_true rfl) ?_
  refine va_putF (D := D) (ci := 3) (v := .ref q38) (ty := .object "CraneGuard$Text") (C := RX3) (T := TX3) (N := 4) hx hb hts hinX3 tyX3 tyX3_ok nmX3 hown hK.1 hP hD hS 0 rfl rfl 3 (by decide) hfl29 (fun _ h9 => h9) rfl hin rfl (by decide +kernel) rfl rfl (Nat.le_of_ble_eq_true rfl) dX3_init_45 (fun H locs hP hD hS => ?_)
  have hP : va_P D vwCl [(a0, .inr (3, [.ref q5, .ref q16, .ref q27, .ref q38])), (q5, .inr (1, [.ref (ad9 1)])), ((ad9 1), .inl (cI, 132, .inl R0)), (q16, .inr (1, [.ref (ad20 1)])), ((ad20 1), .inl (cI, 132, .inl R0)), (q27, .inr (0, [.ref (ad31 1), .int 0, .int 0])), ((ad31 1), .inl (cI, 660, .inl (fun _ => 0))), (q38, .inr (2, [.ref (ad42 1), .int 0, .int 0, .ref (ad42 2), .ref (ad42 3), .ref (ad42 4), .int 0])), ((ad42 1), .inl (cI, 80, .inl (fun _ => 0))), ((ad42 2), .inl (cI, 20, .inl (fun _ => 0))), ((ad42 3), .inl (cI, 20, .inl (fun _ => 0))), ((ad42 4), .inl (cI, 20, .inl (fun _ => 0)))] H := hP
  have hD : va_D A [(a0, .inr (3, [.ref q5, .ref q16, .ref q27, .ref q38])), (q5, .inr (1, [.ref (ad9 1)])), ((ad9 1), .inl (cI, 132, .inl R0)), (q16, .inr (1, [.ref (ad20 1)])), ((ad20 1), .inl (cI, 132, .inl R0)), (q27, .inr (0, [.ref (ad31 1), .int 0, .int 0])), ((ad31 1), .inl (cI, 660, .inl (fun _ => 0))), (q38, .inr (2, [.ref (ad42 1), .int 0, .int 0, .ref (ad42 2), .ref (ad42 3), .ref (ad42 4), .int 0])), ((ad42 1), .inl (cI, 80, .inl (fun _ => 0))), ((ad42 2), .inl (cI, 20, .inl (fun _ => 0))), ((ad42 3), .inl (cI, 20, .inl (fun _ => 0))), ((ad42 4), .inl (cI, 20, .inl (fun _ => 0)))] := hD
  exact kretvN (fun k => match k with | 1 => q5 | 2 => ad9 1 | 3 => q16 | 4 => ad20 1 | 5 => q27 | 6 => ad31 1 | 7 => q38 | 8 => ad42 1 | 9 => ad42 2 | 10 => ad42 3 | _ => (ad42 4)) hx hb hr hlk (hP.sub [0, 1, 2, 3, 4, 5, 6, 7, 8, 9, 10, 11] rfl) (hD.sub [0, 1, 2, 3, 4, 5, 6, 7, 8, 9, 10, 11] (by decide) rfl) hS dX3_init_48
