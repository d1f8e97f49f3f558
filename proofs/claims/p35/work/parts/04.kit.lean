/-! reads, writes, copies: what is asked of the index, as a value or none -/
def rdA (f : Nat → Int32) (n : Nat) (i : Int32) : Option Int32 := if 0 ≤ i.toInt ∧ i.toInt < (n : Int) then some (f i.toNatClampNeg) else none
def wrA (f : Nat → Int32) (n : Nat) (i x : Int32) : Option (Nat → Int32) := if 0 ≤ i.toInt ∧ i.toInt < (n : Int) then some (upd f i.toNatClampNeg x) else none
def cpA (f : Nat → Int32) (nf : Nat) (g : Nat → Int32) (ng : Nat) (sp dp n : Int32) : Option (Nat → Int32) := if (0 ≤ sp.toInt ∧ 0 ≤ dp.toInt ∧ 0 ≤ n.toInt) ∧ (sp.toNatClampNeg + n.toNatClampNeg ≤ nf ∧ dp.toNatClampNeg + n.toNatClampNeg ≤ ng) then some (va_cpy f g sp.toNatClampNeg dp.toNatClampNeg n.toNatClampNeg) else none
def jrem (x y : Int32) : Int32 := x - x / y * y
def jshl (x y : Int32) : Int32 := x <<< (y &&& 31)
def jshr (x y : Int32) : Int32 := x >>> (y &&& 31)
def jremO (x y : Int32) : Option Int32 := if y = 0 then none else some (jrem x y)
def jushr (x y : Int32) : Int32 := (x.toUInt32 >>> (y.toUInt32 &&& Int32.toUInt32 31)).toInt32
def jmin (x y : Int32) : Int32 := if y < x then y else x
def bI (b : Bool) : Int32 := match b with
  | true => 1
  | false => 0
def zb (x : Int32) : Option Bool := if x = 0 then some false else if x = 1 then some true else none
def lp {σ ρ : Type} (body : σ → Option (σ ⊕ ρ)) : Nat → σ → Option ρ
  | 0, _ => none
  | n + 1, s => (body s).bind fun x => match x with
    | .inl s' => lp body n s'
    | .inr r => some r
theorem rdA_some {f : Nat → Int32} {n : Nat} {i x : Int32} (h : rdA f n i = some x) : vp_in i n ∧ f i.toNatClampNeg = x := by
  unfold rdA at h
  split at h
  · rename_i hc
    exact ⟨vp_in_iff.mpr hc, Option.some.inj h⟩
  · cases h
theorem wrA_some {f g : Nat → Int32} {n : Nat} {i x : Int32} (h : wrA f n i x = some g) : vp_in i n ∧ upd f i.toNatClampNeg x = g := by
  unfold wrA at h
  split at h
  · rename_i hc
    exact ⟨vp_in_iff.mpr hc, Option.some.inj h⟩
  · cases h
theorem zb_some {x : Int32} {b : Bool} (h : zb x = some b) : x = bI b := by
  unfold zb at h
  split at h
  · rename_i hc
    cases h
    exact hc
  · split at h
    · rename_i hc
      cases h
      exact hc
    · cases h
theorem k_neg {x : Int32} (h : 0 ≤ x.toInt) : ¬ x < 0 := fun h2 => by
  rw [Int32.lt_iff_toInt_lt] at h2
  exact absurd h2 (Int.not_lt.mpr h)
theorem cpA_some {f g g2 : Nat → Int32} {nf ng : Nat} {sp dp n : Int32} (h : cpA f nf g ng sp dp n = some g2) : ¬ sp < 0 ∧ ¬ dp < 0 ∧ ¬ n < 0 ∧ sp.toNatClampNeg + n.toNatClampNeg ≤ nf ∧ dp.toNatClampNeg + n.toNatClampNeg ≤ ng ∧ va_cpy f g sp.toNatClampNeg dp.toNatClampNeg n.toNatClampNeg = g2 := by
  unfold cpA at h
  split at h
  · rename_i hc
    exact ⟨k_neg hc.1.1, k_neg hc.1.2.1, k_neg hc.1.2.2, hc.2.1, hc.2.2, Option.some.inj h⟩
  · cases h
theorem k_look3 {x : Int32} {o1 o2 o3 d : Int} (h1 : ¬ x = 60) (h2 : ¬ x = 62) (h3 : ¬ x = 126) : Op.lookupswitch.offset (#[(60, o1), (62, o2), (126, o3)] : Array (Int × Int)).toList d x.toInt = d := by
  have e1 : ¬ (60 : Int) = x.toInt := fun e => h1 (Int32.toInt_inj.mp (e.symm.trans rfl))
  have e2 : ¬ (62 : Int) = x.toInt := fun e => h2 (Int32.toInt_inj.mp (e.symm.trans rfl))
  have e3 : ¬ (126 : Int) = x.toInt := fun e => h3 (Int32.toInt_inj.mp (e.symm.trans rfl))
  simp only [Op.lookupswitch.offset, if_neg e1, if_neg e2, if_neg e3]
theorem kIfT {α : Type} {c : Prop} {inst : Decidable c} {a b o : α} (hc : c) (h : @ite α c inst a b = o) : a = o := by
  rw [if_pos hc] at h
  exact h
theorem kIfF {α : Type} {c : Prop} {inst : Decidable c} {a b o : α} (hc : ¬ c) (h : @ite α c inst a b = o) : b = o := by
  rw [if_neg hc] at h
  exact h
theorem kBind {α β : Type} {x : Option α} {f : α → Option β} {o : β} (h : x.bind f = some o) : ∃ a, x = some a ∧ f a = some o := by
  cases x with
  | none => cases h
  | some a => exact ⟨a, rfl, h⟩
theorem bI_0 {b : Bool} (h : bI b = 0) : ¬ b = true := by
  intro hb
  subst hb
  exact absurd h (by decide)
theorem bI_1 {b : Bool} (h : ¬ bI b = 0) : b = true := by
  cases b with
  | true => rfl
  | false => exact absurd rfl h
theorem kfm {α : Type} {l : List α} {pm : List Nat} : ∀ {w2 : List α}, pm.map (fun i => l[i]?) = w2.map some → pm.filterMap (fun i => l[i]?) = w2 := by
  induction pm with
  | nil =>
    intro w2 h
    cases w2 with
    | nil => rfl
    | cons a t => simp at h
  | cons i t ih =>
    intro w2 h
    cases w2 with
    | nil => simp at h
    | cons a u =>
      simp only [List.map_cons, List.cons.injEq] at h
      rw [List.filterMap_cons, h.1]
      simp only [ih h.2]
/-! the private members of nest mates that are called; the class of int arrays is cI all through -/
def kN (U : State) : Prop := va_Nw (.methodLinkNest RX1 38 yX3_shorterWay "CraneGuard") U ∧ va_Nw (.methodLinkNest RX1 45 yX3_stepsClockwise "CraneGuard") U ∧ va_Nw (.methodLinkNest RX2 64 yX3_isAngle "CraneGuard") U ∧ va_Nw (.methodLinkNest RX3 21 yX0_init "CraneGuard") U ∧ va_Nw (.methodLinkNest RX3 28 yX2_init "CraneGuard") U
theorem kN.warm {s U : State} (hW : s.WarmedH U.vm) (h : kN s) : kN U := ⟨va_Nw.warmM hW h.1, va_Nw.warmM hW h.2.1, va_Nw.warmM hW h.2.2.1, va_Nw.warmM hW h.2.2.2.1, va_Nw.warmM hW h.2.2.2.2⟩
theorem kN.same {u U : State} (hv : u.vm = U.vm) (h : kN u) : kN U := ⟨va_Nw.same rfl hv h.1, va_Nw.same rfl hv h.2.1, va_Nw.same rfl hv h.2.2.1, va_Nw.same rfl hv h.2.2.2.1, va_Nw.same rfl hv h.2.2.2.2⟩
def kK (D : va_G) (cI : ClassId) (U : State) : Prop := va_K D vwCl [(cI, .int)] U ∧ kN U
theorem kK.warm {D : va_G} {cI : ClassId} {s U : State} (h : kK D cI s) (hW : s.WarmedH U.vm) : kK D cI U := ⟨va_K.moved hW.alike h.1, h.2.warm hW⟩
theorem kK.same {D : va_G} {cI : ClassId} {u U : State} (hv : u.vm = U.vm) (h : kK D cI u) : kK D cI U := ⟨va_K.moved (by rw [hv]; exact Vm.Alike.refl U.vm) h.1, h.2.same hv⟩
def kPre (D : va_G) (cI : ClassId) (w : va_W) (sz : Nat) : State → Prop := fun U => U.heap.size = sz ∧ va_P D vwCl w U.heap ∧ kK D cI U ∧ va_D (fun _ => True) w
def kPost (D : va_G) (A : Nat → Prop) (w' : va_W) (rv : Option Value) : Array Value → State → Outcome → State → Prop := fun _ st oc t => (oc = .returned rv ∧ va_P D vwCl w' t.heap ∧ va_D A w') ∧ va_F A st t
/-- a method's contract: from the cells w, with the arguments av, it answers rv and leaves the cells w'; nothing else changes, nothing is made -/
def Ct (l : Launch) (y : MethodName) (ws : List Cond) (rm : Room) (D : va_G) (cI : ClassId) (av : List Value) (w w' : va_W) (rv : Option Value) : Prop :=
  ∀ sz : Nat, Met l y ws rm (va_Pc av (kPre D cI w sz)) (kPost D (va_A w sz) w' rv) 0 0 (va_A w sz)
theorem kBlind {av : List Value} {D : va_G} {cI : ClassId} {w : va_W} {sz : Nat} : FrameBlind (va_Pc av (kPre D cI w sz)) := fun a U g mk q => by
  obtain ⟨q0, q1, qP, qK, qD⟩ := q
  exact ⟨q0, q1, qP, kK.same (u := U) (U := U.calling g mk a) rfl qK, qD⟩
theorem kPreS {s : State} {H : Heap} {A : Nat → Prop} {av : List Value} {D : va_G} {cI : ClassId} {w : va_W} (hK : kK D cI s) (hP : va_P D vwCl w H) (hD : va_D A w) : PreS s H (va_Pc av (kPre D cI w H.size)) av :=
  ⟨kBlind, fun U hU hW => ⟨rfl, by rw [hU], by rw [hU]; exact hP, hK.warm hW, hD.weaken (fun _ _ _ _ => trivial)⟩⟩
/-- what a walk has from its entry on -/
def kF (R : Room) (s : State) (m : MethodId) (args : Array Value) (meth : Method) (c : Code) (p : Program) (cc : ByteArray) (nL : Nat) (ret : Option FieldType) (own : String) (Ts : List Cond) (D : va_G) (cI : ClassId) (A : Nat → Prop) : Prop :=
  p.tables.exec = Jvm.exec ∧ c.code = cc ∧ c.maxLocals = nL ∧ meth.sig.returnType = ret ∧ s.vm.findClass own = some m.cls ∧ (∀ w ∈ Ts, w.before args s = true) ∧ meth.locks = false ∧ kK D cI s ∧ (∀ q, s.heap.size ≤ q → A q)
theorem Ct.of {l : Launch} {y : MethodName} {ws ws' : List Cond} {rm : Room} {D : va_G} {cI : ClassId} {av : List Value} {w w' : va_W} {rv : Option Value} {cc : ByteArray} {maxL : Nat} {ret : Option FieldType} (hy : plainName y.cls = true) (hw : ws = Cond.code y cc maxL ret :: ws') (hn : (lg_sl av).length ≤ maxL)
    (body : ∀ (p : Program) (e : Env) (s : State) (m : MethodId) (args : Array Value) (below : List Frame) (meth : Method) (c : Code) (A : Nat → Prop), kF rm s m args meth c p cc maxL ret y.cls ws D cI A → va_P D vwCl w s.heap → va_D A w → va_S A s.heap s.heap [] → ∀ ls : Array Slot, lv_has ls maxL (lv_args 0 av) →
      W p l e rm s m args below meth c s.heap [] 0 0 (MQ below (kPost D A w' rv) args s 0 0 A) (F0 m 0 ls [])) : Ct l y ws rm D cI av w w' rv := by
  intro sz
  refine Met.ofW (cc := cc) (maxL := maxL) (ret := ret) hy hw ?_
  intro p e s m args below meth c s₁ B hml hv
  obtain ⟨rfl, hsz, hP, hK, hD0⟩ := hv
  subst hsz
  rw [lg_entry_eq]
  exact body p e s m _ below meth c (va_A w s.heap.size) ⟨B.exec, B.bytes, hml, B.returns, findClass_of_methodNamed B.named, atoms_spec (ws := ws) B.pre, B.notSynchronized, hK, fun q h => Or.inr h⟩ hP hD0.self va_S.rf _ (lv_entry av hn)
section KW
variable {p : Program} {l : Launch} {e : Env} {R : Room} {s : State} {m : MethodId} {args : Array Value} {below : List Frame} {meth : Method} {c : Code} {H : Heap} {locs : List Loc} {cells slots : Nat} {Q : State → Prop} {cc : ByteArray} {pc : Nat} {ls : Array Slot} {rest : List Value} {D : va_G} {cI : ClassId} {A : Nat → Prop} {w : va_W}
theorem krd (hx : p.tables.exec = Jvm.exec) (hb : c.code = cc) (hK : kK D cI s) (hP : va_P D vwCl w H) (q0 : Nat) {a n : Nat} {f : Nat → Int32} (ha : w[q0]? = some (a, .inl (cI, n, .inl f))) {i x : Int32} (hv : rdA f n i = some x) (hdg : decode cc pc = .ok (.iaload, 1))
    (kk : W p l e R s m args below meth c H locs cells slots Q (F0 m (pc + 1) ls (.int x :: rest))) : W p l e R s m args below meth c H locs cells slots Q (F0 m pc ls (.int i :: .ref a :: rest)) := by
  obtain ⟨hin, rfl⟩ := rdA_some hv
  exact va_iald hx hb hK.1 hP q0 0 ha rfl hin hdg kk
theorem kwr (hx : p.tables.exec = Jvm.exec) (hb : c.code = cc) (hK : kK D cI s) (hP : va_P D vwCl w H) (hD : va_D A w) (hS : va_S A s.heap H locs) (q0 : Nat) {a n : Nat} {f g : Nat → Int32} (ha : w[q0]? = some (a, .inl (cI, n, .inl f))) {i x : Int32} (hv : wrA f n i x = some g) (w2 : va_W) (hw2 : w.set q0 (a, .inl (cI, n, .inl g)) = w2) (hdg : decode cc pc = .ok (.iastore, 1))
    (kk : ∀ (H1 : Heap) (locs1 : List Loc), va_P D vwCl w2 H1 → va_D A w2 → va_S A s.heap H1 locs1 → W p l e R s m args below meth c H1 locs1 cells slots Q (F0 m (pc + 1) ls rest)) : W p l e R s m args below meth c H locs cells slots Q (F0 m pc ls (.int x :: .int i :: .ref a :: rest)) := by
  obtain ⟨hin, rfl⟩ := wrA_some hv
  subst hw2
  exact va_iast hx hb hK.1 hP hD hS q0 0 ha rfl hin hdg kk
theorem kcp (hx : p.tables.exec = Jvm.exec) (hb : c.code = cc) (hml : c.maxLocals = ls.size) {own : String} {index : Nat} (hown : s.vm.findClass own = some m.cls) (hlink : (Cond.methodLink own index arraycopyName).before args s = true) (hnat : (Cond.native arraycopyName).before args s = true) (hstat : (Cond.static arraycopyName).before args s = true) (hini : (Cond.initialized "java/lang/System").before args s = true)
    (hK : kK D cI s) (hP : va_P D vwCl w H) (hD : va_D A w) (hS : va_S A s.heap H locs) (q0 q1 : Nat) {a0 a n0 n1 : Nat} {f g g2 : Nat → Int32} (ha0 : w[q0]? = some (a0, .inl (cI, n0, .inl f))) (ha1 : w[q1]? = some (a, .inl (cI, n1, .inl g))) {sp dp n : Int32} (hv : cpA f n0 g n1 sp dp n = some g2) (w2 : va_W) (hw2 : w.set q1 (a, .inl (cI, n1, .inl g2)) = w2)
    (hframes : 1 ≤ R.frames) (hlocals : (rest.map fun v => v.category).sum + (nativeFrameWords "java/lang/System" "arraycopy" 5 + 11) ≤ R.locals) (hdg : decode cc pc = .ok (.invokestatic index, 3))
    (kk : ∀ (H1 : Heap) (locs1 : List Loc), va_P D vwCl w2 H1 → va_D A w2 → va_S A s.heap H1 locs1 → W p l e R s m args below meth c H1 locs1 cells slots Q (F0 m (pc + 3) ls rest)) : W p l e R s m args below meth c H locs cells slots Q (F0 m pc ls (.int n :: .int dp :: .ref a :: .int sp :: .ref a0 :: rest)) := by
  obtain ⟨h1, h2, h3, h4, h5, rfl⟩ := cpA_some hv
  subst hw2
  exact va_copyi hx hb hml hown hlink hnat hstat hini hK.1 hP hD hS q0 q1 0 0 ha0 ha1 rfl rfl rfl h1 h2 h3 h4 h5 (fun _ _ => rfl) hframes hlocals hdg kk
theorem kirem (hx : p.tables.exec = Jvm.exec) (hb : c.code = cc) {x y : Int32} (hdg : decode cc pc = .ok (.irem, 1)) (hne : ¬ y = 0)
    (kk : W p l e R s m args below meth c H locs cells slots Q (F0 m (pc + 1) ls (.int (jrem x y) :: rest))) : W p l e R s m args below meth c H locs cells slots Q (F0 m pc ls (.int y :: .int x :: rest)) := lv_irem hx hb hdg hne kk
theorem kishl (hx : p.tables.exec = Jvm.exec) (hb : c.code = cc) {x y : Int32} (hdg : decode cc pc = .ok (.ishl, 1))
    (kk : W p l e R s m args below meth c H locs cells slots Q (F0 m (pc + 1) ls (.int (jshl x y) :: rest))) : W p l e R s m args below meth c H locs cells slots Q (F0 m pc ls (.int y :: .int x :: rest)) := lv_ishl hx hb hdg kk
theorem kiushr (hx : p.tables.exec = Jvm.exec) (hb : c.code = cc) {x y : Int32} (hdg : decode cc pc = .ok (.iushr, 1))
    (kk : W p l e R s m args below meth c H locs cells slots Q (F0 m (pc + 1) ls (.int (jushr x y) :: rest))) : W p l e R s m args below meth c H locs cells slots Q (F0 m pc ls (.int y :: .int x :: rest)) := lv_iushr hx hb hdg rfl kk
theorem kishr (hx : p.tables.exec = Jvm.exec) (hb : c.code = cc) {x y : Int32} (hdg : decode cc pc = .ok (.ishr, 1))
    (kk : W p l e R s m args below meth c H locs cells slots Q (F0 m (pc + 1) ls (.int (jshr x y) :: rest))) : W p l e R s m args below meth c H locs cells slots Q (F0 m pc ls (.int y :: .int x :: rest)) := lv_ishr hx hb hdg kk
theorem kiremO (hx : p.tables.exec = Jvm.exec) (hb : c.code = cc) {x y v : Int32} (hdg : decode cc pc = .ok (.irem, 1)) (hv : jremO x y = some v)
    (kk : W p l e R s m args below meth c H locs cells slots Q (F0 m (pc + 1) ls (.int v :: rest))) : W p l e R s m args below meth c H locs cells slots Q (F0 m pc ls (.int y :: .int x :: rest)) := by
  unfold jremO at hv
  split at hv
  · cases hv
  · rename_i hne
    have hv := Option.some.inj hv
    subst hv
    exact lv_irem hx hb hdg hne kk
theorem kif_eqb (hx : p.tables.exec = Jvm.exec) (hb : c.code = cc) {b : Bool} {off : Int} {tgt : Nat} (hdg : decode cc pc = .ok (.ifCond .eq off, 3)) (ht : (pc : Int) + off = (tgt : Int))
    (kt : ¬ b = true → W p l e R s m args below meth c H locs cells slots Q (F0 m tgt ls rest)) (kf : b = true → W p l e R s m args below meth c H locs cells slots Q (F0 m (pc + 3) ls rest)) : W p l e R s m args below meth c H locs cells slots Q (F0 m pc ls (.int (bI b) :: rest)) :=
  lv_if_eq hx hb hdg ht (fun h => kt (bI_0 h)) (fun h => kf (bI_1 h))
theorem kif_neb (hx : p.tables.exec = Jvm.exec) (hb : c.code = cc) {b : Bool} {off : Int} {tgt : Nat} (hdg : decode cc pc = .ok (.ifCond .ne off, 3)) (ht : (pc : Int) + off = (tgt : Int))
    (kt : b = true → W p l e R s m args below meth c H locs cells slots Q (F0 m tgt ls rest)) (kf : ¬ b = true → W p l e R s m args below meth c H locs cells slots Q (F0 m (pc + 3) ls rest)) : W p l e R s m args below meth c H locs cells slots Q (F0 m pc ls (.int (bI b) :: rest)) :=
  lv_if_ne hx hb hdg ht (fun h => kt (bI_1 h)) (fun h => kf (bI_0 h))
/-- the end of a walk -/
theorem kreti {w' : va_W} {v : Int32} (hx : p.tables.exec = Jvm.exec) (hb : c.code = cc) (hr : meth.sig.returnType = some .int) (hlk : meth.locks = false) (hP : va_P D vwCl w' H) (hD : va_D A w') (hS : va_S A s.heap H locs) (hdg : decode cc pc = .ok (.ireturn, 1)) :
    W p l e R s m args below meth c H locs cells slots (MQ below (kPost D A w' (some (.int v))) args s cells slots A) (F0 m pc ls [.int v]) :=
  W.iret hx hb hr (fun t ht _ => ⟨⟨rfl, by rw [ht]; exact hP, hD⟩, hS.F ht⟩) hS.2.2 hdg hlk
theorem bI_nar (b : Bool) : narrow .boolean (.int (bI b)) = .int (bI b) := by
  cases b <;> decide
theorem kretz {w' : va_W} {b : Bool} (hx : p.tables.exec = Jvm.exec) (hb : c.code = cc) (hr : meth.sig.returnType = some .boolean) (hlk : meth.locks = false) (hP : va_P D vwCl w' H) (hD : va_D A w') (hS : va_S A s.heap H locs) (hdg : decode cc pc = .ok (.ireturn, 1)) :
    W p l e R s m args below meth c H locs cells slots (MQ below (kPost D A w' (some (.int (bI b)))) args s cells slots A) (F0 m pc ls [.int (bI b)]) :=
  W.zret hx hb hr (bI_nar b) (fun t ht _ => ⟨⟨rfl, by rw [ht]; exact hP, hD⟩, hS.F ht⟩) hS.2.2 hdg hlk
theorem kretv {w' : va_W} (hx : p.tables.exec = Jvm.exec) (hb : c.code = cc) (hr : meth.sig.returnType = none) (hlk : meth.locks = false) (hP : va_P D vwCl w' H) (hD : va_D A w') (hS : va_S A s.heap H locs) (hdg : decode cc pc = .ok (.return_, 1)) :
    W p l e R s m args below meth c H locs cells slots (MQ below (kPost D A w' none) args s cells slots A) (F0 m pc ls []) :=
  W.vret hx hb hr (fun t ht _ => ⟨⟨rfl, by rw [ht]; exact hP, hD⟩, hS.F ht⟩) hS.2.2 hdg hlk
theorem kretl {w' : va_W} {v : Int64} (hx : p.tables.exec = Jvm.exec) (hb : c.code = cc) (hr : meth.sig.returnType = some .long) (hlk : meth.locks = false) (hP : va_P D vwCl w' H) (hD : va_D A w') (hS : va_S A s.heap H locs) (hdg : decode cc pc = .ok (.lreturn, 1)) :
    W p l e R s m args below meth c H locs cells slots (MQ below (kPost D A w' (some (.long v))) args s cells slots A) (F0 m pc ls [.long v]) :=
  W.lret hx hb hr (fun t ht _ => ⟨⟨rfl, by rw [ht]; exact hP, hD⟩, hS.F ht⟩) hS.2.2 hdg hlk
/-! calls: a run, and what is behind it -/
theorem krunV {y : MethodName} {bytes : ByteArray} {maxL nL n index ci : Nat} {ret : Option FieldType} {ws ws' Ts : List Cond} {rm : Room} {own : String} {b : Nat} {As st0 : List Value} {wc wc' : va_W} {rv : Option Value} {q : vw_C} {fs : List Value} {A0 : Nat → Prop}
    (hx : p.tables.exec = Jvm.exec) (hb : c.code = cc) (hml : c.maxLocals = nL) (hown : s.vm.findClass own = some m.cls) (hts : ∀ w ∈ Ts, w.before args s = true) (hK : kK D cI s)
    (hM : Ct l y ws rm D cI (.ref b :: As) wc wc' rv) (hG : GoodIn Ts (wsV own index y.cls y ws)) (hw : ws = Cond.code y bytes maxL ret :: ws') (hrc : rm.cells = 0) (hrs : rm.slots = 0)
    (hd : y.cls ≠ "java/lang/invoke/MethodHandle" ∧ y.cls ≠ "java/lang/invoke/VarHandle" ∧ (parseMethodDescriptor y.desc).map (fun d => d.parameters.length) = some n) (hR : rm.frames + 1 ≤ R.frames ∧ 8 + (maxL + 11) + rm.locals ≤ R.locals)
    (hP : va_P D vwCl wc H) (hD : va_D A0 wc) (hq : vwCl[ci]? = some q) (hqc : q.1 = y.cls) (he : wc[0]? = some (b, .inr (ci, fs)))
    (hn : As.length = n) (hl : ls.size = nL) (hst : st0 = As.reverse ++ .ref b :: rest) (hcat : (rest.map fun v => v.category).sum ≤ 8) (hdg : decode cc pc = .ok (.invokevirtual index, 3)) (hcr : cells ≤ R.cells ∧ slots ≤ R.slots) :
    va_Run p l e R s m args below meth c H locs cells slots 0 0 (F0 m pc ls st0) rest (kPost D (va_A wc H.size) wc' rv (Value.ref b :: As).toArray) (va_A wc H.size) := by
  refine va_runV (C := y.cls) ⟨hx, hb, hml, hown, hts⟩ (hM H.size) (cwV n hts hG hw hrc hrs ⟨rfl, hd⟩ hR) ?_ rfl hn hl hst (lv_room hcat) hdg hcr
  obtain ⟨h1, h2⟩ := kPreS (av := .ref b :: As) hK hP hD
  refine ⟨h1, ?_, h2⟩
  have h3 := va_recv hK.1 hP hq he
  rw [hqc] at h3
  exact h3
theorem krunS {y : MethodName} {bytes : ByteArray} {maxL nL n index : Nat} {ret : Option FieldType} {ws ws' Ts : List Cond} {rm : Room} {own : String} {As st0 : List Value} {wc wc' : va_W} {rv : Option Value} {A0 : Nat → Prop}
    (hx : p.tables.exec = Jvm.exec) (hb : c.code = cc) (hml : c.maxLocals = nL) (hown : s.vm.findClass own = some m.cls) (hts : ∀ w ∈ Ts, w.before args s = true) (hK : kK D cI s)
    (hM : Ct l y ws rm D cI As wc wc' rv) (hG : GoodIn Ts (va_wsS own index y ws)) (hw : ws = Cond.code y bytes maxL ret :: ws') (hrc : rm.cells = 0) (hrs : rm.slots = 0)
    (hd : y.cls ≠ "java/lang/invoke/MethodHandle" ∧ y.cls ≠ "java/lang/invoke/VarHandle" ∧ (parseMethodDescriptor y.desc).map (fun d => d.parameters.length) = some n) (hR : rm.frames + 1 ≤ R.frames ∧ 8 + (maxL + 11) + rm.locals ≤ R.locals)
    (hP : va_P D vwCl wc H) (hD : va_D A0 wc)
    (hn : As.length = n) (hl : ls.size = nL) (hst : st0 = As.reverse ++ rest) (hcat : (rest.map fun v => v.category).sum ≤ 8) (hdg : decode cc pc = .ok (.invokestatic index, 3)) (hcr : cells ≤ R.cells ∧ slots ≤ R.slots) :
    va_Run p l e R s m args below meth c H locs cells slots 0 0 (F0 m pc ls st0) rest (kPost D (va_A wc H.size) wc' rv As.toArray) (va_A wc H.size) := by
  have ok : ∀ w ∈ va_wsS own index y ws, w.before args s = true := fun w h => hts w (hG w h).1
  exact va_runS ⟨hx, hb, hml, hown, hts⟩ (hM H.size) ⟨callB_of n hts (fun w h => hG w (by unfold va_wsS; exact List.mem_append_right _ h)) hw hrc hrs (ok _ (by simp [va_wsS])) (ok _ (by simp [va_wsS])) hd hR, ok _ (by simp [va_wsS])⟩ (kPreS hK hP hD) rfl hn hl hst (lv_room hcat) hdg hcr
theorem krunSN {y : MethodName} {bytes : ByteArray} {maxL nL n index : Nat} {ret : Option FieldType} {ws ws' Ts : List Cond} {rm : Room} {own host : String} {As st0 : List Value} {wc wc' : va_W} {rv : Option Value} {A0 : Nat → Prop}
    (hx : p.tables.exec = Jvm.exec) (hb : c.code = cc) (hml : c.maxLocals = nL) (hown : s.vm.findClass own = some m.cls) (hts : ∀ w ∈ Ts, w.before args s = true) (hK : kK D cI s)
    (hM : Ct l y ws rm D cI As wc wc' rv) (hG : GoodIn Ts ws) (hlk : va_Nw (.methodLinkNest own index y host) s) (hini : (Cond.initialized y.cls).before args s = true) (hstat : (Cond.static y).before args s = true) (hw : ws = Cond.code y bytes maxL ret :: ws') (hrc : rm.cells = 0) (hrs : rm.slots = 0)
    (hd : y.cls ≠ "java/lang/invoke/MethodHandle" ∧ y.cls ≠ "java/lang/invoke/VarHandle" ∧ (parseMethodDescriptor y.desc).map (fun d => d.parameters.length) = some n) (hR : rm.frames + 1 ≤ R.frames ∧ 8 + (maxL + 11) + rm.locals ≤ R.locals)
    (hP : va_P D vwCl wc H) (hD : va_D A0 wc)
    (hn : As.length = n) (hl : ls.size = nL) (hst : st0 = As.reverse ++ rest) (hcat : (rest.map fun v => v.category).sum ≤ 8) (hdg : decode cc pc = .ok (.invokestatic index, 3)) (hcr : cells ≤ R.cells ∧ slots ≤ R.slots) :
    va_Run p l e R s m args below meth c H locs cells slots 0 0 (F0 m pc ls st0) rest (kPost D (va_A wc H.size) wc' rv As.toArray) (va_A wc H.size) :=
  va_runSN ⟨hx, hb, hml, hown, hts⟩ (hM H.size) ⟨va_cnB n hts hG hw hrc hrs hlk hini hd hR, hstat, trivial⟩ (kPreS hK hP hD) rfl hn hl hst (lv_room hcat) hdg hcr
/-- behind a call: the heap, apart from the callee's cells, is as it was -/
theorem kgo0 {wc wc' : va_W} {rv : Option Value} {st0 : List Value} {a : Array Value} (hr : va_Run p l e R s m args below meth c H locs cells slots 0 0 (F0 m pc ls st0) rest (kPost D (va_A wc H.size) wc' rv a) (va_A wc H.size)) (hS : va_S A s.heap H locs) (hF : ∀ q, va_A wc H.size q → A q)
    (kk : ∀ (H1 : Heap) (locs1 : List Loc), va_P D vwCl wc' H1 → va_D (va_A wc H.size) wc' → (∀ q : Nat, q < H.size → ¬ va_A wc H.size q → H1[q]? = H[q]?) → va_S A s.heap H1 locs1 → W p l e R s m args below meth c H1 locs1 cells slots Q (F0 m (pc + 3) ls (rv.toList ++ rest))) : W p l e R s m args below meth c H locs cells slots Q (F0 m pc ls st0) := by
  intro T hT X
  obtain ⟨v, st₀, t, T', L, h0, X', hL, e1, e2, ⟨⟨hv, hp, hd⟩, hz, hk⟩, st⟩ := hr T hT X
  cases hv
  rw [h0] at hz hk
  obtain ⟨t2, a1, b1⟩ := kk T'.heap (locs ++ L) (by rw [e1]; exact hp) hd (fun q h1 h2 => by rw [e1]; exact hk q h1 h2)
    ⟨Nat.le_trans hS.1 (by rw [e1]; exact hz), fun q h1 h2 => by rw [e1, hk q (Nat.lt_of_lt_of_le h1 hS.1) (fun z => h2 (hF q z))]; exact hS.2.1 q h1 h2, fun q hq => by
      rcases List.mem_append.mp hq with h | h
      · exact hS.2.2 q h
      · exact hF _ (hL q h)⟩ T' rfl X'
  exact ⟨t2, st t2 a1, b1⟩
/-- a call that only reads -/
theorem kgoR {wc : va_W} {rv : Option Value} {st0 : List Value} {a : Array Value} (hr : va_Run p l e R s m args below meth c H locs cells slots 0 0 (F0 m pc ls st0) rest (kPost D (va_A wc H.size) wc rv a) (va_A wc H.size)) (hP : va_P D vwCl w H) (hD : va_D A w) (hS : va_S A s.heap H locs) (hA : ∀ q, s.heap.size ≤ q → A q) (isC : List Nat) (hC : isC.map (fun i => w[i]?) = wc.map some)
    (kk : ∀ (H1 : Heap) (locs1 : List Loc), va_P D vwCl w H1 → va_S A s.heap H1 locs1 → W p l e R s m args below meth c H1 locs1 cells slots Q (F0 m (pc + 3) ls (rv.toList ++ rest))) : W p l e R s m args below meth c H locs cells slots Q (F0 m pc ls st0) := by
  refine kgo0 hr hS (va_free hD hS hA isC hC) (fun H1 locs1 hP1 hD1 hk hS1 => kk H1 locs1 (fun k q hq => ?_) hS1)
  by_cases hm : ∃ (j : Nat) (z : va_E), wc[j]? = some (q.1, z)
  · obtain ⟨j, z, hj⟩ := hm
    have h1 : (isC.map (fun i => w[i]?))[j]? = some (some (q.1, z)) := by rw [hC, List.getElem?_map, hj]; rfl
    rw [List.getElem?_map] at h1
    cases hi : isC[j]? with
    | none => rw [hi] at h1; cases h1
    | some i =>
      rw [hi] at h1
      have h2 : w[i]? = some (q.1, z) := Option.some.inj h1
      have h3 : i = k := hD.1 i k _ _ h2 hq rfl
      subst h3
      have h4 : q = (q.1, z) := Option.some.inj (hq.symm.trans h2)
      rw [← h4] at hj
      exact hP1 j q hj
  · have hlt := (hP k q hq).lt
    exact (hP k q hq).kept (hk q.1 hlt (fun h => h.elim (fun ⟨j, z, hj⟩ => hm ⟨j, z, hj⟩) (fun h => absurd hlt (Nat.not_lt.mpr h))))
/-- a call over the whole of the caller's cells -/
theorem kgoA {w' : va_W} {rv : Option Value} {st0 : List Value} {a : Array Value} (hr : va_Run p l e R s m args below meth c H locs cells slots 0 0 (F0 m pc ls st0) rest (kPost D (va_A w H.size) w' rv a) (va_A w H.size)) (hD : va_D A w) (hS : va_S A s.heap H locs) (hA : ∀ q, s.heap.size ≤ q → A q)
    (kk : ∀ (H1 : Heap) (locs1 : List Loc), va_P D vwCl w' H1 → va_D A w' → va_S A s.heap H1 locs1 → W p l e R s m args below meth c H1 locs1 cells slots Q (F0 m (pc + 3) ls (rv.toList ++ rest))) : W p l e R s m args below meth c H locs cells slots Q (F0 m pc ls st0) := by
  have hF : ∀ q, va_A w H.size q → A q := by
    intro q h
    rcases h with ⟨k, z, hk⟩ | h
    · exact hD.2 k _ hk
    · exact hA q (Nat.le_trans hS.1 h)
  exact kgo0 hr hS hF (fun H1 locs1 hP1 hD1 _ hS1 => kk H1 locs1 hP1 (hD1.weaken (fun _ q _ h => hF q.1 h)) hS1)
/-- a call that writes some of the caller's cells -/
theorem kgoJ {wc wc' wr w2 : va_W} {rv : Option Value} {st0 : List Value} {a : Array Value} (hr : va_Run p l e R s m args below meth c H locs cells slots 0 0 (F0 m pc ls st0) rest (kPost D (va_A wc H.size) wc' rv a) (va_A wc H.size)) (hP : va_P D vwCl w H) (hD : va_D A w) (hS : va_S A s.heap H locs) (hA : ∀ q, s.heap.size ≤ q → A q) (isC isR pm : List Nat) (hC : isC.map (fun i => w[i]?) = wc.map some)
    (hR : isR.map (fun i => w[i]?) = wr.map some) (hn : va_nd isR = true) (hdis : ∀ i ∈ isR, i ∉ isC) (hpn : va_nd pm = true) (hp : pm.map (fun i => (wr ++ wc')[i]?) = w2.map some)
    (kk : ∀ (H1 : Heap) (locs1 : List Loc), va_P D vwCl w2 H1 → va_D A w2 → va_S A s.heap H1 locs1 → W p l e R s m args below meth c H1 locs1 cells slots Q (F0 m (pc + 3) ls (rv.toList ++ rest))) : W p l e R s m args below meth c H locs cells slots Q (F0 m pc ls st0) := by
  have hF := va_free hD hS hA isC hC
  refine kgo0 hr hS hF (fun H1 locs1 hP1 hD1 hk hS1 => ?_)
  obtain ⟨h1, h2⟩ := va_join hP hD isC isR hC hR hn hdis hk hF hP1 hD1
  exact kk H1 locs1 (h1.sub pm (kfm hp)) (h2.sub pm hpn hp) hS1
/-! loops -/
def kAt (p : Program) (l : Launch) (e : Env) (R : Room) (s : State) (m : MethodId) (args : Array Value) (below : List Frame) (meth : Method) (c : Code) (D : va_G) (A : Nat → Prop) (cells slots : Nat) (Q : State → Prop) (w : va_W) (nL : Nat) (lv : List (Nat × Value)) (pc : Nat) : Prop :=
  ∀ (H : Heap) (locs : List Loc) (ls : Array Slot), va_P D vwCl w H → va_D A w → va_S A s.heap H locs → lv_has ls nL lv → W p l e R s m args below meth c H locs cells slots Q (F0 m pc ls [])
theorem lp_walk {σ ρ : Type} {body : σ → Option (σ ⊕ ρ)} {out : ρ} (G : σ → Prop) (step : ∀ (t : σ) (x : σ ⊕ ρ), body t = some x → (∀ t' : σ, x = .inl t' → G t') → (∀ r : ρ, x = .inr r → r = out) → G t) : ∀ (n : Nat) (t : σ), lp body n t = some out → G t := by
  intro n
  induction n with
  | zero => intro t h; cases h
  | succ n ih =>
    intro t h
    rw [lp] at h
    obtain ⟨x, hx, hy⟩ := kBind h
    refine step t x hx (fun t' e => ih t' ?_) (fun r e => ?_)
    · subst e
      exact hy
    · subst e
      exact Option.some.inj hy
theorem klp {σ ρ : Type} {body : σ → Option (σ ⊕ ρ)} {out : ρ} {fuel : Nat} {t0 : σ} (hf : lp body fuel t0 = some out) (wf : σ → va_W) (nL : Nat) (lv : σ → List (Nat × Value)) (step : ∀ (t : σ) (x : σ ⊕ ρ), body t = some x → (∀ t' : σ, x = .inl t' → kAt p l e R s m args below meth c D A cells slots Q (wf t') nL (lv t') pc) → (∀ r : ρ, x = .inr r → r = out) → kAt p l e R s m args below meth c D A cells slots Q (wf t) nL (lv t) pc)
    (hP : va_P D vwCl (wf t0) H) (hD : va_D A (wf t0)) (hS : va_S A s.heap H locs) (hl : lv_has ls nL (lv t0)) : W p l e R s m args below meth c H locs cells slots Q (F0 m pc ls []) :=
  lp_walk (fun t => kAt p l e R s m args below meth c D A cells slots Q (wf t) nL (lv t) pc) step fuel t0 hf H locs ls hP hD hS hl
/-- a join: what is shown once of a place in the code, and used wherever the walk comes there -/
theorem kcut {g : JFrame} (X : (va_W → Nat → List (Nat × Value) → Nat → Prop) → Prop) (hj : X (fun w nL lv pc => kAt p l e R s m args below meth c D A cells slots Q w nL lv pc))
    (kk : X (fun w nL lv pc => kAt p l e R s m args below meth c D A cells slots Q w nL lv pc) → W p l e R s m args below meth c H locs cells slots Q g) : W p l e R s m args below meth c H locs cells slots Q g := kk hj
end KW
theorem k_tabOut {x y : Int32} {hi : Int} (h : x < (0 : Int32) ∨ y < x) (hy : y.toInt = hi) : x.toInt < 0 ∨ hi < x.toInt := by
  rcases h with h | h
  · exact Or.inl (Int32.lt_iff_toInt_lt.mp h)
  · right
    rw [← hy]
    exact Int32.lt_iff_toInt_lt.mp h

