/-! the law's own reader of the script -/
noncomputable def fL_cell (L : Nat) (xs : Nat → Int32) (k : Int32) : Option Int32 := if Int32.ofNat L ≤ k then some (((7919 : Int32) * (k + (3 : Int32))) * (k + (11 : Int32))) else rdA xs L k
theorem ksld {p : Program} {l : Launch} {e : Env} {R : Room} {s : State} {m : MethodId} {args : Array Value} {below : List Frame} {meth : Method} {c : Code} {H : Heap} {locs : List Loc} {cells slots : Nat} {Q : State → Prop} {cc : ByteArray} {pc : Nat} {ls : Array Slot} {rest : List Value} {A : Nat → Prop} {H0 : Heap} (hx : p.tables.exec = Jvm.exec) (hb : c.code = cc) {b L : Nat} {xs : Nat → Int32} (hX : va_X b L xs s H0) (hbl : b < H0.size) (hbA : ¬ A b) (hS : va_S A H0 H locs) {i x : Int32} (hv : rdA xs L i = some x) (hdg : decode cc pc = .ok (.iaload, 1))
    (kk : W p l e R s m args below meth c H locs cells slots Q (F0 m (pc + 1) ls (.int x :: rest))) : W p l e R s m args below meth c H locs cells slots Q (F0 m pc ls (.int i :: .ref b :: rest)) := by
  obtain ⟨hin, rfl⟩ := rdA_some hv
  exact va_sld hx hb hX hbl hbA hS hin hdg kk
def kPreX (D : va_G) (cI : ClassId) (b L : Nat) (xs : Nat → Int32) (sz : Nat) : State → Prop := fun U => U.heap.size = sz ∧ va_X b L xs U U.heap ∧ kK D cI U
theorem kBlindX {av : List Value} {D : va_G} {cI : ClassId} {b L : Nat} {xs : Nat → Int32} {sz : Nat} : FrameBlind (va_Pc av (kPreX D cI b L xs sz)) := fun a U g mk q => by
  obtain ⟨q0, q1, qX, qK⟩ := q
  exact ⟨q0, q1, va_X.moved (u := U) (U := U.calling g mk a) (Vm.Alike.refl U.vm) qX, kK.same (u := U) (U := U.calling g mk a) rfl qK⟩
theorem hdL_cell : (yL_cell).cls ≠ "java/lang/invoke/MethodHandle" ∧ (yL_cell).cls ≠ "java/lang/invoke/VarHandle" ∧ (parseMethodDescriptor (yL_cell).desc).map (fun d => d.parameters.length) = some 2 := by decide +kernel
set_option maxHeartbeats 4000000 in
set_option maxRecDepth 100000 in
theorem kL_cell (l : Launch) (D : va_G) (cI : ClassId) (b L : Nat) (xs : Nat → Int32) (x1 o : Int32) (hf : fL_cell L xs x1 = some o) (sz : Nat) : Met l yL_cell wsL_cell { frames := 0, cells := 0, slots := 0, locals := 0 } (va_Pc [.ref b, .int x1] (kPreX D cI b L xs sz)) (kPost D (va_A [] sz) [] (some (.int o))) 0 0 (va_A [] sz) := by
  refine Met.ofW (cc := cL_cell) (maxL := 2) (ret := some .int) (by decide) rfl ?_
  intro p e s m args below meth c s₁ B hml hv
  obtain ⟨rfl, hsz, hX, hK⟩ := hv
  subst hsz
  have hx : p.tables.exec = Jvm.exec := B.exec
  have hb : c.code = cL_cell := B.bytes
  have hr : meth.sig.returnType = some .int := B.returns
  have hlk : meth.locks = false := B.notSynchronized
  have hbl : b < s.heap.size := by
    obtain ⟨scr, h, -⟩ := hX
    exact (Array.getElem?_eq_some_iff.mp h).1
  have hbA : ¬ va_A [] s.heap.size b := by
    rintro (⟨k, z, h⟩ | h)
    · simp at h
    · omega
  have hS : va_S (va_A [] s.heap.size) s.heap s.heap [] := va_S.rf
  have hP : va_P D vwCl [] s.heap := k_P0
  have hD : va_D (va_A [] s.heap.size) [] := k_D0 _
  have hl := lv_entry ([.ref b, .int x1]) (n := 2) (Nat.le_of_ble_eq_true rfl)
  rw [lg_entry_eq]
  generalize (lg_sl ([.ref b, .int x1]) ++ List.replicate (2 - (lg_sl ([.ref b, .int x1])).length) Slot.unset).toArray = ls at hl ⊢
  have hl : lv_has ls 2 [(0, .ref b), (1, .int x1)] := hl
  unfold fL_cell at hf
  refine lv_iload_n hx hb dL_cell_0 rfl (lv_at hl 1 rfl) ?_
  refine lv_aload_n hx hb dL_cell_1 rfl (lv_at hl 0 rfl) ?_
  refine va_slen hx hb hX hbl hbA hS dL_cell_2 ?_
  refine lv_icmp_ge (tgt := 12) hx hb dL_cell_3 (by decide) (fun c1 => ?_) (fun c1 => ?_)
  · have hf := kIfT c1 hf
    refine lv_sipush (v := (7919 : Int32)) hx hb dL_cell_12 (by decide) ?_
    refine lv_iload_n hx hb dL_cell_15 rfl (lv_at hl 1 rfl) ?_
    refine lv_iconst (v := (3 : Int32)) hx hb dL_cell_16 (by decide) ?_
    refine lv_iadd hx hb dL_cell_17 ?_
    refine lv_imul hx hb dL_cell_18 ?_
    refine lv_iload_n hx hb dL_cell_19 rfl (lv_at hl 1 rfl) ?_
    refine lv_bipush (v := (11 : Int32)) hx hb dL_cell_20 (by decide) ?_
    refine lv_iadd hx hb dL_cell_22 ?_
    refine lv_imul hx hb dL_cell_23 ?_
    have he := Option.some.inj hf
    subst he
    exact kreti hx hb hr hlk hP hD hS dL_cell_24
  · have hf := kIfF c1 hf
    refine lv_aload_n hx hb dL_cell_6 rfl (lv_at hl 0 rfl) ?_
    refine lv_iload_n hx hb dL_cell_7 rfl (lv_at hl 1 rfl) ?_
    refine ksld hx hb hX hbl hbA hS hf dL_cell_8 ?_
    refine lv_goto (tgt := 24) hx hb dL_cell_9 (by decide) ?_
    exact kreti hx hb hr hlk hP hD hS dL_cell_24
theorem kcellrun {p : Program} {l : Launch} {e : Env} {R : Room} {s : State} {m : MethodId} {args : Array Value} {below : List Frame} {meth : Method} {c : Code} {H : Heap} {locs : List Loc} {cells slots : Nat} {cc : ByteArray} {pc : Nat} {ls : Array Slot} {rest : List Value} {D : va_G} {cI : ClassId} {A : Nat → Prop} {b L nL : Nat} {xs : Nat → Int32} {k v : Int32} {st0 : List Value}
    (hx : p.tables.exec = Jvm.exec) (hb : c.code = cc) (hml : c.maxLocals = nL) (hown : s.vm.findClass RL = some m.cls) (hts : ∀ w ∈ wsL_law, w.before args s = true) (hK : kK D cI s) (hX : va_X b L xs s s.heap) (hbl : b < s.heap.size) (hbA : ¬ A b) (hS : va_S A s.heap H locs) (hf : fL_cell L xs k = some v)
    (hl : ls.size = nL) (hst : st0 = .int k :: .ref b :: rest) (hcat : (rest.map fun v => v.category).sum ≤ 8) (hdg : decode cc pc = .ok (.invokestatic 97, 3)) (hcr : cells ≤ R.cells ∧ slots ≤ R.slots) (hR : 0 + 1 ≤ R.frames ∧ 8 + (2 + 11) + 0 ≤ R.locals) :
    va_Run p l e R s m args below meth c H locs cells slots 0 0 (F0 m pc ls st0) rest (kPost D (va_A [] H.size) [] (some (.int v)) [Value.ref b, .int k].toArray) (va_A [] H.size) := by
  have ok : ∀ w ∈ va_wsS RL 97 yL_cell wsL_cell, w.before args s = true := fun w h => hts w (gL_law_L_cell w h).1
  have hXH : va_X b L xs s H := hX.kept (hS.2.1 b hbl hbA)
  refine va_runS (As := [.ref b, .int k]) ⟨hx, hb, hml, hown, hts⟩ (kL_cell l D cI b L xs k v hf H.size) ⟨callB_of 2 hts (fun w h => gL_law_L_cell w (by unfold va_wsS; exact List.mem_append_right _ h)) rfl rfl rfl (ok _ (by simp [va_wsS])) (ok _ (by simp [va_wsS])) hdL_cell hR, ok _ (by simp [va_wsS])⟩ ⟨kBlindX, fun U hU hW => ⟨rfl, by rw [hU], ?_, hK.warm hW⟩⟩ rfl rfl hl hst (lv_room hcat) hdg hcr
  rw [hU]
  exact va_X.moved hW.alike hXH
