set_option maxHeartbeats 4000000 in
set_option maxRecDepth 100000 in
theorem kJ6_bitCount_0f7a4 (l : Launch) (D : va_G) (cI : ClassId) (x0 : Int32) (o : Int32) (hf : fJ6_bitCount_0f7a4 x0 = some o) : Ct l yJ6_bitCount_0f7a4 wsJ6_bitCount_0f7a4 { frames := 0, cells := 0, slots := 0, locals := 0 } D cI [.int x0] ([] : va_W) ([] : va_W) (some (.int o)) := by
  refine Ct.of (cc := cJ6_bitCount_0f7a4) (maxL := 1) (ret := (some .int)) (by decide) rfl (Nat.le_of_ble_eq_true rfl) ?_
  intro p e s m args below meth c A F hP hD hS ls hl
  obtain ⟨hx, hb, hml, hr, hown, hts, hlk, hK, hA⟩ := F
  have hown : s.vm.findClass RJ6 = some m.cls := hown
  have hl : lv_has ls 1 [(0, .int x0)] := hl
  unfold fJ6_bitCount_0f7a4 at hf
  refine lv_iload_n hx hb dJ6_bitCount_0f7a4_0 rfl (lv_at hl 0 rfl) ?_
  refine lv_iload_n hx hb dJ6_bitCount_0f7a4_1 rfl (lv_at hl 0 rfl) ?_
  refine lv_iconst (v := (1 : Int32)) hx hb dJ6_bitCount_0f7a4_2 (by decide) ?_
  refine kiushr hx hb dJ6_bitCount_0f7a4_3 ?_
  refine lv_ldcw (v := (1431655765 : Int32)) hx hb hown (hts (.constant RJ6 265 (1431655765)) (by decide +kernel)) dJ6_bitCount_0f7a4_4 ?_
  refine lv_iand hx hb dJ6_bitCount_0f7a4_7 ?_
  refine lv_isub hx hb dJ6_bitCount_0f7a4_8 ?_
  refine lv_istore_n (lv' := [(0, .int (x0 - ((jushr x0 (1 : Int32)) &&& (1431655765 : Int32))))]) hx hb dJ6_bitCount_0f7a4_9 rfl hl (by decide) rfl (fun ls hl => ?_)
  refine lv_iload_n hx hb dJ6_bitCount_0f7a4_10 rfl (lv_at hl 0 rfl) ?_
  refine lv_ldcw (v := (858993459 : Int32)) hx hb hown (hts (.constant RJ6 266 (858993459)) (by decide +kernel)) dJ6_bitCount_0f7a4_11 ?_
  refine lv_iand hx hb dJ6_bitCount_0f7a4_14 ?_
  refine lv_iload_n hx hb dJ6_bitCount_0f7a4_15 rfl (lv_at hl 0 rfl) ?_
  refine lv_iconst (v := (2 : Int32)) hx hb dJ6_bitCount_0f7a4_16 (by decide) ?_
  refine kiushr hx hb dJ6_bitCount_0f7a4_17 ?_
  refine lv_ldcw (v := (858993459 : Int32)) hx hb hown (hts (.constant RJ6 266 (858993459)) (by decide +kernel)) dJ6_bitCount_0f7a4_18 ?_
  refine lv_iand hx hb dJ6_bitCount_0f7a4_21 ?_
  refine lv_iadd hx hb dJ6_bitCount_0f7a4_22 ?_
  refine lv_istore_n (lv' := [(0, .int (((x0 - ((jushr x0 (1 : Int32)) &&& (1431655765 : Int32))) &&& (858993459 : Int32)) + ((jushr (x0 - ((jushr x0 (1 : Int32)) &&& (1431655765 : Int32))) (2 : Int32)) &&& (858993459 : Int32))))]) hx hb dJ6_bitCount_0f7a4_23 rfl hl (by decide) rfl (fun ls hl => ?_)
  refine lv_iload_n hx hb dJ6_bitCount_0f7a4_24 rfl (lv_at hl 0 rfl) ?_
  refine lv_iload_n hx hb dJ6_bitCount_0f7a4_25 rfl (lv_at hl 0 rfl) ?_
  refine lv_iconst (v := (4 : Int32)) hx hb dJ6_bitCount_0f7a4_26 (by decide) ?_
  refine kiushr hx hb dJ6_bitCount_0f7a4_27 ?_
  refine lv_iadd hx hb dJ6_bitCount_0f7a4_28 ?_
  refine lv_ldcw (v := (252645135 : Int32)) hx hb hown (hts (.constant RJ6 267 (252645135)) (by decide +kernel)) dJ6_bitCount_0f7a4_29 ?_
  refine lv_iand hx hb dJ6_bitCount_0f7a4_32 ?_
  refine lv_istore_n (lv' := [(0, .int (((((x0 - ((jushr x0 (1 : Int32)) &&& (1431655765 : Int32))) &&& (858993459 : Int32)) + ((jushr (x0 - ((jushr x0 (1 : Int32)) &&& (1431655765 : Int32))) (2 : Int32)) &&& (858993459 : Int32))) + (jushr (((x0 - ((jushr x0 (1 : Int32)) &&& (1431655765 : Int32))) &&& (858993459 : Int32)) + ((jushr (x0 - ((jushr x0 (1 : Int32)) &&& (1431655765 : Int32))) (2 : Int32)) &&& (858993459 : Int32))) (4 : Int32))) &&& (252645135 : Int32)))]) hx hb dJ6_bitCount_0f7a4_33 rfl hl (by decide) rfl (fun ls hl => ?_)
  refine lv_iload_n hx hb dJ6_bitCount_0f7a4_34 rfl (lv_at hl 0 rfl) ?_
  refine lv_iload_n hx hb dJ6_bitCount_0f7a4_35 rfl (lv_at hl 0 rfl) ?_
  refine lv_bipush (v := (8 : Int32)) hx hb dJ6_bitCount_0f7a4_36 (by decide) ?_
  refine kiushr hx hb dJ6_bitCount_0f7a4_38 ?_
  refine lv_iadd hx hb dJ6_bitCount_0f7a4_39 ?_
  refine lv_istore_n (lv' := [(0, .int ((((((x0 - ((jushr x0 (1 : Int32)) &&& (1431655765 : Int32))) &&& (858993459 : Int32)) + ((jushr (x0 - ((jushr x0 (1 : Int32)) &&& (1431655765 : Int32))) (2 : Int32)) &&& (858993459 : Int32))) + (jushr (((x0 - ((jushr x0 (1 : Int32)) &&& (1431655765 : Int32))) &&& (858993459 : Int32)) + ((jushr (x0 - ((jushr x0 (1 : Int32)) &&& (1431655765 : Int32))) (2 : Int32)) &&& (858993459 : Int32))) (4 : Int32))) &&& (252645135 : Int32)) + (jushr (((((x0 - ((jushr x0 (1 : Int32)) &&& (1431655765 : Int32))) &&& (858993459 : Int32)) + ((jushr (x0 - ((jushr x0 (1 : Int32)) &&& (1431655765 : Int32))) (2 : Int32)) &&& (858993459 : Int32))) + (jushr (((x0 - ((jushr x0 (1 : Int32)) &&& (1431655765 : Int32))) &&& (858993459 : Int32)) + ((jushr (x0 - ((jushr x0 (1 : Int32)) &&& (1431655765 : Int32))) (2 : Int32)) &&& (858993459 : Int32))) (4 : Int32))) &&& (252645135 : Int32)) (8 : Int32))))]) hx hb dJ6_bitCount_0f7a4_40 rfl hl (by decide) rfl (fun ls hl => ?_)
  refine lv_iload_n hx hb dJ6_bitCount_0f7a4_41 rfl (lv_at hl 0 rfl) ?_
  refine lv_iload_n hx hb dJ6_bitCount_0f7a4_42 rfl (lv_at hl 0 rfl) ?_
  refine lv_bipush (v := (16 : Int32)) hx hb dJ6_bitCount_0f7a4_43 (by decide) ?_
  refine kiushr hx hb dJ6_bitCount_0f7a4_45 ?_
  refine lv_iadd hx hb dJ6_bitCount_0f7a4_46 ?_
  refine lv_istore_n (lv' := [(0, .int (((((((x0 - ((jushr x0 (1 : Int32)) &&& (1431655765 : Int32))) &&& (858993459 : Int32)) + ((jushr (x0 - ((jushr x0 (1 : Int32)) &&& (1431655765 : Int32))) (2 : Int32)) &&& (858993459 : Int32))) + (jushr (((x0 - ((jushr x0 (1 : Int32)) &&& (1431655765 : Int32))) &&& (858993459 : Int32)) + ((jushr (x0 - ((jushr x0 (1 : Int32)) &&& (1431655765 : Int32))) (2 : Int32)) &&& (858993459 : Int32))) (4 : Int32))) &&& (252645135 : Int32)) + (jushr (((((x0 - ((jushr x0 (1 : Int32)) &&& (1431655765 : Int32))) &&& (858993459 : Int32)) + ((jushr (x0 - ((jushr x0 (1 : Int32)) &&& (1431655765 : Int32))) (2 : Int32)) &&& (858993459 : Int32))) + (jushr (((x0 - ((jushr x0 (1 : Int32)) &&& (1431655765 : Int32))) &&& (858993459 : Int32)) + ((jushr (x0 - ((jushr x0 (1 : Int32)) &&& (1431655765 : Int32))) (2 : Int32)) &&& (858993459 : Int32))) (4 : Int32))) &&& (252645135 : Int32)) (8 : Int32))) + (jushr ((((((x0 - ((jushr x0 (1 : Int32)) &&& (1431655765 : Int32))) &&& (858993459 : Int32)) + ((jushr (x0 - ((jushr x0 (1 : Int32)) &&& (1431655765 : Int32))) (2 : Int32)) &&& (858993459 : Int32))) + (jushr (((x0 - ((jushr x0 (1 : Int32)) &&& (1431655765 : Int32))) &&& (858993459 : Int32)) + ((jushr (x0 - ((jushr x0 (1 : Int32)) &&& (1431655765 : Int32))) (2 : Int32)) &&& (858993459 : Int32))) (4 : Int32))) &&& (252645135 : Int32)) + (jushr (((((x0 - ((jushr x0 (1 : Int32)) &&& (1431655765 : Int32))) &&& (858993459 : Int32)) + ((jushr (x0 - ((jushr x0 (1 : Int32)) &&& (1431655765 : Int32))) (2 : Int32)) &&& (858993459 : Int32))) + (jushr (((x0 - ((jushr x0 (1 : Int32)) &&& (1431655765 : Int32))) &&& (858993459 : Int32)) + ((jushr (x0 - ((jushr x0 (1 : Int32)) &&& (1431655765 : Int32))) (2 : Int32)) &&& (858993459 : Int32))) (4 : Int32))) &&& (252645135 : Int32)) (8 : Int32))) (16 : Int32))))]) hx hb dJ6_bitCount_0f7a4_47 rfl hl (by decide) rfl (fun ls hl => ?_)
  refine lv_iload_n hx hb dJ6_bitCount_0f7a4_48 rfl (lv_at hl 0 rfl) ?_
  refine lv_bipush (v := (63 : Int32)) hx hb dJ6_bitCount_0f7a4_49 (by decide) ?_
  refine lv_iand hx hb dJ6_bitCount_0f7a4_51 ?_
  obtain ⟨z1, hz1⟩ : ∃ z : Int32, z = (((((((x0 - ((jushr x0 (1 : Int32)) &&& (1431655765 : Int32))) &&& (858993459 : Int32)) + ((jushr (x0 - ((jushr x0 (1 : Int32)) &&& (1431655765 : Int32))) (2 : Int32)) &&& (858993459 : Int32))) + (jushr (((x0 - ((jushr x0 (1 : Int32)) &&& (1431655765 : Int32))) &&& (858993459 : Int32)) + ((jushr (x0 - ((jushr x0 (1 : Int32)) &&& (1431655765 : Int32))) (2 : Int32)) &&& (858993459 : Int32))) (4 : Int32))) &&& (252645135 : Int32)) + (jushr (((((x0 - ((jushr x0 (1 : Int32)) &&& (1431655765 : Int32))) &&& (858993459 : Int32)) + ((jushr (x0 - ((jushr x0 (1 : Int32)) &&& (1431655765 : Int32))) (2 : Int32)) &&& (858993459 : Int32))) + (jushr (((x0 - ((jushr x0 (1 : Int32)) &&& (1431655765 : Int32))) &&& (858993459 : Int32)) + ((jushr (x0 - ((jushr x0 (1 : Int32)) &&& (1431655765 : Int32))) (2 : Int32)) &&& (858993459 : Int32))) (4 : Int32))) &&& (252645135 : Int32)) (8 : Int32))) + (jushr ((((((x0 - ((jushr x0 (1 : Int32)) &&& (1431655765 : Int32))) &&& (858993459 : Int32)) + ((jushr (x0 - ((jushr x0 (1 : Int32)) &&& (1431655765 : Int32))) (2 : Int32)) &&& (858993459 : Int32))) + (jushr (((x0 - ((jushr x0 (1 : Int32)) &&& (1431655765 : Int32))) &&& (858993459 : Int32)) + ((jushr (x0 - ((jushr x0 (1 : Int32)) &&& (1431655765 : Int32))) (2 : Int32)) &&& (858993459 : Int32))) (4 : Int32))) &&& (252645135 : Int32)) + (jushr (((((x0 - ((jushr x0 (1 : Int32)) &&& (1431655765 : Int32))) &&& (858993459 : Int32)) + ((jushr (x0 - ((jushr x0 (1 : Int32)) &&& (1431655765 : Int32))) (2 : Int32)) &&& (858993459 : Int32))) + (jushr (((x0 - ((jushr x0 (1 : Int32)) &&& (1431655765 : Int32))) &&& (858993459 : Int32)) + ((jushr (x0 - ((jushr x0 (1 : Int32)) &&& (1431655765 : Int32))) (2 : Int32)) &&& (858993459 : Int32))) (4 : Int32))) &&& (252645135 : Int32)) (8 : Int32))) (16 : Int32))) &&& (63 : Int32) := ⟨_, rfl⟩
  rw [← hz1] at hf
  rw [← hz1]
  have he := Option.some.inj hf
  subst he
  exact kreti hx hb hr hlk hP hD hS dJ6_bitCount_0f7a4_52
set_option maxHeartbeats 4000000 in
set_option maxRecDepth 100000 in
theorem kX0_isEmpty (l : Launch) (D : va_G) (cI : ClassId) (a0 a1 : Nat) (HR : (Nat → Int32)) (HS : Int32) (HN : Int32) (o : Bool) (hf : fX0_isEmpty HS = some o) : Ct l yX0_isEmpty wsX0_isEmpty { frames := 0, cells := 0, slots := 0, locals := 0 } D cI [.ref a0] (wX0 cI a0 a1 HR HS HN) (wX0 cI a0 a1 HR HS HN) (some (.int (bI o))) := by
  refine Ct.of (cc := cX0_isEmpty) (maxL := 1) (ret := (some .boolean)) (by decide) rfl (Nat.le_of_ble_eq_true rfl) ?_
  intro p e s m args below meth c A F hP hD hS ls hl
  obtain ⟨hx, hb, hml, hr, hown, hts, hlk, hK, hA⟩ := F
  have hown : s.vm.findClass RX0 = some m.cls := hown
  have hl : lv_has ls 1 [(0, .ref a0)] := hl
  have hinX0 : ∀ w ∈ wsX00, w ∈ wsX0_isEmpty := by decide +kernel
  have hfl15 := hts (.fieldLink RX0 15 "CraneGuard$History" "size" "I") (by decide +kernel)
  unfold fX0_isEmpty at hf
  refine lv_aload_n hx hb dX0_isEmpty_0 rfl (lv_at hl 0 rfl) ?_
  refine va_get (D := D) (ci := 0) (v := .int HS) (C := RX0) (T := TX0) (N := 3) hx hb hts hinX0 hown hK.1 hP 0 rfl rfl 1 (by decide) hfl15 (fun _ h9 => h9) rfl dX0_isEmpty_1 ?_
  refine lv_if_ne (tgt := 11) hx hb dX0_isEmpty_4 (by decide) (fun c1 => ?_) (fun c1 => ?_)
  · have hf := kIfF c1 hf
    refine lv_iconst (v := (0 : Int32)) hx hb dX0_isEmpty_11 (by decide) ?_
    have he := Option.some.inj hf
    subst he
    exact kretz hx hb hr hlk hP hD hS dX0_isEmpty_12
  · have hf := kIfT c1 hf
    refine lv_iconst (v := (1 : Int32)) hx hb dX0_isEmpty_7 (by decide) ?_
    refine lv_goto (tgt := 12) hx hb dX0_isEmpty_8 (by decide) ?_
    have he := Option.some.inj hf
    subst he
    exact kretz hx hb hr hlk hP hD hS dX0_isEmpty_12
set_option maxHeartbeats 4000000 in
set_option maxRecDepth 100000 in
theorem kX1_saveTo (l : Launch) (D : va_G) (cI : ClassId) (a0 a1 a2 : Nat) (R : (Nat → Int32)) (HR : (Nat → Int32)) (x2 : Int32) (o : (Nat → Int32)) (hf : fX1_saveTo R HR x2 = some o) : Ct l yX1_saveTo wsX1_saveTo { frames := 1, cells := 0, slots := 0, locals := 18 } D cI [.ref a0, .ref a2, .int x2] (wX1_A cI a0 a1 a2 R HR) (wX1_A cI a0 a1 a2 R o) none := by
  refine Ct.of (cc := cX1_saveTo) (maxL := 3) (ret := none) (by decide) rfl (Nat.le_of_ble_eq_true rfl) ?_
  intro p e s m args below meth c A F hP hD hS ls hl
  obtain ⟨hx, hb, hml, hr, hown, hts, hlk, hK, hA⟩ := F
  have hown : s.vm.findClass RX1 = some m.cls := hown
  have hl : lv_has ls 3 [(0, .ref a0), (1, .ref a2), (2, .int x2)] := hl
  have hinX1 : ∀ w ∈ wsX10, w ∈ wsX1_saveTo := by decide +kernel
  have hfl11 := hts (.fieldLink RX1 11 "CraneGuard$Site" "row" "[I") (by decide +kernel)
  unfold fX1_saveTo at hf
  refine lv_aload_n hx hb dX1_saveTo_0 rfl (lv_at hl 0 rfl) ?_
  refine va_get (D := D) (ci := 1) (v := .ref a1) (C := RX1) (T := TX1) (N := 1) hx hb hts hinX1 hown hK.1 hP 0 rfl rfl 0 (by decide) hfl11 (fun _ h9 => h9) rfl dX1_saveTo_1 ?_
  refine lv_iconst (v := (0 : Int32)) hx hb dX1_saveTo_4 (by decide) ?_
  refine lv_aload_n hx hb dX1_saveTo_5 rfl (lv_at hl 1 rfl) ?_
  refine lv_iload_n hx hb dX1_saveTo_6 rfl (lv_at hl 2 rfl) ?_
  refine lv_sipush (v := (132 : Int32)) hx hb dX1_saveTo_7 (by decide) ?_
  obtain ⟨v1, h2, hf⟩ := kBind hf
  refine kcp hx hb (hml.trans hl.1.symm) hown (hts (.methodLink RX1 15 arraycopyName) (by decide +kernel)) (hts (.native arraycopyName) (by decide +kernel)) (hts (.static arraycopyName) (by decide +kernel)) (hts (.initialized "java/lang/System") (by decide +kernel)) hK hP hD hS 1 2 rfl rfl h2 (wX1_A cI a0 a1 a2 R v1) rfl (Nat.le_of_ble_eq_true rfl) (Nat.le_of_ble_eq_true rfl) dX1_saveTo_10 (fun H locs hP hD hS => ?_)
  have he := Option.some.inj hf
  subst he
  exact kretv hx hb hr hlk hP hD hS dX1_saveTo_13
set_option maxHeartbeats 4000000 in
set_option maxRecDepth 100000 in
theorem kX0_keep (l : Launch) (D : va_G) (cI : ClassId) (a0 a1 a2 a3 : Nat) (HR : (Nat → Int32)) (HS : Int32) (HN : Int32) (R : (Nat → Int32)) (o : (Nat → Int32) × Int32 × Int32) (hf : fX0_keep HR HS HN R = some o) : Ct l yX0_keep wsX0_keep { frames := 2, cells := 0, slots := 0, locals := 40 } D cI [.ref a0, .ref a2] (wX0_X1 cI a0 a1 a2 a3 HR HS HN R) (wX0_X1 cI a0 a1 a2 a3 o.1 o.2.1 o.2.2 R) none := by
  refine Ct.of (cc := cX0_keep) (maxL := 2) (ret := none) (by decide) rfl (Nat.le_of_ble_eq_true rfl) ?_
  intro p e s m args below meth c A F hP hD hS ls hl
  obtain ⟨hx, hb, hml, hr, hown, hts, hlk, hK, hA⟩ := F
  have hown : s.vm.findClass RX0 = some m.cls := hown
  have hl : lv_has ls 2 [(0, .ref a0), (1, .ref a2)] := hl
  have hinX0 : ∀ w ∈ wsX00, w ∈ wsX0_keep := by decide +kernel
  have hfl11 := hts (.fieldLink RX0 11 "CraneGuard$History" "rows" "[I") (by decide +kernel)
  have hfl15 := hts (.fieldLink RX0 15 "CraneGuard$History" "size" "I") (by decide +kernel)
  have hfl19 := hts (.fieldLink RX0 19 "CraneGuard$History" "next" "I") (by decide +kernel)
  unfold fX0_keep at hf
  refine lv_aload_n hx hb dX0_keep_0 rfl (lv_at hl 1 rfl) ?_
  refine lv_aload_n hx hb dX0_keep_1 rfl (lv_at hl 0 rfl) ?_
  refine va_get (D := D) (ci := 0) (v := .ref a1) (C := RX0) (T := TX0) (N := 3) hx hb hts hinX0 hown hK.1 hP 0 rfl rfl 0 (by decide) hfl11 (fun _ h9 => h9) rfl dX0_keep_2 ?_
  refine lv_aload_n hx hb dX0_keep_5 rfl (lv_at hl 0 rfl) ?_
  refine va_get (D := D) (ci := 0) (v := .int HN) (C := RX0) (T := TX0) (N := 3) hx hb hts hinX0 hown hK.1 hP 0 rfl rfl 2 (by decide) hfl19 (fun _ h9 => h9) rfl dX0_keep_6 ?_
  refine lv_sipush (v := (132 : Int32)) hx hb dX0_keep_9 (by decide) ?_
  refine lv_imul hx hb dX0_keep_12 ?_
  obtain ⟨v1, h2, hf⟩ := kBind hf
  refine kgoJ (wr := [(a0, .inr (0, [.ref a1, .int HS, .int HN]))]) (w2 := (wX0_X1 cI a0 a1 a2 a3 v1 HS HN R)) (krunV (wc := (wX1_A cI a2 a3 a1 R HR)) (As := [.ref a1, .int (HN * (132 : Int32))]) (rest := []) (ci := 1) hx hb hml hown hts hK (kX1_saveTo l D cI a2 a3 a1 R HR (HN * (132 : Int32)) v1 h2) gX0_keep_X1_saveTo rfl rfl rfl hdX1_saveTo ⟨Nat.le_of_ble_eq_true rfl, Nat.le_of_ble_eq_true rfl⟩ (hP.sub [2, 3, 1] rfl) (hD.sub [2, 3, 1] (by decide) rfl) rfl rfl rfl rfl hl.1 rfl (Nat.le_of_ble_eq_true rfl) dX0_keep_13 ⟨Nat.zero_le _, Nat.zero_le _⟩) hP hD hS hA [2, 3, 1] [0] [0, 3, 1, 2] rfl rfl (by decide) (by decide) (by decide) rfl (fun H locs hP hD hS => ?_)
  refine lv_aload_n hx hb dX0_keep_16 rfl (lv_at hl 0 rfl) ?_
  refine lv_aload_n hx hb dX0_keep_17 rfl (lv_at hl 0 rfl) ?_
  refine va_get (D := D) (ci := 0) (v := .int HN) (C := RX0) (T := TX0) (N := 3) hx hb hts hinX0 hown hK.1 hP 0 rfl rfl 2 (by decide) hfl19 (fun _ h9 => h9) rfl dX0_keep_18 ?_
  refine lv_iconst (v := (1 : Int32)) hx hb dX0_keep_21 (by decide) ?_
  refine lv_iadd hx hb dX0_keep_22 ?_
  refine lv_iconst (v := (5 : Int32)) hx hb dX0_keep_23 (by decide) ?_
  refine lv_icmp_ge (tgt := 36) hx hb dX0_keep_24 (by decide) (fun c3 => ?_) (fun c3 => ?_)
  · have hf := kIfT c3 hf
    refine lv_iconst (v := (0 : Int32)) hx hb dX0_keep_36 (by decide) ?_
    refine va_put (D := D) (ci := 0) (v := .int (0 : Int32)) (ty := .int) (C := RX0) (T := TX0) (N := 3) hx hb hts hinX0 tyX0 tyX0_ok nmX0 hown hK.1 hP hD hS 0 rfl rfl 2 (by decide) hfl19 (fun _ h9 => h9) rfl (by decide +kernel) rfl rfl (Nat.le_of_ble_eq_true rfl) dX0_keep_37 (fun H locs hP hD hS => ?_)
    have hP : va_P D vwCl (wX0_X1 cI a0 a1 a2 a3 v1 HS (0 : Int32) R) H := hP
    have hD : va_D A (wX0_X1 cI a0 a1 a2 a3 v1 HS (0 : Int32) R) := hD
    refine lv_aload_n hx hb dX0_keep_40 rfl (lv_at hl 0 rfl) ?_
    refine lv_aload_n hx hb dX0_keep_41 rfl (lv_at hl 0 rfl) ?_
    refine va_get (D := D) (ci := 0) (v := .int HS) (C := RX0) (T := TX0) (N := 3) hx hb hts hinX0 hown hK.1 hP 0 rfl rfl 1 (by decide) hfl15 (fun _ h9 => h9) rfl dX0_keep_42 ?_
    refine lv_iconst (v := (1 : Int32)) hx hb dX0_keep_45 (by decide) ?_
    refine lv_iadd hx hb dX0_keep_46 ?_
    refine lv_iconst (v := (5 : Int32)) hx hb dX0_keep_47 (by decide) ?_
    refine va_mmin hx hb (hml.trans hl.1.symm) hown (hts (.methodLink RX0 26 Lib.Math.min.name) (by decide +kernel)) (hts (.static Lib.Math.min.name) (by decide +kernel)) (hts (.initialized "java/lang/Math") (by decide +kernel)) (hts (.code Lib.Math.min.name Lib.Math.min.code 2 (some .int)) (by decide +kernel)) (Nat.le_of_ble_eq_true rfl) (Nat.le_of_ble_eq_true rfl) (Nat.zero_le _) (Nat.zero_le _) dX0_keep_48 ?_
    refine va_put (D := D) (ci := 0) (v := .int (jmin (HS + (1 : Int32)) (5 : Int32))) (ty := .int) (C := RX0) (T := TX0) (N := 3) hx hb hts hinX0 tyX0 tyX0_ok nmX0 hown hK.1 hP hD hS 0 rfl rfl 1 (by decide) hfl15 (fun _ h9 => h9) rfl (by decide +kernel) rfl rfl (Nat.le_of_ble_eq_true rfl) dX0_keep_51 (fun H locs hP hD hS => ?_)
    have hP : va_P D vwCl (wX0_X1 cI a0 a1 a2 a3 v1 (jmin (HS + (1 : Int32)) (5 : Int32)) (0 : Int32) R) H := hP
    have hD : va_D A (wX0_X1 cI a0 a1 a2 a3 v1 (jmin (HS + (1 : Int32)) (5 : Int32)) (0 : Int32) R) := hD
    obtain ⟨z4, hz4⟩ : ∃ z : Int32, z = jmin (HS + (1 : Int32)) (5 : Int32) := ⟨_, rfl⟩
    rw [← hz4] at hf
    have hP : va_P D vwCl (wX0_X1 cI a0 a1 a2 a3 v1 z4 (0 : Int32) R) H := by rw [hz4]; exact hP
    have hD : va_D A (wX0_X1 cI a0 a1 a2 a3 v1 z4 (0 : Int32) R) := by rw [hz4]; exact hD
    have he := Option.some.inj hf
    subst he
    exact kretv hx hb hr hlk hP hD hS dX0_keep_54
  · have hf := kIfF c3 hf
    refine lv_aload_n hx hb dX0_keep_27 rfl (lv_at hl 0 rfl) ?_
    refine va_get (D := D) (ci := 0) (v := .int HN) (C := RX0) (T := TX0) (N := 3) hx hb hts hinX0 hown hK.1 hP 0 rfl rfl 2 (by decide) hfl19 (fun _ h9 => h9) rfl dX0_keep_28 ?_
    refine lv_iconst (v := (1 : Int32)) hx hb dX0_keep_31 (by decide) ?_
    refine lv_iadd hx hb dX0_keep_32 ?_
    refine lv_goto (tgt := 37) hx hb dX0_keep_33 (by decide) ?_
    refine va_put (D := D) (ci := 0) (v := .int (HN + (1 : Int32))) (ty := .int) (C := RX0) (T := TX0) (N := 3) hx hb hts hinX0 tyX0 tyX0_ok nmX0 hown hK.1 hP hD hS 0 rfl rfl 2 (by decide) hfl19 (fun _ h9 => h9) rfl (by decide +kernel) rfl rfl (Nat.le_of_ble_eq_true rfl) dX0_keep_37 (fun H locs hP hD hS => ?_)
    have hP : va_P D vwCl (wX0_X1 cI a0 a1 a2 a3 v1 HS (HN + (1 : Int32)) R) H := hP
    have hD : va_D A (wX0_X1 cI a0 a1 a2 a3 v1 HS (HN + (1 : Int32)) R) := hD
    refine lv_aload_n hx hb dX0_keep_40 rfl (lv_at hl 0 rfl) ?_
    refine lv_aload_n hx hb dX0_keep_41 rfl (lv_at hl 0 rfl) ?_
    refine va_get (D := D) (ci := 0) (v := .int HS) (C := RX0) (T := TX0) (N := 3) hx hb hts hinX0 hown hK.1 hP 0 rfl rfl 1 (by decide) hfl15 (fun _ h9 => h9) rfl dX0_keep_42 ?_
    refine lv_iconst (v := (1 : Int32)) hx hb dX0_keep_45 (by decide) ?_
    refine lv_iadd hx hb dX0_keep_46 ?_
    refine lv_iconst (v := (5 : Int32)) hx hb dX0_keep_47 (by decide) ?_
    refine va_mmin hx hb (hml.trans hl.1.symm) hown (hts (.methodLink RX0 26 Lib.Math.min.name) (by decide +kernel)) (hts (.static Lib.Math.min.name) (by decide +kernel)) (hts (.initialized "java/lang/Math") (by decide +kernel)) (hts (.code Lib.Math.min.name Lib.Math.min.code 2 (some .int)) (by decide +kernel)) (Nat.le_of_ble_eq_true rfl) (Nat.le_of_ble_eq_true rfl) (Nat.zero_le _) (Nat.zero_le _) dX0_keep_48 ?_
    refine va_put (D := D) (ci := 0) (v := .int (jmin (HS + (1 : Int32)) (5 : Int32))) (ty := .int) (C := RX0) (T := TX0) (N := 3) hx hb hts hinX0 tyX0 tyX0_ok nmX0 hown hK.1 hP hD hS 0 rfl rfl 1 (by decide) hfl15 (fun _ h9 => h9) rfl (by decide +kernel) rfl rfl (Nat.le_of_ble_eq_true rfl) dX0_keep_51 (fun H locs hP hD hS => ?_)
    have hP : va_P D vwCl (wX0_X1 cI a0 a1 a2 a3 v1 (jmin (HS + (1 : Int32)) (5 : Int32)) (HN + (1 : Int32)) R) H := hP
    have hD : va_D A (wX0_X1 cI a0 a1 a2 a3 v1 (jmin (HS + (1 : Int32)) (5 : Int32)) (HN + (1 : Int32)) R) := hD
    obtain ⟨z5, hz5⟩ : ∃ z : Int32, z = jmin (HS + (1 : Int32)) (5 : Int32) := ⟨_, rfl⟩
    rw [← hz5] at hf
    obtain ⟨z6, hz6⟩ : ∃ z : Int32, z = HN + (1 : Int32) := ⟨_, rfl⟩
    rw [← hz6] at hf
    have hP : va_P D vwCl (wX0_X1 cI a0 a1 a2 a3 v1 z5 z6 R) H := by rw [hz5, hz6]; exact hP
    have hD : va_D A (wX0_X1 cI a0 a1 a2 a3 v1 z5 z6 R) := by rw [hz5, hz6]; exact hD
    have he := Option.some.inj hf
    subst he
    exact kretv hx hb hr hlk hP hD hS dX0_keep_54
set_option maxHeartbeats 4000000 in
set_option maxRecDepth 100000 in
theorem kX1_loadFrom (l : Launch) (D : va_G) (cI : ClassId) (a0 a1 a2 : Nat) (R : (Nat → Int32)) (HR : (Nat → Int32)) (x2 : Int32) (o : (Nat → Int32)) (hf : fX1_loadFrom R HR x2 = some o) : Ct l yX1_loadFrom wsX1_loadFrom { frames := 1, cells := 0, slots := 0, locals := 18 } D cI [.ref a0, .ref a2, .int x2] (wX1_A cI a0 a1 a2 R HR) (wX1_A cI a0 a1 a2 o HR) none := by
  refine Ct.of (cc := cX1_loadFrom) (maxL := 3) (ret := none) (by decide) rfl (Nat.le_of_ble_eq_true rfl) ?_
  intro p e s m args below meth c A F hP hD hS ls hl
  obtain ⟨hx, hb, hml, hr, hown, hts, hlk, hK, hA⟩ := F
  have hown : s.vm.findClass RX1 = some m.cls := hown
  have hl : lv_has ls 3 [(0, .ref a0), (1, .ref a2), (2, .int x2)] := hl
  have hinX1 : ∀ w ∈ wsX10, w ∈ wsX1_loadFrom := by decide +kernel
  have hfl11 := hts (.fieldLink RX1 11 "CraneGuard$Site" "row" "[I") (by decide +kernel)
  unfold fX1_loadFrom at hf
  refine lv_aload_n hx hb dX1_loadFrom_0 rfl (lv_at hl 1 rfl) ?_
  refine lv_iload_n hx hb dX1_loadFrom_1 rfl (lv_at hl 2 rfl) ?_
  refine lv_aload_n hx hb dX1_loadFrom_2 rfl (lv_at hl 0 rfl) ?_
  refine va_get (D := D) (ci := 1) (v := .ref a1) (C := RX1) (T := TX1) (N := 1) hx hb hts hinX1 hown hK.1 hP 0 rfl rfl 0 (by decide) hfl11 (fun _ h9 => h9) rfl dX1_loadFrom_3 ?_
  refine lv_iconst (v := (0 : Int32)) hx hb dX1_loadFrom_6 (by decide) ?_
  refine lv_sipush (v := (132 : Int32)) hx hb dX1_loadFrom_7 (by decide) ?_
  obtain ⟨v1, h2, hf⟩ := kBind hf
  refine kcp hx hb (hml.trans hl.1.symm) hown (hts (.methodLink RX1 15 arraycopyName) (by decide +kernel)) (hts (.native arraycopyName) (by decide +kernel)) (hts (.static arraycopyName) (by decide +kernel)) (hts (.initialized "java/lang/System") (by decide +kernel)) hK hP hD hS 2 1 rfl rfl h2 (wX1_A cI a0 a1 a2 v1 HR) rfl (Nat.le_of_ble_eq_true rfl) (Nat.le_of_ble_eq_true rfl) dX1_loadFrom_10 (fun H locs hP hD hS => ?_)
  have he := Option.some.inj hf
  subst he
  exact kretv hx hb hr hlk hP hD hS dX1_loadFrom_13
set_option maxHeartbeats 4000000 in
set_option maxRecDepth 100000 in
theorem kX0_restore (l : Launch) (D : va_G) (cI : ClassId) (a0 a1 a2 a3 : Nat) (HR : (Nat → Int32)) (HS : Int32) (HN : Int32) (R : (Nat → Int32)) (o : Int32 × Int32 × Int32 × (Nat → Int32)) (hf : fX0_restore HR HS HN R = some o) : Ct l yX0_restore wsX0_restore { frames := 2, cells := 0, slots := 0, locals := 40 } D cI [.ref a0, .ref a2] (wX0_X1 cI a0 a1 a2 a3 HR HS HN R) (wX0_X1 cI a0 a1 a2 a3 HR o.2.1 o.2.2.1 o.2.2.2) (some (.int o.1)) := by
  refine Ct.of (cc := cX0_restore) (maxL := 2) (ret := (some .int)) (by decide) rfl (Nat.le_of_ble_eq_true rfl) ?_
  intro p e s m args below meth c A F hP hD hS ls hl
  obtain ⟨hx, hb, hml, hr, hown, hts, hlk, hK, hA⟩ := F
  have hown : s.vm.findClass RX0 = some m.cls := hown
  have hl : lv_has ls 2 [(0, .ref a0), (1, .ref a2)] := hl
  have hinX0 : ∀ w ∈ wsX00, w ∈ wsX0_restore := by decide +kernel
  have hfl11 := hts (.fieldLink RX0 11 "CraneGuard$History" "rows" "[I") (by decide +kernel)
  have hfl15 := hts (.fieldLink RX0 15 "CraneGuard$History" "size" "I") (by decide +kernel)
  have hfl19 := hts (.fieldLink RX0 19 "CraneGuard$History" "next" "I") (by decide +kernel)
  unfold fX0_restore at hf
  refine lv_aload_n hx hb dX0_restore_0 rfl (lv_at hl 0 rfl) ?_
  refine lv_aload_n hx hb dX0_restore_1 rfl (lv_at hl 0 rfl) ?_
  refine va_get (D := D) (ci := 0) (v := .int HN) (C := RX0) (T := TX0) (N := 3) hx hb hts hinX0 hown hK.1 hP 0 rfl rfl 2 (by decide) hfl19 (fun _ h9 => h9) rfl dX0_restore_2 ?_
  refine lv_if_le (tgt := 17) hx hb dX0_restore_5 (by decide) (fun c1 => ?_) (fun c1 => ?_)
  · have hf := kIfT c1 hf
    refine lv_iconst (v := (4 : Int32)) hx hb dX0_restore_17 (by decide) ?_
    refine va_put (D := D) (ci := 0) (v := .int (4 : Int32)) (ty := .int) (C := RX0) (T := TX0) (N := 3) hx hb hts hinX0 tyX0 tyX0_ok nmX0 hown hK.1 hP hD hS 0 rfl rfl 2 (by decide) hfl19 (fun _ h9 => h9) rfl (by decide +kernel) rfl rfl (Nat.le_of_ble_eq_true rfl) dX0_restore_18 (fun H locs hP hD hS => ?_)
    have hP : va_P D vwCl (wX0_X1 cI a0 a1 a2 a3 HR HS (4 : Int32) R) H := hP
    have hD : va_D A (wX0_X1 cI a0 a1 a2 a3 HR HS (4 : Int32) R) := hD
    refine lv_aload_n hx hb dX0_restore_21 rfl (lv_at hl 0 rfl) ?_
    refine lv_dup hx hb dX0_restore_22 rfl ?_
    refine va_get (D := D) (ci := 0) (v := .int HS) (C := RX0) (T := TX0) (N := 3) hx hb hts hinX0 hown hK.1 hP 0 rfl rfl 1 (by decide) hfl15 (fun _ h9 => h9) rfl dX0_restore_23 ?_
    refine lv_iconst (v := (1 : Int32)) hx hb dX0_restore_26 (by decide) ?_
    refine lv_isub hx hb dX0_restore_27 ?_
    refine va_put (D := D) (ci := 0) (v := .int (HS - (1 : Int32))) (ty := .int) (C := RX0) (T := TX0) (N := 3) hx hb hts hinX0 tyX0 tyX0_ok nmX0 hown hK.1 hP hD hS 0 rfl rfl 1 (by decide) hfl15 (fun _ h9 => h9) rfl (by decide +kernel) rfl rfl (Nat.le_of_ble_eq_true rfl) dX0_restore_28 (fun H locs hP hD hS => ?_)
    have hP : va_P D vwCl (wX0_X1 cI a0 a1 a2 a3 HR (HS - (1 : Int32)) (4 : Int32) R) H := hP
    have hD : va_D A (wX0_X1 cI a0 a1 a2 a3 HR (HS - (1 : Int32)) (4 : Int32) R) := hD
    refine lv_aload_n hx hb dX0_restore_31 rfl (lv_at hl 1 rfl) ?_
    refine lv_aload_n hx hb dX0_restore_32 rfl (lv_at hl 0 rfl) ?_
    refine va_get (D := D) (ci := 0) (v := .ref a1) (C := RX0) (T := TX0) (N := 3) hx hb hts hinX0 hown hK.1 hP 0 rfl rfl 0 (by decide) hfl11 (fun _ h9 => h9) rfl dX0_restore_33 ?_
    refine lv_aload_n hx hb dX0_restore_36 rfl (lv_at hl 0 rfl) ?_
    refine va_get (D := D) (ci := 0) (v := .int (4 : Int32)) (C := RX0) (T := TX0) (N := 3) hx hb hts hinX0 hown hK.1 hP 0 rfl rfl 2 (by decide) hfl19 (fun _ h9 => h9) rfl dX0_restore_37 ?_
    refine lv_sipush (v := (132 : Int32)) hx hb dX0_restore_40 (by decide) ?_
    refine lv_imul hx hb dX0_restore_43 ?_
    obtain ⟨v2, h3, hf⟩ := kBind hf
    refine kgoJ (wr := [(a0, .inr (0, [.ref a1, .int (HS - (1 : Int32)), .int (4 : Int32)]))]) (w2 := (wX0_X1 cI a0 a1 a2 a3 HR (HS - (1 : Int32)) (4 : Int32) v2)) (krunV (wc := (wX1_A cI a2 a3 a1 R HR)) (As := [.ref a1, .int ((4 : Int32) * (132 : Int32))]) (rest := []) (ci := 1) hx hb hml hown hts hK (kX1_loadFrom l D cI a2 a3 a1 R HR ((4 : Int32) * (132 : Int32)) v2 h3) gX0_restore_X1_loadFrom rfl rfl rfl hdX1_loadFrom ⟨Nat.le_of_ble_eq_true rfl, Nat.le_of_ble_eq_true rfl⟩ (hP.sub [2, 3, 1] rfl) (hD.sub [2, 3, 1] (by decide) rfl) rfl rfl rfl rfl hl.1 rfl (Nat.le_of_ble_eq_true rfl) dX0_restore_44 ⟨Nat.zero_le _, Nat.zero_le _⟩) hP hD hS hA [2, 3, 1] [0] [0, 3, 1, 2] rfl rfl (by decide) (by decide) (by decide) rfl (fun H locs hP hD hS => ?_)
    refine lv_aload_n hx hb dX0_restore_47 rfl (lv_at hl 0 rfl) ?_
    refine va_get (D := D) (ci := 0) (v := .int (HS - (1 : Int32))) (C := RX0) (T := TX0) (N := 3) hx hb hts hinX0 hown hK.1 hP 0 rfl rfl 1 (by decide) hfl15 (fun _ h9 => h9) rfl dX0_restore_48 ?_
    obtain ⟨z4, hz4⟩ : ∃ z : Int32, z = HS - (1 : Int32) := ⟨_, rfl⟩
    rw [← hz4] at hf
    rw [← hz4]
    have hP : va_P D vwCl (wX0_X1 cI a0 a1 a2 a3 HR z4 (4 : Int32) v2) H := by rw [hz4]; exact hP
    have hD : va_D A (wX0_X1 cI a0 a1 a2 a3 HR z4 (4 : Int32) v2) := by rw [hz4]; exact hD
    have he := Option.some.inj hf
    subst he
    exact kreti hx hb hr hlk hP hD hS dX0_restore_51
  · have hf := kIfF c1 hf
    refine lv_aload_n hx hb dX0_restore_8 rfl (lv_at hl 0 rfl) ?_
    refine va_get (D := D) (ci := 0) (v := .int HN) (C := RX0) (T := TX0) (N := 3) hx hb hts hinX0 hown hK.1 hP 0 rfl rfl 2 (by decide) hfl19 (fun _ h9 => h9) rfl dX0_restore_9 ?_
    refine lv_iconst (v := (1 : Int32)) hx hb dX0_restore_12 (by decide) ?_
    refine lv_isub hx hb dX0_restore_13 ?_
    refine lv_goto (tgt := 18) hx hb dX0_restore_14 (by decide) ?_
    refine va_put (D := D) (ci := 0) (v := .int (HN - (1 : Int32))) (ty := .int) (C := RX0) (T := TX0) (N := 3) hx hb hts hinX0 tyX0 tyX0_ok nmX0 hown hK.1 hP hD hS 0 rfl rfl 2 (by decide) hfl19 (fun _ h9 => h9) rfl (by decide +kernel) rfl rfl (Nat.le_of_ble_eq_true rfl) dX0_restore_18 (fun H locs hP hD hS => ?_)
    have hP : va_P D vwCl (wX0_X1 cI a0 a1 a2 a3 HR HS (HN - (1 : Int32)) R) H := hP
    have hD : va_D A (wX0_X1 cI a0 a1 a2 a3 HR HS (HN - (1 : Int32)) R) := hD
    refine lv_aload_n hx hb dX0_restore_21 rfl (lv_at hl 0 rfl) ?_
    refine lv_dup hx hb dX0_restore_22 rfl ?_
    refine va_get (D := D) (ci := 0) (v := .int HS) (C := RX0) (T := TX0) (N := 3) hx hb hts hinX0 hown hK.1 hP 0 rfl rfl 1 (by decide) hfl15 (fun _ h9 => h9) rfl dX0_restore_23 ?_
    refine lv_iconst (v := (1 : Int32)) hx hb dX0_restore_26 (by decide) ?_
    refine lv_isub hx hb dX0_restore_27 ?_
    refine va_put (D := D) (ci := 0) (v := .int (HS - (1 : Int32))) (ty := .int) (C := RX0) (T := TX0) (N := 3) hx hb hts hinX0 tyX0 tyX0_ok nmX0 hown hK.1 hP hD hS 0 rfl rfl 1 (by decide) hfl15 (fun _ h9 => h9) rfl (by decide +kernel) rfl rfl (Nat.le_of_ble_eq_true rfl) dX0_restore_28 (fun H locs hP hD hS => ?_)
    have hP : va_P D vwCl (wX0_X1 cI a0 a1 a2 a3 HR (HS - (1 : Int32)) (HN - (1 : Int32)) R) H := hP
    have hD : va_D A (wX0_X1 cI a0 a1 a2 a3 HR (HS - (1 : Int32)) (HN - (1 : Int32)) R) := hD
    refine lv_aload_n hx hb dX0_restore_31 rfl (lv_at hl 1 rfl) ?_
    refine lv_aload_n hx hb dX0_restore_32 rfl (lv_at hl 0 rfl) ?_
    refine va_get (D := D) (ci := 0) (v := .ref a1) (C := RX0) (T := TX0) (N := 3) hx hb hts hinX0 hown hK.1 hP 0 rfl rfl 0 (by decide) hfl11 (fun _ h9 => h9) rfl dX0_restore_33 ?_
    refine lv_aload_n hx hb dX0_restore_36 rfl (lv_at hl 0 rfl) ?_
    refine va_get (D := D) (ci := 0) (v := .int (HN - (1 : Int32))) (C := RX0) (T := TX0) (N := 3) hx hb hts hinX0 hown hK.1 hP 0 rfl rfl 2 (by decide) hfl19 (fun _ h9 => h9) rfl dX0_restore_37 ?_
    refine lv_sipush (v := (132 : Int32)) hx hb dX0_restore_40 (by decide) ?_
    refine lv_imul hx hb dX0_restore_43 ?_
    obtain ⟨v5, h6, hf⟩ := kBind hf
    refine kgoJ (wr := [(a0, .inr (0, [.ref a1, .int (HS - (1 : Int32)), .int (HN - (1 : Int32))]))]) (w2 := (wX0_X1 cI a0 a1 a2 a3 HR (HS - (1 : Int32)) (HN - (1 : Int32)) v5)) (krunV (wc := (wX1_A cI a2 a3 a1 R HR)) (As := [.ref a1, .int ((HN - (1 : Int32)) * (132 : Int32))]) (rest := []) (ci := 1) hx hb hml hown hts hK (kX1_loadFrom l D cI a2 a3 a1 R HR ((HN - (1 : Int32)) * (132 : Int32)) v5 h6) gX0_restore_X1_loadFrom rfl rfl rfl hdX1_loadFrom ⟨Nat.le_of_ble_eq_true rfl, Nat.le_of_ble_eq_true rfl⟩ (hP.sub [2, 3, 1] rfl) (hD.sub [2, 3, 1] (by decide) rfl) rfl rfl rfl rfl hl.1 rfl (Nat.le_of_ble_eq_true rfl) dX0_restore_44 ⟨Nat.zero_le _, Nat.zero_le _⟩) hP hD hS hA [2, 3, 1] [0] [0, 3, 1, 2] rfl rfl (by decide) (by decide) (by decide) rfl (fun H locs hP hD hS => ?_)
    refine lv_aload_n hx hb dX0_restore_47 rfl (lv_at hl 0 rfl) ?_
    refine va_get (D := D) (ci := 0) (v := .int (HS - (1 : Int32))) (C := RX0) (T := TX0) (N := 3) hx hb hts hinX0 hown hK.1 hP 0 rfl rfl 1 (by decide) hfl15 (fun _ h9 => h9) rfl dX0_restore_48 ?_
    obtain ⟨z7, hz7⟩ : ∃ z : Int32, z = HS - (1 : Int32) := ⟨_, rfl⟩
    rw [← hz7] at hf
    obtain ⟨z8, hz8⟩ : ∃ z : Int32, z = HN - (1 : Int32) := ⟨_, rfl⟩
    rw [← hz8] at hf
    rw [← hz7]
    have hP : va_P D vwCl (wX0_X1 cI a0 a1 a2 a3 HR z7 z8 v5) H := by rw [hz7, hz8]; exact hP
    have hD : va_D A (wX0_X1 cI a0 a1 a2 a3 HR z7 z8 v5) := by rw [hz7, hz8]; exact hD
    have he := Option.some.inj hf
    subst he
    exact kreti hx hb hr hlk hP hD hS dX0_restore_51
set_option maxHeartbeats 4000000 in
set_option maxRecDepth 100000 in
theorem kX1_dropTarget (l : Launch) (D : va_G) (cI : ClassId) (a0 a1 : Nat) (R : (Nat → Int32)) (x1 : Int32) (o : Int32 × (Nat → Int32)) (hf : fX1_dropTarget R x1 = some o) : Ct l yX1_dropTarget wsX1_dropTarget { frames := 0, cells := 0, slots := 0, locals := 0 } D cI [.ref a0, .int x1] (wX1 cI a0 a1 R) (wX1 cI a0 a1 o.2) (some (.int o.1)) := by
  refine Ct.of (cc := cX1_dropTarget) (maxL := 3) (ret := (some .int)) (by decide) rfl (Nat.le_of_ble_eq_true rfl) ?_
  intro p e s m args below meth c A F hP hD hS ls hl
  obtain ⟨hx, hb, hml, hr, hown, hts, hlk, hK, hA⟩ := F
  have hown : s.vm.findClass RX1 = some m.cls := hown
  have hl : lv_has ls 3 [(0, .ref a0), (1, .int x1)] := hl
  have hinX1 : ∀ w ∈ wsX10, w ∈ wsX1_dropTarget := by decide +kernel
  have hfl11 := hts (.fieldLink RX1 11 "CraneGuard$Site" "row" "[I") (by decide +kernel)
  unfold fX1_dropTarget at hf
  refine lv_aload_n hx hb dX1_dropTarget_0 rfl (lv_at hl 0 rfl) ?_
  refine va_get (D := D) (ci := 1) (v := .ref a1) (C := RX1) (T := TX1) (N := 1) hx hb hts hinX1 hown hK.1 hP 0 rfl rfl 0 (by decide) hfl11 (fun _ h9 => h9) rfl dX1_dropTarget_1 ?_
  refine lv_bipush (v := (16 : Int32)) hx hb dX1_dropTarget_4 (by decide) ?_
  refine lv_iload_n hx hb dX1_dropTarget_6 rfl (lv_at hl 1 rfl) ?_
  refine lv_iadd hx hb dX1_dropTarget_7 ?_
  obtain ⟨v1, h2, hf⟩ := kBind hf
  refine krd hx hb hK hP 1 rfl h2 dX1_dropTarget_8 ?_
  refine lv_istore_n (lv' := [(2, .int v1), (0, .ref a0), (1, .int x1)]) hx hb dX1_dropTarget_9 rfl hl (by decide) rfl (fun ls hl => ?_)
  refine lv_aload_n hx hb dX1_dropTarget_10 rfl (lv_at hl 1 rfl) ?_
  refine va_get (D := D) (ci := 1) (v := .ref a1) (C := RX1) (T := TX1) (N := 1) hx hb hts hinX1 hown hK.1 hP 0 rfl rfl 0 (by decide) hfl11 (fun _ h9 => h9) rfl dX1_dropTarget_11 ?_
  refine lv_bipush (v := (16 : Int32)) hx hb dX1_dropTarget_14 (by decide) ?_
  refine lv_iload_n hx hb dX1_dropTarget_16 rfl (lv_at hl 2 rfl) ?_
  refine lv_iadd hx hb dX1_dropTarget_17 ?_
  refine lv_bipush (v := (-100 : Int32)) hx hb dX1_dropTarget_18 (by decide) ?_
  obtain ⟨v3, h4, hf⟩ := kBind hf
  refine kwr hx hb hK hP hD hS 1 rfl h4 (wX1 cI a0 a1 v3) rfl dX1_dropTarget_20 (fun H locs hP hD hS => ?_)
  refine lv_aload_n hx hb dX1_dropTarget_21 rfl (lv_at hl 1 rfl) ?_
  refine va_get (D := D) (ci := 1) (v := .ref a1) (C := RX1) (T := TX1) (N := 1) hx hb hts hinX1 hown hK.1 hP 0 rfl rfl 0 (by decide) hfl11 (fun _ h9 => h9) rfl dX1_dropTarget_22 ?_
  refine lv_bipush (v := (20 : Int32)) hx hb dX1_dropTarget_25 (by decide) ?_
  refine lv_iload_n hx hb dX1_dropTarget_27 rfl (lv_at hl 2 rfl) ?_
  refine lv_iadd hx hb dX1_dropTarget_28 ?_
  refine lv_iconst (v := (0 : Int32)) hx hb dX1_dropTarget_29 (by decide) ?_
  obtain ⟨v5, h6, hf⟩ := kBind hf
  refine kwr hx hb hK hP hD hS 1 rfl h6 (wX1 cI a0 a1 v5) rfl dX1_dropTarget_30 (fun H locs hP hD hS => ?_)
  refine lv_iload_n hx hb dX1_dropTarget_31 rfl (lv_at hl 0 rfl) ?_
  have he := Option.some.inj hf
  subst he
  exact kreti hx hb hr hlk hP hD hS dX1_dropTarget_32
set_option maxHeartbeats 4000000 in
set_option maxRecDepth 100000 in
theorem kX3_stepsClockwise (l : Launch) (D : va_G) (cI : ClassId) (x0 : Int32) (x1 : Int32) (o : Int32) (hf : fX3_stepsClockwise x0 x1 = some o) : Ct l yX3_stepsClockwise wsX3_stepsClockwise { frames := 0, cells := 0, slots := 0, locals := 0 } D cI [.int x0, .int x1] ([] : va_W) ([] : va_W) (some (.int o)) := by
  refine Ct.of (cc := cX3_stepsClockwise) (maxL := 2) (ret := (some .int)) (by decide) rfl (Nat.le_of_ble_eq_true rfl) ?_
  intro p e s m args below meth c A F hP hD hS ls hl
  obtain ⟨hx, hb, hml, hr, hown, hts, hlk, hK, hA⟩ := F
  have hown : s.vm.findClass RX3 = some m.cls := hown
  have hl : lv_has ls 2 [(0, .int x0), (1, .int x1)] := hl
  unfold fX3_stepsClockwise at hf
  refine lv_iload_n hx hb dX3_stepsClockwise_0 rfl (lv_at hl 1 rfl) ?_
  refine lv_iload_n hx hb dX3_stepsClockwise_1 rfl (lv_at hl 0 rfl) ?_
  refine lv_isub hx hb dX3_stepsClockwise_2 ?_
  refine lv_bipush (v := (36 : Int32)) hx hb dX3_stepsClockwise_3 (by decide) ?_
  refine lv_iadd hx hb dX3_stepsClockwise_5 ?_
  refine lv_bipush (v := (36 : Int32)) hx hb dX3_stepsClockwise_6 (by decide) ?_
  refine kirem hx hb dX3_stepsClockwise_8 (by decide) ?_
  obtain ⟨z1, hz1⟩ : ∃ z : Int32, z = jrem ((x1 - x0) + (36 : Int32)) (36 : Int32) := ⟨_, rfl⟩
  rw [← hz1] at hf
  rw [← hz1]
  have he := Option.some.inj hf
  subst he
  exact kreti hx hb hr hlk hP hD hS dX3_stepsClockwise_9
set_option maxHeartbeats 4000000 in
set_option maxRecDepth 100000 in
theorem kX3_shorterWay (l : Launch) (D : va_G) (cI : ClassId) (x0 : Int32) (x1 : Int32) (o : Int32) (hf : fX3_shorterWay x0 x1 = some o) : Ct l yX3_shorterWay wsX3_shorterWay { frames := 1, cells := 0, slots := 0, locals := 21 } D cI [.int x0, .int x1] ([] : va_W) ([] : va_W) (some (.int o)) := by
  refine Ct.of (cc := cX3_shorterWay) (maxL := 2) (ret := (some .int)) (by decide) rfl (Nat.le_of_ble_eq_true rfl) ?_
  intro p e s m args below meth c A F hP hD hS ls hl
  obtain ⟨hx, hb, hml, hr, hown, hts, hlk, hK, hA⟩ := F
  have hown : s.vm.findClass RX3 = some m.cls := hown
  have hl : lv_has ls 2 [(0, .int x0), (1, .int x1)] := hl
  unfold fX3_shorterWay at hf
  refine lv_iload_n hx hb dX3_shorterWay_0 rfl (lv_at hl 0 rfl) ?_
  refine lv_iload_n hx hb dX3_shorterWay_1 rfl (lv_at hl 1 rfl) ?_
  obtain ⟨v1, h2, hf⟩ := kBind hf
  refine kgoR (krunS (wc := ([] : va_W)) (As := [.int x0, .int x1]) (rest := []) hx hb hml hown hts hK (kX3_stepsClockwise l D cI x0 x1 v1 h2) gX3_shorterWay_X3_stepsClockwise rfl rfl rfl hdX3_stepsClockwise ⟨Nat.le_of_ble_eq_true rfl, Nat.le_of_ble_eq_true rfl⟩ k_P0 (k_D0 A) rfl hl.1 rfl (Nat.le_of_ble_eq_true rfl) dX3_shorterWay_2 ⟨Nat.zero_le _, Nat.zero_le _⟩) hP hD hS hA [] rfl (fun H locs hP hS => ?_)
  refine lv_bipush (v := (18 : Int32)) hx hb dX3_shorterWay_5 (by decide) ?_
  refine lv_icmp_gt (tgt := 14) hx hb dX3_shorterWay_7 (by decide) (fun c3 => ?_) (fun c3 => ?_)
  · have hf := kIfT c3 hf
    refine lv_iconst (v := (-1 : Int32)) hx hb dX3_shorterWay_14 (by decide) ?_
    have he := Option.some.inj hf
    subst he
    exact kreti hx hb hr hlk hP hD hS dX3_shorterWay_15
  · have hf := kIfF c3 hf
    refine lv_iconst (v := (1 : Int32)) hx hb dX3_shorterWay_10 (by decide) ?_
    refine lv_goto (tgt := 15) hx hb dX3_shorterWay_11 (by decide) ?_
    have he := Option.some.inj hf
    subst he
    exact kreti hx hb hr hlk hP hD hS dX3_shorterWay_15
set_option maxHeartbeats 4000000 in
set_option maxRecDepth 100000 in
theorem kX1_stepsToTarget (l : Launch) (D : va_G) (cI : ClassId) (a0 a1 : Nat) (R : (Nat → Int32)) (x1 : Int32) (o : Int32) (hf : fX1_stepsToTarget R x1 = some o) : Ct l yX1_stepsToTarget wsX1_stepsToTarget { frames := 1, cells := 0, slots := 0, locals := 21 } D cI [.ref a0, .int x1] (wX1 cI a0 a1 R) (wX1 cI a0 a1 R) (some (.int o)) := by
  refine Ct.of (cc := cX1_stepsToTarget) (maxL := 4) (ret := (some .int)) (by decide) rfl (Nat.le_of_ble_eq_true rfl) ?_
  intro p e s m args below meth c A F hP hD hS ls hl
  obtain ⟨hx, hb, hml, hr, hown, hts, hlk, hK, hA⟩ := F
  have hown : s.vm.findClass RX1 = some m.cls := hown
  have hl : lv_has ls 4 [(0, .ref a0), (1, .int x1)] := hl
  have hinX1 : ∀ w ∈ wsX10, w ∈ wsX1_stepsToTarget := by decide +kernel
  have hfl11 := hts (.fieldLink RX1 11 "CraneGuard$Site" "row" "[I") (by decide +kernel)
  unfold fX1_stepsToTarget at hf
  refine lv_aload_n hx hb dX1_stepsToTarget_0 rfl (lv_at hl 0 rfl) ?_
  refine va_get (D := D) (ci := 1) (v := .ref a1) (C := RX1) (T := TX1) (N := 1) hx hb hts hinX1 hown hK.1 hP 0 rfl rfl 0 (by decide) hfl11 (fun _ h9 => h9) rfl dX1_stepsToTarget_1 ?_
  refine lv_iconst (v := (4 : Int32)) hx hb dX1_stepsToTarget_4 (by decide) ?_
  refine lv_iload_n hx hb dX1_stepsToTarget_5 rfl (lv_at hl 1 rfl) ?_
  refine lv_iadd hx hb dX1_stepsToTarget_6 ?_
  obtain ⟨v1, h2, hf⟩ := kBind hf
  refine krd hx hb hK hP 1 rfl h2 dX1_stepsToTarget_7 ?_
  refine lv_istore_n (lv' := [(2, .int v1), (0, .ref a0), (1, .int x1)]) hx hb dX1_stepsToTarget_8 rfl hl (by decide) rfl (fun ls hl => ?_)
  refine lv_aload_n hx hb dX1_stepsToTarget_9 rfl (lv_at hl 1 rfl) ?_
  refine va_get (D := D) (ci := 1) (v := .ref a1) (C := RX1) (T := TX1) (N := 1) hx hb hts hinX1 hown hK.1 hP 0 rfl rfl 0 (by decide) hfl11 (fun _ h9 => h9) rfl dX1_stepsToTarget_10 ?_
  refine lv_bipush (v := (16 : Int32)) hx hb dX1_stepsToTarget_13 (by decide) ?_
  refine lv_iload_n hx hb dX1_stepsToTarget_15 rfl (lv_at hl 2 rfl) ?_
  refine lv_iadd hx hb dX1_stepsToTarget_16 ?_
  obtain ⟨v3, h4, hf⟩ := kBind hf
  refine krd hx hb hK hP 1 rfl h4 dX1_stepsToTarget_17 ?_
  refine lv_istore_n (lv' := [(3, .int v3), (2, .int v1), (0, .ref a0), (1, .int x1)]) hx hb dX1_stepsToTarget_18 rfl hl (by decide) rfl (fun ls hl => ?_)
  refine lv_aload_n hx hb dX1_stepsToTarget_19 rfl (lv_at hl 2 rfl) ?_
  refine va_get (D := D) (ci := 1) (v := .ref a1) (C := RX1) (T := TX1) (N := 1) hx hb hts hinX1 hown hK.1 hP 0 rfl rfl 0 (by decide) hfl11 (fun _ h9 => h9) rfl dX1_stepsToTarget_20 ?_
  refine lv_bipush (v := (20 : Int32)) hx hb dX1_stepsToTarget_23 (by decide) ?_
  refine lv_iload_n hx hb dX1_stepsToTarget_25 rfl (lv_at hl 3 rfl) ?_
  refine lv_iadd hx hb dX1_stepsToTarget_26 ?_
  obtain ⟨v5, h6, hf⟩ := kBind hf
  refine krd hx hb hK hP 1 rfl h6 dX1_stepsToTarget_27 ?_
  refine lv_iconst (v := (1 : Int32)) hx hb dX1_stepsToTarget_28 (by decide) ?_
  refine lv_icmp_ne (tgt := 40) hx hb dX1_stepsToTarget_29 (by decide) (fun c7 => ?_) (fun c7 => ?_)
  · have hf := kIfF c7 hf
    refine lv_iload_n hx hb dX1_stepsToTarget_40 rfl (lv_at hl 0 rfl) ?_
    refine lv_iload_n hx hb dX1_stepsToTarget_41 rfl (lv_at hl 1 rfl) ?_
    obtain ⟨v8, h9, hf⟩ := kBind hf
    refine kgoR (krunSN (wc := ([] : va_W)) (As := [.int v3, .int v1]) (rest := []) hx hb hml hown hts hK (kX3_stepsClockwise l D cI v3 v1 v8 h9) ggX1_stepsToTarget_X3_stepsClockwise hK.2.2.1 (hts (.initialized RX3) (by decide +kernel)) (hts (.static yX3_stepsClockwise) (by decide +kernel)) rfl rfl rfl hdX3_stepsClockwise ⟨Nat.le_of_ble_eq_true rfl, Nat.le_of_ble_eq_true rfl⟩ k_P0 (k_D0 A) rfl hl.1 rfl (Nat.le_of_ble_eq_true rfl) dX1_stepsToTarget_42 ⟨Nat.zero_le _, Nat.zero_le _⟩) hP hD hS hA [] rfl (fun H locs hP hS => ?_)
    have he := Option.some.inj hf
    subst he
    exact kreti hx hb hr hlk hP hD hS dX1_stepsToTarget_45
  · have hf := kIfT c7 hf
    refine lv_iload_n hx hb dX1_stepsToTarget_32 rfl (lv_at hl 1 rfl) ?_
    refine lv_iload_n hx hb dX1_stepsToTarget_33 rfl (lv_at hl 0 rfl) ?_
    obtain ⟨v10, h11, hf⟩ := kBind hf
    refine kgoR (krunSN (wc := ([] : va_W)) (As := [.int v1, .int v3]) (rest := []) hx hb hml hown hts hK (kX3_stepsClockwise l D cI v1 v3 v10 h11) ggX1_stepsToTarget_X3_stepsClockwise hK.2.2.1 (hts (.initialized RX3) (by decide +kernel)) (hts (.static yX3_stepsClockwise) (by decide +kernel)) rfl rfl rfl hdX3_stepsClockwise ⟨Nat.le_of_ble_eq_true rfl, Nat.le_of_ble_eq_true rfl⟩ k_P0 (k_D0 A) rfl hl.1 rfl (Nat.le_of_ble_eq_true rfl) dX1_stepsToTarget_34 ⟨Nat.zero_le _, Nat.zero_le _⟩) hP hD hS hA [] rfl (fun H locs hP hS => ?_)
    refine lv_goto (tgt := 45) hx hb dX1_stepsToTarget_37 (by decide) ?_
    have he := Option.some.inj hf
    subst he
    exact kreti hx hb hr hlk hP hD hS dX1_stepsToTarget_45
set_option maxHeartbeats 4000000 in
set_option maxRecDepth 100000 in
theorem kX1_aim (l : Launch) (D : va_G) (cI : ClassId) (a0 a1 : Nat) (R : (Nat → Int32)) (x1 : Int32) (x2 : Int32) (x3 : Int32) (o : Int32 × (Nat → Int32)) (hf : fX1_aim R x1 x2 x3 = some o) : Ct l yX1_aim wsX1_aim { frames := 2, cells := 0, slots := 0, locals := 44 } D cI [.ref a0, .int x1, .int x2, .int x3] (wX1 cI a0 a1 R) (wX1 cI a0 a1 o.2) (some (.int o.1)) := by
  refine Ct.of (cc := cX1_aim) (maxL := 5) (ret := (some .int)) (by decide) rfl (Nat.le_of_ble_eq_true rfl) ?_
  intro p e s m args below meth c A F hP hD hS ls hl
  obtain ⟨hx, hb, hml, hr, hown, hts, hlk, hK, hA⟩ := F
  have hown : s.vm.findClass RX1 = some m.cls := hown
  have hl : lv_has ls 5 [(0, .ref a0), (1, .int x1), (2, .int x2), (3, .int x3)] := hl
  have hinX1 : ∀ w ∈ wsX10, w ∈ wsX1_aim := by decide +kernel
  have hfl11 := hts (.fieldLink RX1 11 "CraneGuard$Site" "row" "[I") (by decide +kernel)
  unfold fX1_aim at hf
  refine lv_aload_n hx hb dX1_aim_0 rfl (lv_at hl 0 rfl) ?_
  refine va_get (D := D) (ci := 1) (v := .ref a1) (C := RX1) (T := TX1) (N := 1) hx hb hts hinX1 hown hK.1 hP 0 rfl rfl 0 (by decide) hfl11 (fun _ h9 => h9) rfl dX1_aim_1 ?_
  refine lv_iconst (v := (4 : Int32)) hx hb dX1_aim_4 (by decide) ?_
  refine lv_iload_n hx hb dX1_aim_5 rfl (lv_at hl 1 rfl) ?_
  refine lv_iadd hx hb dX1_aim_6 ?_
  obtain ⟨v1, h2, hf⟩ := kBind hf
  refine krd hx hb hK hP 1 rfl h2 dX1_aim_7 ?_
  refine lv_istore (lv' := [(4, .int v1), (0, .ref a0), (1, .int x1), (2, .int x2), (3, .int x3)]) hx hb dX1_aim_8 hl (by decide) rfl (fun ls hl => ?_)
  refine lv_iload hx hb dX1_aim_10 (lv_at hl 0 rfl) ?_
  refine lv_iload_n hx hb dX1_aim_12 rfl (lv_at hl 3 rfl) ?_
  refine lv_icmp_ne (tgt := 24) hx hb dX1_aim_13 (by decide) (fun c3 => ?_) (fun c3 => ?_)
  · have hf := kIfF c3 hf
    refine lv_aload_n hx hb dX1_aim_24 rfl (lv_at hl 1 rfl) ?_
    refine va_get (D := D) (ci := 1) (v := .ref a1) (C := RX1) (T := TX1) (N := 1) hx hb hts hinX1 hown hK.1 hP 0 rfl rfl 0 (by decide) hfl11 (fun _ h9 => h9) rfl dX1_aim_25 ?_
    refine lv_bipush (v := (16 : Int32)) hx hb dX1_aim_28 (by decide) ?_
    refine lv_iload_n hx hb dX1_aim_30 rfl (lv_at hl 2 rfl) ?_
    refine lv_iadd hx hb dX1_aim_31 ?_
    refine lv_iload_n hx hb dX1_aim_32 rfl (lv_at hl 3 rfl) ?_
    obtain ⟨v4, h5, hf⟩ := kBind hf
    refine kwr hx hb hK hP hD hS 1 rfl h5 (wX1 cI a0 a1 v4) rfl dX1_aim_33 (fun H locs hP hD hS => ?_)
    refine lv_aload_n hx hb dX1_aim_34 rfl (lv_at hl 1 rfl) ?_
    refine va_get (D := D) (ci := 1) (v := .ref a1) (C := RX1) (T := TX1) (N := 1) hx hb hts hinX1 hown hK.1 hP 0 rfl rfl 0 (by decide) hfl11 (fun _ h9 => h9) rfl dX1_aim_35 ?_
    refine lv_bipush (v := (20 : Int32)) hx hb dX1_aim_38 (by decide) ?_
    refine lv_iload_n hx hb dX1_aim_40 rfl (lv_at hl 2 rfl) ?_
    refine lv_iadd hx hb dX1_aim_41 ?_
    refine lv_iload_n hx hb dX1_aim_42 rfl (lv_at hl 4 rfl) ?_
    refine lv_if_ne (tgt := 55) hx hb dX1_aim_43 (by decide) (fun c6 => ?_) (fun c6 => ?_)
    · have hf := kIfF c6 hf
      refine lv_iload_n hx hb dX1_aim_55 rfl (lv_at hl 4 rfl) ?_
      obtain ⟨v7, h8, hf⟩ := kBind hf
      refine kwr hx hb hK hP hD hS 1 rfl h8 (wX1 cI a0 a1 v7) rfl dX1_aim_56 (fun H locs hP hD hS => ?_)
      refine lv_aload_n hx hb dX1_aim_57 rfl (lv_at hl 1 rfl) ?_
      refine lv_iload_n hx hb dX1_aim_58 rfl (lv_at hl 2 rfl) ?_
      obtain ⟨v9, h10, hf⟩ := kBind hf
      refine kgoR (krunV (wc := (wX1 cI a0 a1 v7)) (As := [.int x1]) (rest := []) (ci := 1) hx hb hml hown hts hK (kX1_stepsToTarget l D cI a0 a1 v7 x1 v9 h10) gX1_aim_X1_stepsToTarget rfl rfl rfl hdX1_stepsToTarget ⟨Nat.le_of_ble_eq_true rfl, Nat.le_of_ble_eq_true rfl⟩ hP hD rfl rfl rfl rfl hl.1 rfl (Nat.le_of_ble_eq_true rfl) dX1_aim_59 ⟨Nat.zero_le _, Nat.zero_le _⟩) hP hD hS hA [0, 1] rfl (fun H locs hP hS => ?_)
      have he := Option.some.inj hf
      subst he
      exact kreti hx hb hr hlk hP hD hS dX1_aim_62
    · have hf := kIfT c6 hf
      refine lv_iload hx hb dX1_aim_46 (lv_at hl 0 rfl) ?_
      refine lv_iload_n hx hb dX1_aim_48 rfl (lv_at hl 3 rfl) ?_
      obtain ⟨v11, h12, hf⟩ := kBind hf
      refine kgoR (krunSN (wc := ([] : va_W)) (As := [.int v1, .int x2]) (rest := [.int ((20 : Int32) + x1), .ref a1]) hx hb hml hown hts hK (kX3_shorterWay l D cI v1 x2 v11 h12) ggX1_aim_X3_shorterWay hK.2.1 (hts (.initialized RX3) (by decide +kernel)) (hts (.static yX3_shorterWay) (by decide +kernel)) rfl rfl rfl hdX3_shorterWay ⟨Nat.le_of_ble_eq_true rfl, Nat.le_of_ble_eq_true rfl⟩ k_P0 (k_D0 A) rfl hl.1 rfl (Nat.le_of_ble_eq_true rfl) dX1_aim_49 ⟨Nat.zero_le _, Nat.zero_le _⟩) hP hD hS hA [] rfl (fun H locs hP hS => ?_)
      refine lv_goto (tgt := 56) hx hb dX1_aim_52 (by decide) ?_
      obtain ⟨v13, h14, hf⟩ := kBind hf
      refine kwr hx hb hK hP hD hS 1 rfl h14 (wX1 cI a0 a1 v13) rfl dX1_aim_56 (fun H locs hP hD hS => ?_)
      refine lv_aload_n hx hb dX1_aim_57 rfl (lv_at hl 1 rfl) ?_
      refine lv_iload_n hx hb dX1_aim_58 rfl (lv_at hl 2 rfl) ?_
      obtain ⟨v15, h16, hf⟩ := kBind hf
      refine kgoR (krunV (wc := (wX1 cI a0 a1 v13)) (As := [.int x1]) (rest := []) (ci := 1) hx hb hml hown hts hK (kX1_stepsToTarget l D cI a0 a1 v13 x1 v15 h16) gX1_aim_X1_stepsToTarget rfl rfl rfl hdX1_stepsToTarget ⟨Nat.le_of_ble_eq_true rfl, Nat.le_of_ble_eq_true rfl⟩ hP hD rfl rfl rfl rfl hl.1 rfl (Nat.le_of_ble_eq_true rfl) dX1_aim_59 ⟨Nat.zero_le _, Nat.zero_le _⟩) hP hD hS hA [0, 1] rfl (fun H locs hP hS => ?_)
      have he := Option.some.inj hf
      subst he
      exact kreti hx hb hr hlk hP hD hS dX1_aim_62
  · have hf := kIfT c3 hf
    refine lv_aload_n hx hb dX1_aim_16 rfl (lv_at hl 1 rfl) ?_
    refine lv_iload_n hx hb dX1_aim_17 rfl (lv_at hl 2 rfl) ?_
    obtain ⟨v17, h18, hf⟩ := kBind hf
    refine kgoA (krunV (wc := (wX1 cI a0 a1 R)) (As := [.int x1]) (rest := []) (ci := 1) hx hb hml hown hts hK (kX1_dropTarget l D cI a0 a1 R x1 v17 h18) gX1_aim_X1_dropTarget rfl rfl rfl hdX1_dropTarget ⟨Nat.le_of_ble_eq_true rfl, Nat.le_of_ble_eq_true rfl⟩ hP hD rfl rfl rfl rfl hl.1 rfl (Nat.le_of_ble_eq_true rfl) dX1_aim_18 ⟨Nat.zero_le _, Nat.zero_le _⟩) hD hS hA (fun H locs hP hD hS => ?_)
    refine lv_pop hx hb dX1_aim_21 rfl ?_
    refine lv_iconst (v := (0 : Int32)) hx hb dX1_aim_22 (by decide) ?_
    have he := Option.some.inj hf
    subst he
    exact kreti hx hb hr hlk hP hD hS dX1_aim_23
set_option maxHeartbeats 4000000 in
set_option maxRecDepth 100000 in
theorem kX1_hasTarget (l : Launch) (D : va_G) (cI : ClassId) (a0 a1 : Nat) (R : (Nat → Int32)) (x1 : Int32) (o : Bool) (hf : fX1_hasTarget R x1 = some o) : Ct l yX1_hasTarget wsX1_hasTarget { frames := 0, cells := 0, slots := 0, locals := 0 } D cI [.ref a0, .int x1] (wX1 cI a0 a1 R) (wX1 cI a0 a1 R) (some (.int (bI o))) := by
  refine Ct.of (cc := cX1_hasTarget) (maxL := 2) (ret := (some .boolean)) (by decide) rfl (Nat.le_of_ble_eq_true rfl) ?_
  intro p e s m args below meth c A F hP hD hS ls hl
  obtain ⟨hx, hb, hml, hr, hown, hts, hlk, hK, hA⟩ := F
  have hown : s.vm.findClass RX1 = some m.cls := hown
  have hl : lv_has ls 2 [(0, .ref a0), (1, .int x1)] := hl
  have hinX1 : ∀ w ∈ wsX10, w ∈ wsX1_hasTarget := by decide +kernel
  have hfl11 := hts (.fieldLink RX1 11 "CraneGuard$Site" "row" "[I") (by decide +kernel)
  unfold fX1_hasTarget at hf
  refine lv_aload_n hx hb dX1_hasTarget_0 rfl (lv_at hl 0 rfl) ?_
  refine va_get (D := D) (ci := 1) (v := .ref a1) (C := RX1) (T := TX1) (N := 1) hx hb hts hinX1 hown hK.1 hP 0 rfl rfl 0 (by decide) hfl11 (fun _ h9 => h9) rfl dX1_hasTarget_1 ?_
  refine lv_bipush (v := (16 : Int32)) hx hb dX1_hasTarget_4 (by decide) ?_
  refine lv_iload_n hx hb dX1_hasTarget_6 rfl (lv_at hl 1 rfl) ?_
  refine lv_iadd hx hb dX1_hasTarget_7 ?_
  obtain ⟨v1, h2, hf⟩ := kBind hf
  refine krd hx hb hK hP 1 rfl h2 dX1_hasTarget_8 ?_
  refine lv_bipush (v := (-100 : Int32)) hx hb dX1_hasTarget_9 (by decide) ?_
  refine lv_icmp_eq (tgt := 18) hx hb dX1_hasTarget_11 (by decide) (fun c3 => ?_) (fun c3 => ?_)
  · have hf := kIfT c3 hf
    refine lv_iconst (v := (0 : Int32)) hx hb dX1_hasTarget_18 (by decide) ?_
    have he := Option.some.inj hf
    subst he
    exact kretz hx hb hr hlk hP hD hS dX1_hasTarget_19
  · have hf := kIfF c3 hf
    refine lv_iconst (v := (1 : Int32)) hx hb dX1_hasTarget_14 (by decide) ?_
    refine lv_goto (tgt := 19) hx hb dX1_hasTarget_15 (by decide) ?_
    have he := Option.some.inj hf
    subst he
    exact kretz hx hb hr hlk hP hD hS dX1_hasTarget_19
set_option maxHeartbeats 4000000 in
set_option maxRecDepth 100000 in
theorem kX1_isOnStep (l : Launch) (D : va_G) (cI : ClassId) (a0 a1 : Nat) (R : (Nat → Int32)) (x1 : Int32) (o : Bool) (hf : fX1_isOnStep R x1 = some o) : Ct l yX1_isOnStep wsX1_isOnStep { frames := 0, cells := 0, slots := 0, locals := 0 } D cI [.ref a0, .int x1] (wX1 cI a0 a1 R) (wX1 cI a0 a1 R) (some (.int (bI o))) := by
  refine Ct.of (cc := cX1_isOnStep) (maxL := 2) (ret := (some .boolean)) (by decide) rfl (Nat.le_of_ble_eq_true rfl) ?_
  intro p e s m args below meth c A F hP hD hS ls hl
  obtain ⟨hx, hb, hml, hr, hown, hts, hlk, hK, hA⟩ := F
  have hown : s.vm.findClass RX1 = some m.cls := hown
  have hl : lv_has ls 2 [(0, .ref a0), (1, .int x1)] := hl
  have hinX1 : ∀ w ∈ wsX10, w ∈ wsX1_isOnStep := by decide +kernel
  have hfl11 := hts (.fieldLink RX1 11 "CraneGuard$Site" "row" "[I") (by decide +kernel)
  unfold fX1_isOnStep at hf
  refine lv_aload_n hx hb dX1_isOnStep_0 rfl (lv_at hl 0 rfl) ?_
  refine va_get (D := D) (ci := 1) (v := .ref a1) (C := RX1) (T := TX1) (N := 1) hx hb hts hinX1 hown hK.1 hP 0 rfl rfl 0 (by decide) hfl11 (fun _ h9 => h9) rfl dX1_isOnStep_1 ?_
  refine lv_bipush (v := (24 : Int32)) hx hb dX1_isOnStep_4 (by decide) ?_
  refine lv_iload_n hx hb dX1_isOnStep_6 rfl (lv_at hl 1 rfl) ?_
  refine lv_iadd hx hb dX1_isOnStep_7 ?_
  obtain ⟨v1, h2, hf⟩ := kBind hf
  refine krd hx hb hK hP 1 rfl h2 dX1_isOnStep_8 ?_
  refine lv_if_le (tgt := 16) hx hb dX1_isOnStep_9 (by decide) (fun c3 => ?_) (fun c3 => ?_)
  · have hf := kIfT c3 hf
    refine lv_iconst (v := (0 : Int32)) hx hb dX1_isOnStep_16 (by decide) ?_
    have he := Option.some.inj hf
    subst he
    exact kretz hx hb hr hlk hP hD hS dX1_isOnStep_17
  · have hf := kIfF c3 hf
    refine lv_iconst (v := (1 : Int32)) hx hb dX1_isOnStep_12 (by decide) ?_
    refine lv_goto (tgt := 17) hx hb dX1_isOnStep_13 (by decide) ?_
    have he := Option.some.inj hf
    subst he
    exact kretz hx hb hr hlk hP hD hS dX1_isOnStep_17
set_option maxHeartbeats 4000000 in
set_option maxRecDepth 100000 in
theorem kX1_nextAngle (l : Launch) (D : va_G) (cI : ClassId) (a0 a1 : Nat) (R : (Nat → Int32)) (x1 : Int32) (o : Int32) (hf : fX1_nextAngle R x1 = some o) : Ct l yX1_nextAngle wsX1_nextAngle { frames := 0, cells := 0, slots := 0, locals := 0 } D cI [.ref a0, .int x1] (wX1 cI a0 a1 R) (wX1 cI a0 a1 R) (some (.int o)) := by
  refine Ct.of (cc := cX1_nextAngle) (maxL := 2) (ret := (some .int)) (by decide) rfl (Nat.le_of_ble_eq_true rfl) ?_
  intro p e s m args below meth c A F hP hD hS ls hl
  obtain ⟨hx, hb, hml, hr, hown, hts, hlk, hK, hA⟩ := F
  have hown : s.vm.findClass RX1 = some m.cls := hown
  have hl : lv_has ls 2 [(0, .ref a0), (1, .int x1)] := hl
  have hinX1 : ∀ w ∈ wsX10, w ∈ wsX1_nextAngle := by decide +kernel
  have hfl11 := hts (.fieldLink RX1 11 "CraneGuard$Site" "row" "[I") (by decide +kernel)
  unfold fX1_nextAngle at hf
  refine lv_aload_n hx hb dX1_nextAngle_0 rfl (lv_at hl 0 rfl) ?_
  refine va_get (D := D) (ci := 1) (v := .ref a1) (C := RX1) (T := TX1) (N := 1) hx hb hts hinX1 hown hK.1 hP 0 rfl rfl 0 (by decide) hfl11 (fun _ h9 => h9) rfl dX1_nextAngle_1 ?_
  refine lv_iconst (v := (4 : Int32)) hx hb dX1_nextAngle_4 (by decide) ?_
  refine lv_iload_n hx hb dX1_nextAngle_5 rfl (lv_at hl 1 rfl) ?_
  refine lv_iadd hx hb dX1_nextAngle_6 ?_
  obtain ⟨v1, h2, hf⟩ := kBind hf
  refine krd hx hb hK hP 1 rfl h2 dX1_nextAngle_7 ?_
  refine lv_aload_n hx hb dX1_nextAngle_8 rfl (lv_at hl 0 rfl) ?_
  refine va_get (D := D) (ci := 1) (v := .ref a1) (C := RX1) (T := TX1) (N := 1) hx hb hts hinX1 hown hK.1 hP 0 rfl rfl 0 (by decide) hfl11 (fun _ h9 => h9) rfl dX1_nextAngle_9 ?_
  refine lv_bipush (v := (20 : Int32)) hx hb dX1_nextAngle_12 (by decide) ?_
  refine lv_iload_n hx hb dX1_nextAngle_14 rfl (lv_at hl 1 rfl) ?_
  refine lv_iadd hx hb dX1_nextAngle_15 ?_
  obtain ⟨v3, h4, hf⟩ := kBind hf
  refine krd hx hb hK hP 1 rfl h4 dX1_nextAngle_16 ?_
  refine lv_iadd hx hb dX1_nextAngle_17 ?_
  refine lv_bipush (v := (36 : Int32)) hx hb dX1_nextAngle_18 (by decide) ?_
  refine lv_iadd hx hb dX1_nextAngle_20 ?_
  refine lv_bipush (v := (36 : Int32)) hx hb dX1_nextAngle_21 (by decide) ?_
  refine kirem hx hb dX1_nextAngle_23 (by decide) ?_
  obtain ⟨z5, hz5⟩ : ∃ z : Int32, z = jrem ((v1 + v3) + (36 : Int32)) (36 : Int32) := ⟨_, rfl⟩
  rw [← hz5] at hf
  rw [← hz5]
  have he := Option.some.inj hf
  subst he
  exact kreti hx hb hr hlk hP hD hS dX1_nextAngle_24
set_option maxHeartbeats 4000000 in
set_option maxRecDepth 100000 in
theorem kX1_zonesAtAngle (l : Launch) (D : va_G) (cI : ClassId) (fu : Nat) (a0 a1 : Nat) (R : (Nat → Int32)) (x1 : Int32) (x2 : Int32) (o : Int32) (hf : fX1_zonesAtAngle fu R x1 x2 = some o) : Ct l yX1_zonesAtAngle wsX1_zonesAtAngle { frames := 0, cells := 0, slots := 0, locals := 0 } D cI [.ref a0, .int x1, .int x2] (wX1 cI a0 a1 R) (wX1 cI a0 a1 R) (some (.int o)) := by
  refine Ct.of (cc := cX1_zonesAtAngle) (maxL := 7) (ret := (some .int)) (by decide) rfl (Nat.le_of_ble_eq_true rfl) ?_
  intro p e s m args below meth c A F hP hD hS ls hl
  obtain ⟨hx, hb, hml, hr, hown, hts, hlk, hK, hA⟩ := F
  have hown : s.vm.findClass RX1 = some m.cls := hown
  have hl : lv_has ls 7 [(0, .ref a0), (1, .int x1), (2, .int x2)] := hl
  have hinX1 : ∀ w ∈ wsX10, w ∈ wsX1_zonesAtAngle := by decide +kernel
  have hfl11 := hts (.fieldLink RX1 11 "CraneGuard$Site" "row" "[I") (by decide +kernel)
  unfold fX1_zonesAtAngle at hf
  refine lv_iconst (v := (0 : Int32)) hx hb dX1_zonesAtAngle_0 (by decide) ?_
  refine lv_istore_n (lv' := [(3, .int (0 : Int32)), (0, .ref a0), (1, .int x1), (2, .int x2)]) hx hb dX1_zonesAtAngle_1 rfl hl (by decide) rfl (fun ls hl => ?_)
  refine lv_iconst (v := (0 : Int32)) hx hb dX1_zonesAtAngle_2 (by decide) ?_
  refine lv_istore (lv' := [(4, .int (0 : Int32)), (3, .int (0 : Int32)), (0, .ref a0), (1, .int x1), (2, .int x2)]) hx hb dX1_zonesAtAngle_3 hl (by decide) rfl (fun ls hl => ?_)
  have hl : lv_has ls 7 [(4, .int (0 : Int32)), (3, .int (0 : Int32)), (0, .ref a0), (1, .int x1), (2, .int x2)] := hl
  refine klp hf (fun t5 : Int32 × Int32 => (wX1 cI a0 a1 R)) 7 (fun t5 : Int32 × Int32 => [(4, .int t5.2), (3, .int t5.1), (0, .ref a0), (1, .int x1), (2, .int x2)]) ?_ hP hD hS hl
  intro t5 x5_ hf hI1 hO1 H locs ls hP hD hS hl
  unfold fX1_zonesAtAngle_L5 at hf
  have hP : va_P D vwCl (wX1 cI a0 a1 R) H := hP
  have hD : va_D A (wX1 cI a0 a1 R) := hD
  have hl : lv_has ls 7 [(4, .int t5.2), (3, .int t5.1), (0, .ref a0), (1, .int x1), (2, .int x2)] := hl
  refine lv_iload hx hb dX1_zonesAtAngle_5 (lv_at hl 0 rfl) ?_
  refine lv_bipush (v := (6 : Int32)) hx hb dX1_zonesAtAngle_7 (by decide) ?_
  refine lv_icmp_ge (tgt := 90) hx hb dX1_zonesAtAngle_9 (by decide) (fun c12 => ?_) (fun c12 => ?_)
  · have hf := kIfT c12 hf
    refine lv_iload_n hx hb dX1_zonesAtAngle_90 rfl (lv_at hl 1 rfl) ?_
    have he := Option.some.inj hf
    have he := hO1 _ he.symm
    subst he
    exact kreti hx hb hr hlk hP hD hS dX1_zonesAtAngle_91
  · have hf := kIfF c12 hf
    refine lv_aload_n hx hb dX1_zonesAtAngle_12 rfl (lv_at hl 2 rfl) ?_
    refine va_get (D := D) (ci := 1) (v := .ref a1) (C := RX1) (T := TX1) (N := 1) hx hb hts hinX1 hown hK.1 hP 0 rfl rfl 0 (by decide) hfl11 (fun _ h9 => h9) rfl dX1_zonesAtAngle_13 ?_
    refine lv_bipush (v := (44 : Int32)) hx hb dX1_zonesAtAngle_16 (by decide) ?_
    refine lv_iload_n hx hb dX1_zonesAtAngle_18 rfl (lv_at hl 3 rfl) ?_
    refine lv_bipush (v := (6 : Int32)) hx hb dX1_zonesAtAngle_19 (by decide) ?_
    refine lv_imul hx hb dX1_zonesAtAngle_21 ?_
    refine lv_iadd hx hb dX1_zonesAtAngle_22 ?_
    refine lv_iload hx hb dX1_zonesAtAngle_23 (lv_at hl 0 rfl) ?_
    refine lv_iadd hx hb dX1_zonesAtAngle_25 ?_
    obtain ⟨v13, h14, hf⟩ := kBind hf
    refine krd hx hb hK hP 1 rfl h14 dX1_zonesAtAngle_26 ?_
    refine lv_istore (lv' := [(5, .int v13), (4, .int t5.2), (3, .int t5.1), (0, .ref a0), (1, .int x1), (2, .int x2)]) hx hb dX1_zonesAtAngle_27 hl (by decide) rfl (fun ls hl => ?_)
    refine lv_aload_n hx hb dX1_zonesAtAngle_29 rfl (lv_at hl 3 rfl) ?_
    refine va_get (D := D) (ci := 1) (v := .ref a1) (C := RX1) (T := TX1) (N := 1) hx hb hts hinX1 hown hK.1 hP 0 rfl rfl 0 (by decide) hfl11 (fun _ h9 => h9) rfl dX1_zonesAtAngle_30 ?_
    refine lv_bipush (v := (68 : Int32)) hx hb dX1_zonesAtAngle_33 (by decide) ?_
    refine lv_iload_n hx hb dX1_zonesAtAngle_35 rfl (lv_at hl 4 rfl) ?_
    refine lv_bipush (v := (6 : Int32)) hx hb dX1_zonesAtAngle_36 (by decide) ?_
    refine lv_imul hx hb dX1_zonesAtAngle_38 ?_
    refine lv_iadd hx hb dX1_zonesAtAngle_39 ?_
    refine lv_iload hx hb dX1_zonesAtAngle_40 (lv_at hl 1 rfl) ?_
    refine lv_iadd hx hb dX1_zonesAtAngle_42 ?_
    obtain ⟨v15, h16, hf⟩ := kBind hf
    refine krd hx hb hK hP 1 rfl h16 dX1_zonesAtAngle_43 ?_
    refine lv_istore (lv' := [(6, .int v15), (5, .int v13), (4, .int t5.2), (3, .int t5.1), (0, .ref a0), (1, .int x1), (2, .int x2)]) hx hb dX1_zonesAtAngle_44 hl (by decide) rfl (fun ls hl => ?_)
    refine lv_iload hx hb dX1_zonesAtAngle_46 (lv_at hl 1 rfl) ?_
    refine lv_bipush (v := (-100 : Int32)) hx hb dX1_zonesAtAngle_48 (by decide) ?_
    refine lv_icmp_eq (tgt := 84) hx hb dX1_zonesAtAngle_50 (by decide) (fun c17 => ?_) (fun c17 => ?_)
    · have hf := kIfT c17 hf
      refine lv_iinc (v := t5.2 + (1 : Int32)) (lv' := [(4, .int (t5.2 + (1 : Int32))), (6, .int v15), (5, .int v13), (3, .int t5.1), (0, .ref a0), (1, .int x1), (2, .int x2)]) hx hb dX1_zonesAtAngle_84 hl (k := 2) rfl rfl (by decide) rfl (fun ls hl => ?_)
      refine lv_goto (tgt := 5) hx hb dX1_zonesAtAngle_87 (by decide) ?_
      obtain ⟨z18, hz18⟩ : ∃ z : Int32, z = t5.2 + (1 : Int32) := ⟨_, rfl⟩
      rw [← hz18] at hf
      have he := (Option.some.inj hf).symm
      have hl : lv_has ls 7 [(4, .int z18), (3, .int t5.1), (0, .ref a0), (1, .int x1), (2, .int x2)] := by rw [hz18]; exact lv_sub hl [0, 3, 4, 5, 6] rfl
      exact hI1 _ he H locs ls hP hD hS hl
    · have hf := kIfF c17 hf
      refine lv_iload_n hx hb dX1_zonesAtAngle_53 rfl (lv_at hl 6 rfl) ?_
      refine lv_iload hx hb dX1_zonesAtAngle_54 (lv_at hl 1 rfl) ?_
      refine lv_isub hx hb dX1_zonesAtAngle_56 ?_
      refine lv_bipush (v := (36 : Int32)) hx hb dX1_zonesAtAngle_57 (by decide) ?_
      refine lv_iadd hx hb dX1_zonesAtAngle_59 ?_
      refine lv_bipush (v := (36 : Int32)) hx hb dX1_zonesAtAngle_60 (by decide) ?_
      refine kirem hx hb dX1_zonesAtAngle_62 (by decide) ?_
      refine lv_iload hx hb dX1_zonesAtAngle_63 (lv_at hl 0 rfl) ?_
      refine lv_iload hx hb dX1_zonesAtAngle_65 (lv_at hl 1 rfl) ?_
      refine lv_isub hx hb dX1_zonesAtAngle_67 ?_
      refine lv_bipush (v := (36 : Int32)) hx hb dX1_zonesAtAngle_68 (by decide) ?_
      refine lv_iadd hx hb dX1_zonesAtAngle_70 ?_
      refine lv_bipush (v := (36 : Int32)) hx hb dX1_zonesAtAngle_71 (by decide) ?_
      refine kirem hx hb dX1_zonesAtAngle_73 (by decide) ?_
      refine lv_icmp_gt (tgt := 84) hx hb dX1_zonesAtAngle_74 (by decide) (fun c19 => ?_) (fun c19 => ?_)
      · have hf := kIfT c19 hf
        refine lv_iinc (v := t5.2 + (1 : Int32)) (lv' := [(4, .int (t5.2 + (1 : Int32))), (6, .int v15), (5, .int v13), (3, .int t5.1), (0, .ref a0), (1, .int x1), (2, .int x2)]) hx hb dX1_zonesAtAngle_84 hl (k := 2) rfl rfl (by decide) rfl (fun ls hl => ?_)
        refine lv_goto (tgt := 5) hx hb dX1_zonesAtAngle_87 (by decide) ?_
        obtain ⟨z20, hz20⟩ : ∃ z : Int32, z = t5.2 + (1 : Int32) := ⟨_, rfl⟩
        rw [← hz20] at hf
        have he := (Option.some.inj hf).symm
        have hl : lv_has ls 7 [(4, .int z20), (3, .int t5.1), (0, .ref a0), (1, .int x1), (2, .int x2)] := by rw [hz20]; exact lv_sub hl [0, 3, 4, 5, 6] rfl
        exact hI1 _ he H locs ls hP hD hS hl
      · have hf := kIfF c19 hf
        refine lv_iload_n hx hb dX1_zonesAtAngle_77 rfl (lv_at hl 3 rfl) ?_
        refine lv_iconst (v := (1 : Int32)) hx hb dX1_zonesAtAngle_78 (by decide) ?_
        refine lv_iload hx hb dX1_zonesAtAngle_79 (lv_at hl 2 rfl) ?_
        refine kishl hx hb dX1_zonesAtAngle_81 ?_
        refine lv_ior hx hb dX1_zonesAtAngle_82 ?_
        refine lv_istore_n (lv' := [(3, .int (t5.1 ||| (jshl (1 : Int32) t5.2))), (6, .int v15), (5, .int v13), (4, .int t5.2), (0, .ref a0), (1, .int x1), (2, .int x2)]) hx hb dX1_zonesAtAngle_83 rfl hl (by decide) rfl (fun ls hl => ?_)
        refine lv_iinc (v := t5.2 + (1 : Int32)) (lv' := [(4, .int (t5.2 + (1 : Int32))), (3, .int (t5.1 ||| (jshl (1 : Int32) t5.2))), (6, .int v15), (5, .int v13), (0, .ref a0), (1, .int x1), (2, .int x2)]) hx hb dX1_zonesAtAngle_84 hl (k := 3) rfl rfl (by decide) rfl (fun ls hl => ?_)
        refine lv_goto (tgt := 5) hx hb dX1_zonesAtAngle_87 (by decide) ?_
        obtain ⟨z21, hz21⟩ : ∃ z : Int32, z = t5.1 ||| (jshl (1 : Int32) t5.2) := ⟨_, rfl⟩
        rw [← hz21] at hf
        obtain ⟨z22, hz22⟩ : ∃ z : Int32, z = t5.2 + (1 : Int32) := ⟨_, rfl⟩
        rw [← hz22] at hf
        have he := (Option.some.inj hf).symm
        have hl : lv_has ls 7 [(4, .int z22), (3, .int z21), (0, .ref a0), (1, .int x1), (2, .int x2)] := by rw [hz21, hz22]; exact lv_sub hl [0, 1, 4, 5, 6] rfl
        exact hI1 _ he H locs ls hP hD hS hl
set_option maxHeartbeats 4000000 in
set_option maxRecDepth 100000 in
theorem kX1_isLeft (l : Launch) (D : va_G) (cI : ClassId) (a0 a1 : Nat) (R : (Nat → Int32)) (x1 : Int32) (o : Bool) (hf : fX1_isLeft R x1 = some o) : Ct l yX1_isLeft wsX1_isLeft { frames := 0, cells := 0, slots := 0, locals := 0 } D cI [.ref a0, .int x1] (wX1 cI a0 a1 R) (wX1 cI a0 a1 R) (some (.int (bI o))) := by
  refine Ct.of (cc := cX1_isLeft) (maxL := 2) (ret := (some .boolean)) (by decide) rfl (Nat.le_of_ble_eq_true rfl) ?_
  intro p e s m args below meth c A F hP hD hS ls hl
  obtain ⟨hx, hb, hml, hr, hown, hts, hlk, hK, hA⟩ := F
  have hown : s.vm.findClass RX1 = some m.cls := hown
  have hl : lv_has ls 2 [(0, .ref a0), (1, .int x1)] := hl
  have hinX1 : ∀ w ∈ wsX10, w ∈ wsX1_isLeft := by decide +kernel
  have hfl11 := hts (.fieldLink RX1 11 "CraneGuard$Site" "row" "[I") (by decide +kernel)
  unfold fX1_isLeft at hf
  refine lv_aload_n hx hb dX1_isLeft_0 rfl (lv_at hl 0 rfl) ?_
  refine va_get (D := D) (ci := 1) (v := .ref a1) (C := RX1) (T := TX1) (N := 1) hx hb hts hinX1 hown hK.1 hP 0 rfl rfl 0 (by decide) hfl11 (fun _ h9 => h9) rfl dX1_isLeft_1 ?_
  refine lv_bipush (v := (32 : Int32)) hx hb dX1_isLeft_4 (by decide) ?_
  refine lv_iload_n hx hb dX1_isLeft_6 rfl (lv_at hl 1 rfl) ?_
  refine lv_iadd hx hb dX1_isLeft_7 ?_
  obtain ⟨v1, h2, hf⟩ := kBind hf
  refine krd hx hb hK hP 1 rfl h2 dX1_isLeft_8 ?_
  refine lv_iconst (v := (1 : Int32)) hx hb dX1_isLeft_9 (by decide) ?_
  refine lv_icmp_ne (tgt := 17) hx hb dX1_isLeft_10 (by decide) (fun c3 => ?_) (fun c3 => ?_)
  · have hf := kIfF c3 hf
    refine lv_iconst (v := (0 : Int32)) hx hb dX1_isLeft_17 (by decide) ?_
    have he := Option.some.inj hf
    subst he
    exact kretz hx hb hr hlk hP hD hS dX1_isLeft_18
  · have hf := kIfT c3 hf
    refine lv_iconst (v := (1 : Int32)) hx hb dX1_isLeft_13 (by decide) ?_
    refine lv_goto (tgt := 18) hx hb dX1_isLeft_14 (by decide) ?_
    have he := Option.some.inj hf
    subst he
    exact kretz hx hb hr hlk hP hD hS dX1_isLeft_18
set_option maxHeartbeats 4000000 in
set_option maxRecDepth 100000 in
theorem kX1_zonesWithArc (l : Launch) (D : va_G) (cI : ClassId) (fu : Nat) (a0 a1 : Nat) (R : (Nat → Int32)) (x1 : Int32) (o : Int32) (hf : fX1_zonesWithArc fu R x1 = some o) : Ct l yX1_zonesWithArc wsX1_zonesWithArc { frames := 0, cells := 0, slots := 0, locals := 0 } D cI [.ref a0, .int x1] (wX1 cI a0 a1 R) (wX1 cI a0 a1 R) (some (.int o)) := by
  refine Ct.of (cc := cX1_zonesWithArc) (maxL := 4) (ret := (some .int)) (by decide) rfl (Nat.le_of_ble_eq_true rfl) ?_
  intro p e s m args below meth c A F hP hD hS ls hl
  obtain ⟨hx, hb, hml, hr, hown, hts, hlk, hK, hA⟩ := F
  have hown : s.vm.findClass RX1 = some m.cls := hown
  have hl : lv_has ls 4 [(0, .ref a0), (1, .int x1)] := hl
  have hinX1 : ∀ w ∈ wsX10, w ∈ wsX1_zonesWithArc := by decide +kernel
  have hfl11 := hts (.fieldLink RX1 11 "CraneGuard$Site" "row" "[I") (by decide +kernel)
  unfold fX1_zonesWithArc at hf
  refine lv_iconst (v := (0 : Int32)) hx hb dX1_zonesWithArc_0 (by decide) ?_
  refine lv_istore_n (lv' := [(2, .int (0 : Int32)), (0, .ref a0), (1, .int x1)]) hx hb dX1_zonesWithArc_1 rfl hl (by decide) rfl (fun ls hl => ?_)
  refine lv_iconst (v := (0 : Int32)) hx hb dX1_zonesWithArc_2 (by decide) ?_
  refine lv_istore_n (lv' := [(3, .int (0 : Int32)), (2, .int (0 : Int32)), (0, .ref a0), (1, .int x1)]) hx hb dX1_zonesWithArc_3 rfl hl (by decide) rfl (fun ls hl => ?_)
  have hl : lv_has ls 4 [(3, .int (0 : Int32)), (2, .int (0 : Int32)), (0, .ref a0), (1, .int x1)] := hl
  refine klp hf (fun t4 : Int32 × Int32 => (wX1 cI a0 a1 R)) 4 (fun t4 : Int32 × Int32 => [(3, .int t4.2), (2, .int t4.1), (0, .ref a0), (1, .int x1)]) ?_ hP hD hS hl
  intro t4 x4_ hf hI1 hO1 H locs ls hP hD hS hl
  unfold fX1_zonesWithArc_L4 at hf
  have hP : va_P D vwCl (wX1 cI a0 a1 R) H := hP
  have hD : va_D A (wX1 cI a0 a1 R) := hD
  have hl : lv_has ls 4 [(3, .int t4.2), (2, .int t4.1), (0, .ref a0), (1, .int x1)] := hl
  refine lv_iload_n hx hb dX1_zonesWithArc_4 rfl (lv_at hl 0 rfl) ?_
  refine lv_bipush (v := (6 : Int32)) hx hb dX1_zonesWithArc_5 (by decide) ?_
  refine lv_icmp_ge (tgt := 41) hx hb dX1_zonesWithArc_7 (by decide) (fun c8 => ?_) (fun c8 => ?_)
  · have hf := kIfT c8 hf
    refine lv_iload_n hx hb dX1_zonesWithArc_41 rfl (lv_at hl 1 rfl) ?_
    have he := Option.some.inj hf
    have he := hO1 _ he.symm
    subst he
    exact kreti hx hb hr hlk hP hD hS dX1_zonesWithArc_42
  · have hf := kIfF c8 hf
    refine lv_aload_n hx hb dX1_zonesWithArc_10 rfl (lv_at hl 2 rfl) ?_
    refine va_get (D := D) (ci := 1) (v := .ref a1) (C := RX1) (T := TX1) (N := 1) hx hb hts hinX1 hown hK.1 hP 0 rfl rfl 0 (by decide) hfl11 (fun _ h9 => h9) rfl dX1_zonesWithArc_11 ?_
    refine lv_bipush (v := (44 : Int32)) hx hb dX1_zonesWithArc_14 (by decide) ?_
    refine lv_iload_n hx hb dX1_zonesWithArc_16 rfl (lv_at hl 3 rfl) ?_
    refine lv_bipush (v := (6 : Int32)) hx hb dX1_zonesWithArc_17 (by decide) ?_
    refine lv_imul hx hb dX1_zonesWithArc_19 ?_
    refine lv_iadd hx hb dX1_zonesWithArc_20 ?_
    refine lv_iload_n hx hb dX1_zonesWithArc_21 rfl (lv_at hl 0 rfl) ?_
    refine lv_iadd hx hb dX1_zonesWithArc_22 ?_
    obtain ⟨v9, h10, hf⟩ := kBind hf
    refine krd hx hb hK hP 1 rfl h10 dX1_zonesWithArc_23 ?_
    refine lv_bipush (v := (-100 : Int32)) hx hb dX1_zonesWithArc_24 (by decide) ?_
    refine lv_icmp_eq (tgt := 35) hx hb dX1_zonesWithArc_26 (by decide) (fun c11 => ?_) (fun c11 => ?_)
    · have hf := kIfT c11 hf
      refine lv_iinc (v := t4.2 + (1 : Int32)) (lv' := [(3, .int (t4.2 + (1 : Int32))), (2, .int t4.1), (0, .ref a0), (1, .int x1)]) hx hb dX1_zonesWithArc_35 hl (k := 0) rfl rfl (by decide) rfl (fun ls hl => ?_)
      refine lv_goto (tgt := 4) hx hb dX1_zonesWithArc_38 (by decide) ?_
      obtain ⟨z12, hz12⟩ : ∃ z : Int32, z = t4.2 + (1 : Int32) := ⟨_, rfl⟩
      rw [← hz12] at hf
      have he := (Option.some.inj hf).symm
      have hl : lv_has ls 4 [(3, .int z12), (2, .int t4.1), (0, .ref a0), (1, .int x1)] := by rw [hz12]; exact lv_sub hl [0, 1, 2, 3] rfl
      exact hI1 _ he H locs ls hP hD hS hl
    · have hf := kIfF c11 hf
      refine lv_iload_n hx hb dX1_zonesWithArc_29 rfl (lv_at hl 1 rfl) ?_
      refine lv_iconst (v := (1 : Int32)) hx hb dX1_zonesWithArc_30 (by decide) ?_
      refine lv_iload_n hx hb dX1_zonesWithArc_31 rfl (lv_at hl 0 rfl) ?_
      refine kishl hx hb dX1_zonesWithArc_32 ?_
      refine lv_ior hx hb dX1_zonesWithArc_33 ?_
      refine lv_istore_n (lv' := [(2, .int (t4.1 ||| (jshl (1 : Int32) t4.2))), (3, .int t4.2), (0, .ref a0), (1, .int x1)]) hx hb dX1_zonesWithArc_34 rfl hl (by decide) rfl (fun ls hl => ?_)
      refine lv_iinc (v := t4.2 + (1 : Int32)) (lv' := [(3, .int (t4.2 + (1 : Int32))), (2, .int (t4.1 ||| (jshl (1 : Int32) t4.2))), (0, .ref a0), (1, .int x1)]) hx hb dX1_zonesWithArc_35 hl (k := 1) rfl rfl (by decide) rfl (fun ls hl => ?_)
      refine lv_goto (tgt := 4) hx hb dX1_zonesWithArc_38 (by decide) ?_
      obtain ⟨z13, hz13⟩ : ∃ z : Int32, z = t4.1 ||| (jshl (1 : Int32) t4.2) := ⟨_, rfl⟩
      rw [← hz13] at hf
      obtain ⟨z14, hz14⟩ : ∃ z : Int32, z = t4.2 + (1 : Int32) := ⟨_, rfl⟩
      rw [← hz14] at hf
      have he := (Option.some.inj hf).symm
      have hl : lv_has ls 4 [(3, .int z14), (2, .int z13), (0, .ref a0), (1, .int x1)] := by rw [hz13, hz14]; exact lv_sub hl [0, 1, 2, 3] rfl
      exact hI1 _ he H locs ls hP hD hS hl
set_option maxHeartbeats 4000000 in
set_option maxRecDepth 100000 in
theorem kX1_zonesOccupiedBy (l : Launch) (D : va_G) (cI : ClassId) (fu : Nat) (a0 a1 : Nat) (R : (Nat → Int32)) (x1 : Int32) (o : Int32) (hf : fX1_zonesOccupiedBy fu R x1 = some o) : Ct l yX1_zonesOccupiedBy wsX1_zonesOccupiedBy { frames := 1, cells := 0, slots := 0, locals := 26 } D cI [.ref a0, .int x1] (wX1 cI a0 a1 R) (wX1 cI a0 a1 R) (some (.int o)) := by
  refine Ct.of (cc := cX1_zonesOccupiedBy) (maxL := 3) (ret := (some .int)) (by decide) rfl (Nat.le_of_ble_eq_true rfl) ?_
  intro p e s m args below meth c A F hP hD hS ls hl
  obtain ⟨hx, hb, hml, hr, hown, hts, hlk, hK, hA⟩ := F
  have hown : s.vm.findClass RX1 = some m.cls := hown
  have hl : lv_has ls 3 [(0, .ref a0), (1, .int x1)] := hl
  have hinX1 : ∀ w ∈ wsX10, w ∈ wsX1_zonesOccupiedBy := by decide +kernel
  have hfl11 := hts (.fieldLink RX1 11 "CraneGuard$Site" "row" "[I") (by decide +kernel)
  unfold fX1_zonesOccupiedBy at hf
  refine lv_aload_n hx hb dX1_zonesOccupiedBy_0 rfl (lv_at hl 0 rfl) ?_
  refine lv_iload_n hx hb dX1_zonesOccupiedBy_1 rfl (lv_at hl 1 rfl) ?_
  obtain ⟨v1, h2, hf⟩ := kBind hf
  refine kgoR (krunV (wc := (wX1 cI a0 a1 R)) (As := [.int x1]) (rest := []) (ci := 1) hx hb hml hown hts hK (kX1_isLeft l D cI a0 a1 R x1 v1 h2) gX1_zonesOccupiedBy_X1_isLeft rfl rfl rfl hdX1_isLeft ⟨Nat.le_of_ble_eq_true rfl, Nat.le_of_ble_eq_true rfl⟩ hP hD rfl rfl rfl rfl hl.1 rfl (Nat.le_of_ble_eq_true rfl) dX1_zonesOccupiedBy_2 ⟨Nat.zero_le _, Nat.zero_le _⟩) hP hD hS hA [0, 1] rfl (fun H locs hP hS => ?_)
  refine kif_eqb (tgt := 14) hx hb dX1_zonesOccupiedBy_5 (by decide) (fun c3 => ?_) (fun c3 => ?_)
  · have hf := kIfF c3 hf
    refine lv_aload_n hx hb dX1_zonesOccupiedBy_14 rfl (lv_at hl 0 rfl) ?_
    refine lv_iload_n hx hb dX1_zonesOccupiedBy_15 rfl (lv_at hl 1 rfl) ?_
    refine lv_aload_n hx hb dX1_zonesOccupiedBy_16 rfl (lv_at hl 0 rfl) ?_
    refine va_get (D := D) (ci := 1) (v := .ref a1) (C := RX1) (T := TX1) (N := 1) hx hb hts hinX1 hown hK.1 hP 0 rfl rfl 0 (by decide) hfl11 (fun _ h9 => h9) rfl dX1_zonesOccupiedBy_17 ?_
    refine lv_iconst (v := (4 : Int32)) hx hb dX1_zonesOccupiedBy_20 (by decide) ?_
    refine lv_iload_n hx hb dX1_zonesOccupiedBy_21 rfl (lv_at hl 1 rfl) ?_
    refine lv_iadd hx hb dX1_zonesOccupiedBy_22 ?_
    obtain ⟨v4, h5, hf⟩ := kBind hf
    refine krd hx hb hK hP 1 rfl h5 dX1_zonesOccupiedBy_23 ?_
    obtain ⟨v6, h7, hf⟩ := kBind hf
    refine kgoR (krunV (wc := (wX1 cI a0 a1 R)) (As := [.int x1, .int v4]) (rest := []) (ci := 1) hx hb hml hown hts hK (kX1_zonesAtAngle l D cI fu a0 a1 R x1 v4 v6 h7) gX1_zonesOccupiedBy_X1_zonesAtAngle rfl rfl rfl hdX1_zonesAtAngle ⟨Nat.le_of_ble_eq_true rfl, Nat.le_of_ble_eq_true rfl⟩ hP hD rfl rfl rfl rfl hl.1 rfl (Nat.le_of_ble_eq_true rfl) dX1_zonesOccupiedBy_24 ⟨Nat.zero_le _, Nat.zero_le _⟩) hP hD hS hA [0, 1] rfl (fun H locs hP hS => ?_)
    refine lv_istore_n (lv' := [(2, .int v6), (0, .ref a0), (1, .int x1)]) hx hb dX1_zonesOccupiedBy_27 rfl hl (by decide) rfl (fun ls hl => ?_)
    refine lv_aload_n hx hb dX1_zonesOccupiedBy_28 rfl (lv_at hl 1 rfl) ?_
    refine lv_iload_n hx hb dX1_zonesOccupiedBy_29 rfl (lv_at hl 2 rfl) ?_
    obtain ⟨v8, h9, hf⟩ := kBind hf
    refine kgoR (krunV (wc := (wX1 cI a0 a1 R)) (As := [.int x1]) (rest := []) (ci := 1) hx hb hml hown hts hK (kX1_isOnStep l D cI a0 a1 R x1 v8 h9) gX1_zonesOccupiedBy_X1_isOnStep rfl rfl rfl hdX1_isOnStep ⟨Nat.le_of_ble_eq_true rfl, Nat.le_of_ble_eq_true rfl⟩ hP hD rfl rfl rfl rfl hl.1 rfl (Nat.le_of_ble_eq_true rfl) dX1_zonesOccupiedBy_30 ⟨Nat.zero_le _, Nat.zero_le _⟩) hP hD hS hA [0, 1] rfl (fun H locs hP hS => ?_)
    refine kif_eqb (tgt := 51) hx hb dX1_zonesOccupiedBy_33 (by decide) (fun c10 => ?_) (fun c10 => ?_)
    · have hf := kIfF c10 hf
      refine lv_iload_n hx hb dX1_zonesOccupiedBy_51 rfl (lv_at hl 0 rfl) ?_
      have he := Option.some.inj hf
      subst he
      exact kreti hx hb hr hlk hP hD hS dX1_zonesOccupiedBy_52
    · have hf := kIfT c10 hf
      refine lv_iload_n hx hb dX1_zonesOccupiedBy_36 rfl (lv_at hl 0 rfl) ?_
      refine lv_aload_n hx hb dX1_zonesOccupiedBy_37 rfl (lv_at hl 1 rfl) ?_
      refine lv_iload_n hx hb dX1_zonesOccupiedBy_38 rfl (lv_at hl 2 rfl) ?_
      refine lv_aload_n hx hb dX1_zonesOccupiedBy_39 rfl (lv_at hl 1 rfl) ?_
      refine lv_iload_n hx hb dX1_zonesOccupiedBy_40 rfl (lv_at hl 2 rfl) ?_
      obtain ⟨v11, h12, hf⟩ := kBind hf
      refine kgoR (krunV (wc := (wX1 cI a0 a1 R)) (As := [.int x1]) (rest := [.int x1, .ref a0, .int v6]) (ci := 1) hx hb hml hown hts hK (kX1_nextAngle l D cI a0 a1 R x1 v11 h12) gX1_zonesOccupiedBy_X1_nextAngle rfl rfl rfl hdX1_nextAngle ⟨Nat.le_of_ble_eq_true rfl, Nat.le_of_ble_eq_true rfl⟩ hP hD rfl rfl rfl rfl hl.1 rfl (Nat.le_of_ble_eq_true rfl) dX1_zonesOccupiedBy_41 ⟨Nat.zero_le _, Nat.zero_le _⟩) hP hD hS hA [0, 1] rfl (fun H locs hP hS => ?_)
      obtain ⟨v13, h14, hf⟩ := kBind hf
      refine kgoR (krunV (wc := (wX1 cI a0 a1 R)) (As := [.int x1, .int v11]) (rest := [.int v6]) (ci := 1) hx hb hml hown hts hK (kX1_zonesAtAngle l D cI fu a0 a1 R x1 v11 v13 h14) gX1_zonesOccupiedBy_X1_zonesAtAngle rfl rfl rfl hdX1_zonesAtAngle ⟨Nat.le_of_ble_eq_true rfl, Nat.le_of_ble_eq_true rfl⟩ hP hD rfl rfl rfl rfl hl.1 rfl (Nat.le_of_ble_eq_true rfl) dX1_zonesOccupiedBy_44 ⟨Nat.zero_le _, Nat.zero_le _⟩) hP hD hS hA [0, 1] rfl (fun H locs hP hS => ?_)
      refine lv_ior hx hb dX1_zonesOccupiedBy_47 ?_
      refine lv_goto (tgt := 52) hx hb dX1_zonesOccupiedBy_48 (by decide) ?_
      obtain ⟨z15, hz15⟩ : ∃ z : Int32, z = v6 ||| v13 := ⟨_, rfl⟩
      rw [← hz15] at hf
      rw [← hz15]
      have he := Option.some.inj hf
      subst he
      exact kreti hx hb hr hlk hP hD hS dX1_zonesOccupiedBy_52
  · have hf := kIfT c3 hf
    refine lv_aload_n hx hb dX1_zonesOccupiedBy_8 rfl (lv_at hl 0 rfl) ?_
    refine lv_iload_n hx hb dX1_zonesOccupiedBy_9 rfl (lv_at hl 1 rfl) ?_
    obtain ⟨v16, h17, hf⟩ := kBind hf
    refine kgoR (krunV (wc := (wX1 cI a0 a1 R)) (As := [.int x1]) (rest := []) (ci := 1) hx hb hml hown hts hK (kX1_zonesWithArc l D cI fu a0 a1 R x1 v16 h17) gX1_zonesOccupiedBy_X1_zonesWithArc rfl rfl rfl hdX1_zonesWithArc ⟨Nat.le_of_ble_eq_true rfl, Nat.le_of_ble_eq_true rfl⟩ hP hD rfl rfl rfl rfl hl.1 rfl (Nat.le_of_ble_eq_true rfl) dX1_zonesOccupiedBy_10 ⟨Nat.zero_le _, Nat.zero_le _⟩) hP hD hS hA [0, 1] rfl (fun H locs hP hS => ?_)
    have he := Option.some.inj hf
    subst he
    exact kreti hx hb hr hlk hP hD hS dX1_zonesOccupiedBy_13
set_option maxHeartbeats 4000000 in
set_option maxRecDepth 100000 in
theorem kX1_blockerOf (l : Launch) (D : va_G) (cI : ClassId) (fu : Nat) (a0 a1 : Nat) (R : (Nat → Int32)) (x1 : Int32) (o : Int32) (hf : fX1_blockerOf fu R x1 = some o) : Ct l yX1_blockerOf wsX1_blockerOf { frames := 2, cells := 0, slots := 0, locals := 48 } D cI [.ref a0, .int x1] (wX1 cI a0 a1 R) (wX1 cI a0 a1 R) (some (.int o)) := by
  refine Ct.of (cc := cX1_blockerOf) (maxL := 4) (ret := (some .int)) (by decide) rfl (Nat.le_of_ble_eq_true rfl) ?_
  intro p e s m args below meth c A F hP hD hS ls hl
  obtain ⟨hx, hb, hml, hr, hown, hts, hlk, hK, hA⟩ := F
  have hown : s.vm.findClass RX1 = some m.cls := hown
  have hl : lv_has ls 4 [(0, .ref a0), (1, .int x1)] := hl
  have hinX1 : ∀ w ∈ wsX10, w ∈ wsX1_blockerOf := by decide +kernel
  have hfl11 := hts (.fieldLink RX1 11 "CraneGuard$Site" "row" "[I") (by decide +kernel)
  unfold fX1_blockerOf at hf
  refine lv_aload_n hx hb dX1_blockerOf_0 rfl (lv_at hl 0 rfl) ?_
  refine lv_iload_n hx hb dX1_blockerOf_1 rfl (lv_at hl 1 rfl) ?_
  obtain ⟨v1, h2, hf⟩ := kBind hf
  refine kgoR (krunV (wc := (wX1 cI a0 a1 R)) (As := [.int x1]) (rest := []) (ci := 1) hx hb hml hown hts hK (kX1_hasTarget l D cI a0 a1 R x1 v1 h2) gX1_blockerOf_X1_hasTarget rfl rfl rfl hdX1_hasTarget ⟨Nat.le_of_ble_eq_true rfl, Nat.le_of_ble_eq_true rfl⟩ hP hD rfl rfl rfl rfl hl.1 rfl (Nat.le_of_ble_eq_true rfl) dX1_blockerOf_2 ⟨Nat.zero_le _, Nat.zero_le _⟩) hP hD hS hA [0, 1] rfl (fun H locs hP hS => ?_)
  refine kif_eqb (tgt := 16) hx hb dX1_blockerOf_5 (by decide) (fun c3 => ?_) (fun c3 => ?_)
  · have hf := kIfF c3 hf
    refine lv_bipush (v := (-100 : Int32)) hx hb dX1_blockerOf_16 (by decide) ?_
    have he := Option.some.inj hf
    subst he
    exact kreti hx hb hr hlk hP hD hS dX1_blockerOf_18
  · have hf := kIfT c3 hf
    refine lv_aload_n hx hb dX1_blockerOf_8 rfl (lv_at hl 0 rfl) ?_
    refine lv_iload_n hx hb dX1_blockerOf_9 rfl (lv_at hl 1 rfl) ?_
    obtain ⟨v4, h5, hf⟩ := kBind hf
    refine kgoR (krunV (wc := (wX1 cI a0 a1 R)) (As := [.int x1]) (rest := []) (ci := 1) hx hb hml hown hts hK (kX1_isOnStep l D cI a0 a1 R x1 v4 h5) gX1_blockerOf_X1_isOnStep rfl rfl rfl hdX1_isOnStep ⟨Nat.le_of_ble_eq_true rfl, Nat.le_of_ble_eq_true rfl⟩ hP hD rfl rfl rfl rfl hl.1 rfl (Nat.le_of_ble_eq_true rfl) dX1_blockerOf_10 ⟨Nat.zero_le _, Nat.zero_le _⟩) hP hD hS hA [0, 1] rfl (fun H locs hP hS => ?_)
    refine kif_eqb (tgt := 19) hx hb dX1_blockerOf_13 (by decide) (fun c6 => ?_) (fun c6 => ?_)
    · have hf := kIfF c6 hf
      refine lv_aload_n hx hb dX1_blockerOf_19 rfl (lv_at hl 0 rfl) ?_
      refine lv_iload_n hx hb dX1_blockerOf_20 rfl (lv_at hl 1 rfl) ?_
      refine lv_aload_n hx hb dX1_blockerOf_21 rfl (lv_at hl 0 rfl) ?_
      refine lv_iload_n hx hb dX1_blockerOf_22 rfl (lv_at hl 1 rfl) ?_
      obtain ⟨v7, h8, hf⟩ := kBind hf
      refine kgoR (krunV (wc := (wX1 cI a0 a1 R)) (As := [.int x1]) (rest := [.int x1, .ref a0]) (ci := 1) hx hb hml hown hts hK (kX1_nextAngle l D cI a0 a1 R x1 v7 h8) gX1_blockerOf_X1_nextAngle rfl rfl rfl hdX1_nextAngle ⟨Nat.le_of_ble_eq_true rfl, Nat.le_of_ble_eq_true rfl⟩ hP hD rfl rfl rfl rfl hl.1 rfl (Nat.le_of_ble_eq_true rfl) dX1_blockerOf_23 ⟨Nat.zero_le _, Nat.zero_le _⟩) hP hD hS hA [0, 1] rfl (fun H locs hP hS => ?_)
      obtain ⟨v9, h10, hf⟩ := kBind hf
      refine kgoR (krunV (wc := (wX1 cI a0 a1 R)) (As := [.int x1, .int v7]) (rest := []) (ci := 1) hx hb hml hown hts hK (kX1_zonesAtAngle l D cI fu a0 a1 R x1 v7 v9 h10) gX1_blockerOf_X1_zonesAtAngle rfl rfl rfl hdX1_zonesAtAngle ⟨Nat.le_of_ble_eq_true rfl, Nat.le_of_ble_eq_true rfl⟩ hP hD rfl rfl rfl rfl hl.1 rfl (Nat.le_of_ble_eq_true rfl) dX1_blockerOf_26 ⟨Nat.zero_le _, Nat.zero_le _⟩) hP hD hS hA [0, 1] rfl (fun H locs hP hS => ?_)
      refine lv_istore_n (lv' := [(2, .int v9), (0, .ref a0), (1, .int x1)]) hx hb dX1_blockerOf_29 rfl hl (by decide) rfl (fun ls hl => ?_)
      refine lv_iconst (v := (0 : Int32)) hx hb dX1_blockerOf_30 (by decide) ?_
      refine lv_istore_n (lv' := [(3, .int (0 : Int32)), (2, .int v9), (0, .ref a0), (1, .int x1)]) hx hb dX1_blockerOf_31 rfl hl (by decide) rfl (fun ls hl => ?_)
      have hl : lv_has ls 4 [(3, .int (0 : Int32)), (2, .int v9), (0, .ref a0), (1, .int x1)] := hl
      refine klp hf (fun t32 : Int32 => (wX1 cI a0 a1 R)) 4 (fun t32 : Int32 => [(3, .int t32), (2, .int v9), (0, .ref a0), (1, .int x1)]) ?_ hP hD hS hl
      intro t32 x32_ hf hI1 hO1 H locs ls hP hD hS hl
      unfold fX1_blockerOf_L32 at hf
      have hP : va_P D vwCl (wX1 cI a0 a1 R) H := hP
      have hD : va_D A (wX1 cI a0 a1 R) := hD
      have hl : lv_has ls 4 [(3, .int t32), (2, .int v9), (0, .ref a0), (1, .int x1)] := hl
      refine lv_iload_n hx hb dX1_blockerOf_32 rfl (lv_at hl 0 rfl) ?_
      refine lv_aload_n hx hb dX1_blockerOf_33 rfl (lv_at hl 2 rfl) ?_
      refine va_get (D := D) (ci := 1) (v := .ref a1) (C := RX1) (T := TX1) (N := 1) hx hb hts hinX1 hown hK.1 hP 0 rfl rfl 0 (by decide) hfl11 (fun _ h9 => h9) rfl dX1_blockerOf_34 ?_
      refine lv_iconst (v := (2 : Int32)) hx hb dX1_blockerOf_37 (by decide) ?_
      obtain ⟨v20, h21, hf⟩ := kBind hf
      refine krd hx hb hK hP 1 rfl h21 dX1_blockerOf_38 ?_
      refine lv_icmp_ge (tgt := 65) hx hb dX1_blockerOf_39 (by decide) (fun c22 => ?_) (fun c22 => ?_)
      · have hf := kIfT c22 hf
        refine lv_bipush (v := (-100 : Int32)) hx hb dX1_blockerOf_65 (by decide) ?_
        have he := Option.some.inj hf
        have he := hO1 _ he.symm
        subst he
        exact kreti hx hb hr hlk hP hD hS dX1_blockerOf_67
      · have hf := kIfF c22 hf
        refine lv_iload_n hx hb dX1_blockerOf_42 rfl (lv_at hl 0 rfl) ?_
        refine lv_iload_n hx hb dX1_blockerOf_43 rfl (lv_at hl 3 rfl) ?_
        refine lv_icmp_eq (tgt := 59) hx hb dX1_blockerOf_44 (by decide) (fun c23 => ?_) (fun c23 => ?_)
        · have hf := kIfT c23 hf
          refine lv_iinc (v := t32 + (1 : Int32)) (lv' := [(3, .int (t32 + (1 : Int32))), (2, .int v9), (0, .ref a0), (1, .int x1)]) hx hb dX1_blockerOf_59 hl (k := 0) rfl rfl (by decide) rfl (fun ls hl => ?_)
          refine lv_goto (tgt := 32) hx hb dX1_blockerOf_62 (by decide) ?_
          obtain ⟨z24, hz24⟩ : ∃ z : Int32, z = t32 + (1 : Int32) := ⟨_, rfl⟩
          rw [← hz24] at hf
          have he := (Option.some.inj hf).symm
          have hl : lv_has ls 4 [(3, .int z24), (2, .int v9), (0, .ref a0), (1, .int x1)] := by rw [hz24]; exact lv_sub hl [0, 1, 2, 3] rfl
          exact hI1 _ he H locs ls hP hD hS hl
        · have hf := kIfF c23 hf
          refine lv_aload_n hx hb dX1_blockerOf_47 rfl (lv_at hl 2 rfl) ?_
          refine lv_iload_n hx hb dX1_blockerOf_48 rfl (lv_at hl 0 rfl) ?_
          obtain ⟨v25, h26, hf⟩ := kBind hf
          refine kgoR (krunV (wc := (wX1 cI a0 a1 R)) (As := [.int t32]) (rest := []) (ci := 1) hx hb hml hown hts hK (kX1_zonesOccupiedBy l D cI fu a0 a1 R t32 v25 h26) gX1_blockerOf_X1_zonesOccupiedBy rfl rfl rfl hdX1_zonesOccupiedBy ⟨Nat.le_of_ble_eq_true rfl, Nat.le_of_ble_eq_true rfl⟩ hP hD rfl rfl rfl rfl hl.1 rfl (Nat.le_of_ble_eq_true rfl) dX1_blockerOf_49 ⟨Nat.zero_le _, Nat.zero_le _⟩) hP hD hS hA [0, 1] rfl (fun H locs hP hS => ?_)
          refine lv_iload_n hx hb dX1_blockerOf_52 rfl (lv_at hl 1 rfl) ?_
          refine lv_iand hx hb dX1_blockerOf_53 ?_
          refine lv_if_eq (tgt := 59) hx hb dX1_blockerOf_54 (by decide) (fun c27 => ?_) (fun c27 => ?_)
          · have hf := kIfT c27 hf
            refine lv_iinc (v := t32 + (1 : Int32)) (lv' := [(3, .int (t32 + (1 : Int32))), (2, .int v9), (0, .ref a0), (1, .int x1)]) hx hb dX1_blockerOf_59 hl (k := 0) rfl rfl (by decide) rfl (fun ls hl => ?_)
            refine lv_goto (tgt := 32) hx hb dX1_blockerOf_62 (by decide) ?_
            obtain ⟨z28, hz28⟩ : ∃ z : Int32, z = t32 + (1 : Int32) := ⟨_, rfl⟩
            rw [← hz28] at hf
            have he := (Option.some.inj hf).symm
            have hl : lv_has ls 4 [(3, .int z28), (2, .int v9), (0, .ref a0), (1, .int x1)] := by rw [hz28]; exact lv_sub hl [0, 1, 2, 3] rfl
            exact hI1 _ he H locs ls hP hD hS hl
          · have hf := kIfF c27 hf
            refine lv_iload_n hx hb dX1_blockerOf_57 rfl (lv_at hl 0 rfl) ?_
            have he := Option.some.inj hf
            have he := hO1 _ he.symm
            subst he
            exact kreti hx hb hr hlk hP hD hS dX1_blockerOf_58
    · have hf := kIfT c6 hf
      refine lv_bipush (v := (-100 : Int32)) hx hb dX1_blockerOf_16 (by decide) ?_
      have he := Option.some.inj hf
      subst he
      exact kreti hx hb hr hlk hP hD hS dX1_blockerOf_18
