set_option maxHeartbeats 4000000 in
set_option maxRecDepth 100000 in
theorem kJ6_bitCount_0f7a4 (l : Launch) (D : va_G) (cI : ClassId) (x0 : Int32) (o : Int32) (hf : fJ6_bitCount_0f7a4 x0 = some o) : Ct l yJ6_bitCount_0f7a4 wsJ6_bitCount_0f7a4 { frames := 0, cells := 0, slots := 0, locals := 0 } D cI [.int x0] ([] : va_W) ([] : va_W) (some (.int o)) := by
  refine Ct.of (cc := cJ6_bitCount_0f7a4) (maxL := 1) (ret := (some .int)) (by decide) rfl (Nat.le_of_ble_eq_true rfl) ?_
  intro p e s m args below meth c A F hP hD hS ls hl
  obtain ⟨hx, hb, hml, hr, hown, hts, hlk, hK, hA⟩ := F
  have hown : s.vm.findClass RJ6 = some m.cls := hown
  have hl : lv_has ls 1 [(0, .int x0)] := hl
  unfold fJ6_bitCount_0f7a4 at hf
  refine lv_iload_n hx hb dJ6_bitCount_0f7a4_0 rfl (lv_at hl 0 rfl) ?_
  refine lv_iload_n hx hb dJ6_bitCount_0f7a4_1 rfl (lv_at hl 0 rfl) ?_
  refine lv_iconst (v := (1 : Int32)) hx hb dJ6_bitCount_0f7a4_2 (by decide) ?_
  refine kiushr hx hb dJ6_bitCount_0f7a4_3 ?_
  refine lv_ldcw (v := (1431655765 : Int32)) hx hb hown (hts (.constant RJ6 265 (1431655765)) (by decide +kernel)) dJ6_bitCount_0f7a4_4 ?_
  refine lv_iand hx hb dJ6_bitCount_0f7a4_7 ?_
  refine lv_isub hx hb dJ6_bitCount_0f7a4_8 ?_
  refine lv_istore_n (lv' := [(0, .int (x0 - ((jushr x0 (1 : Int32)) &&& (1431655765 : Int32))))]) hx hb dJ6_bitCount_0f7a4_9 rfl hl (by decide) rfl (fun ls hl => ?_)
  refine lv_iload_n hx hb dJ6_bitCount_0f7a4_10 rfl (lv_at hl 0 rfl) ?_
  refine lv_ldcw (v := (858993459 : Int32)) hx hb hown (hts (.constant RJ6 266 (858993459)) (by decide +kernel)) dJ6_bitCount_0f7a4_11 ?_
  refine lv_iand hx hb dJ6_bitCount_0f7a4_14 ?_
  refine lv_iload_n hx hb dJ6_bitCount_0f7a4_15 rfl (lv_at hl 0 rfl) ?_
  refine lv_iconst (v := (2 : Int32)) hx hb dJ6_bitCount_0f7a4_16 (by decide) ?_
  refine kiushr hx hb dJ6_bitCount_0f7a4_17 ?_
  refine lv_ldcw (v := (858993459 : Int32)) hx hb hown (hts (.constant RJ6 266 (858993459)) (by decide +kernel)) dJ6_bitCount_0f7a4_18 ?_
  refine lv_iand hx hb dJ6_bitCount_0f7a4_21 ?_
  refine lv_iadd hx hb dJ6_bitCount_0f7a4_22 ?_
  refine lv_istore_n (lv' := [(0, .int (((x0 - ((jushr x0 (1 : Int32)) &&& (1431655765 : Int32))) &&& (858993459 : Int32)) + ((jushr (x0 - ((jushr x0 (1 : Int32)) &&& (1431655765 : Int32))) (2 : Int32)) &&& (858993459 : Int32))))]) hx hb dJ6_bitCount_0f7a4_23 rfl hl (by decide) rfl (fun ls hl => ?_)
  refine lv_iload_n hx hb dJ6_bitCount_0f7a4_24 rfl (lv_at hl 0 rfl) ?_
  refine lv_iload_n hx hb dJ6_bitCount_0f7a4_25 rfl (lv_at hl 0 rfl) ?_
  refine lv_iconst (v := (4 : Int32)) hx hb dJ6_bitCount_0f7a4_26 (by decide) ?_
  refine kiushr hx hb dJ6_bitCount_0f7a4_27 ?_
  refine lv_iadd hx hb dJ6_bitCount_0f7a4_28 ?_
  refine lv_ldcw (v := (252645135 : Int32)) hx hb hown (hts (.constant RJ6 267 (252645135)) (by decide +kernel)) dJ6_bitCount_0f7a4_29 ?_
  refine lv_iand hx hb dJ6_bitCount_0f7a4_32 ?_
  refine lv_istore_n (lv' := [(0, .int (((((x0 - ((jushr x0 (1 : Int32)) &&& (1431655765 : Int32))) &&& (858993459 : Int32)) + ((jushr (x0 - ((jushr x0 (1 : Int32)) &&& (1431655765 : Int32))) (2 : Int32)) &&& (858993459 : Int32))) + (jushr (((x0 - ((jushr x0 (1 : Int32)) &&& (1431655765 : Int32))) &&& (858993459 : Int32)) + ((jushr (x0 - ((jushr x0 (1 : Int32)) &&& (1431655765 : Int32))) (2 : Int32)) &&& (858993459 : Int32))) (4 : Int32))) &&& (252645135 : Int32)))]) hx hb dJ6_bitCount_0f7a4_33 rfl hl (by decide) rfl (fun ls hl => ?_)
  refine lv_iload_n hx hb dJ6_bitCount_0f7a4_34 rfl (lv_at hl 0 rfl) ?_
  refine lv_iload_n hx hb dJ6_bitCount_0f7a4_35 rfl (lv_at hl 0 rfl) ?_
  refine lv_bipush (v := (8 : Int32)) hx hb dJ6_bitCount_0f7a4_36 (by decide) ?_
  refine kiushr hx hb dJ6_bitCount_0f7a4_38 ?_
  refine lv_iadd hx hb dJ6_bitCount_0f7a4_39 ?_
  refine lv_istore_n (lv' := [(0, .int ((((((x0 - ((jushr x0 (1 : Int32)) &&& (1431655765 : Int32))) &&& (858993459 : Int32)) + ((jushr (x0 - ((jushr x0 (1 : Int32)) &&& (1431655765 : Int32))) (2 : Int32)) &&& (858993459 : Int32))) + (jushr (((x0 - ((jushr x0 (1 : Int32)) &&& (1431655765 : Int32))) &&& (858993459 : Int32)) + ((jushr (x0 - ((jushr x0 (1 : Int32)) &&& (1431655765 : Int32))) (2 : Int32)) &&& (858993459 : Int32))) (4 : Int32))) &&& (252645135 : Int32)) + (jushr (((((x0 - ((jushr x0 (1 : Int32)) &&& (1431655765 : Int32))) &&& (858993459 : Int32)) + ((jushr (x0 - ((jushr x0 (1 : Int32)) &&& (1431655765 : Int32))) (2 : Int32)) &&& (858993459 : Int32))) + (jushr (((x0 - ((jushr x0 (1 : Int32)) &&& (1431655765 : Int32))) &&& (858993459 : Int32)) + ((jushr (x0 - ((jushr x0 (1 : Int32)) &&& (1431655765 : Int32))) (2 : Int32)) &&& (858993459 : Int32))) (4 : Int32))) &&& (252645135 : Int32)) (8 : Int32))))]) hx hb dJ6_bitCount_0f7a4_40 rfl hl (by decide) rfl (fun ls hl => ?_)
  refine lv_iload_n hx hb dJ6_bitCount_0f7a4_41 rfl (lv_at hl 0 rfl) ?_
  refine lv_iload_n hx hb dJ6_bitCount_0f7a4_42 rfl (lv_at hl 0 rfl) ?_
  refine lv_bipush (v := (16 : Int32)) hx hb dJ6_bitCount_0f7a4_43 (by decide) ?_
  refine kiushr hx hb dJ6_bitCount_0f7a4_45 ?_
  refine lv_iadd hx hb dJ6_bitCount_0f7a4_46 ?_
  refine lv_istore_n (lv' := [(0, .int (((((((x0 - ((jushr x0 (1 : Int32)) &&& (1431655765 : Int32))) &&& (858993459 : Int32)) + ((jushr (x0 - ((jushr x0 (1 : Int32)) &&& (1431655765 : Int32))) (2 : Int32)) &&& (858993459 : Int32))) + (jushr (((x0 - ((jushr x0 (1 : Int32)) &&& (1431655765 : Int32))) &&& (858993459 : Int32)) + ((jushr (x0 - ((jushr x0 (1 : Int32)) &&& (1431655765 : Int32))) (2 : Int32)) &&& (858993459 : Int32))) (4 : Int32))) &&& (252645135 : Int32)) + (jushr (((((x0 - ((jushr x0 (1 : Int32)) &&& (1431655765 : Int32))) &&& (858993459 : Int32)) + ((jushr (x0 - ((jushr x0 (1 : Int32)) &&& (1431655765 : Int32))) (2 : Int32)) &&& (858993459 : Int32))) + (jushr (((x0 - ((jushr x0 (1 : Int32)) &&& (1431655765 : Int32))) &&& (858993459 : Int32)) + ((jushr (x0 - ((jushr x0 (1 : Int32)) &&& (1431655765 : Int32))) (2 : Int32)) &&& (858993459 : Int32))) (4 : Int32))) &&& (252645135 : Int32)) (8 : Int32))) + (jushr ((((((x0 - ((jushr x0 (1 : Int32)) &&& (1431655765 : Int32))) &&& (858993459 : Int32)) + ((jushr (x0 - ((jushr x0 (1 : Int32)) &&& (1431655765 : Int32))) (2 : Int32)) &&& (858993459 : Int32))) + (jushr (((x0 - ((jushr x0 (1 : Int32)) &&& (1431655765 : Int32))) &&& (858993459 : Int32)) + ((jushr (x0 - ((jushr x0 (1 : Int32)) &&& (1431655765 : Int32))) (2 : Int32)) &&& (858993459 : Int32))) (4 : Int32))) &&& (252645135 : Int32)) + (jushr (((((x0 - ((jushr x0 (1 : Int32)) &&& (1431655765 : Int32))) &&& (858993459 : Int32)) + ((jushr (x0 - ((jushr x0 (1 : Int32)) &&& (1431655765 : Int32))) (2 : Int32)) &&& (858993459 : Int32))) + (jushr (((x0 - ((jushr x0 (1 : Int32)) &&& (1431655765 : Int32))) &&& (858993459 : Int32)) + ((jushr (x0 - ((jushr x0 (1 : Int32)) &&& (1431655765 : Int32))) (2 : Int32)) &&& (858993459 : Int32))) (4 : Int32))) &&& (252645135 : Int32)) (8 : Int32))) (16 : Int32))))]) hx hb dJ6_bitCount_0f7a4_47 rfl hl (by decide) rfl (fun ls hl => ?_)
  refine lv_iload_n hx hb dJ6_bitCount_0f7a4_48 rfl (lv_at hl 0 rfl) ?_
  refine lv_bipush (v := (63 : Int32)) hx hb dJ6_bitCount_0f7a4_49 (by decide) ?_
  refine lv_iand hx hb dJ6_bitCount_0f7a4_51 ?_
  obtain ⟨z2, hz2⟩ : ∃ z : Int32, z = (((((((x0 - ((jushr x0 (1 : Int32)) &&& (1431655765 : Int32))) &&& (858993459 : Int32)) + ((jushr (x0 - ((jushr x0 (1 : Int32)) &&& (1431655765 : Int32))) (2 : Int32)) &&& (858993459 : Int32))) + (jushr (((x0 - ((jushr x0 (1 : Int32)) &&& (1431655765 : Int32))) &&& (858993459 : Int32)) + ((jushr (x0 - ((jushr x0 (1 : Int32)) &&& (1431655765 : Int32))) (2 : Int32)) &&& (858993459 : Int32))) (4 : Int32))) &&& (252645135 : Int32)) + (jushr (((((x0 - ((jushr x0 (1 : Int32)) &&& (1431655765 : Int32))) &&& (858993459 : Int32)) + ((jushr (x0 - ((jushr x0 (1 : Int32)) &&& (1431655765 : Int32))) (2 : Int32)) &&& (858993459 : Int32))) + (jushr (((x0 - ((jushr x0 (1 : Int32)) &&& (1431655765 : Int32))) &&& (858993459 : Int32)) + ((jushr (x0 - ((jushr x0 (1 : Int32)) &&& (1431655765 : Int32))) (2 : Int32)) &&& (858993459 : Int32))) (4 : Int32))) &&& (252645135 : Int32)) (8 : Int32))) + (jushr ((((((x0 - ((jushr x0 (1 : Int32)) &&& (1431655765 : Int32))) &&& (858993459 : Int32)) + ((jushr (x0 - ((jushr x0 (1 : Int32)) &&& (1431655765 : Int32))) (2 : Int32)) &&& (858993459 : Int32))) + (jushr (((x0 - ((jushr x0 (1 : Int32)) &&& (1431655765 : Int32))) &&& (858993459 : Int32)) + ((jushr (x0 - ((jushr x0 (1 : Int32)) &&& (1431655765 : Int32))) (2 : Int32)) &&& (858993459 : Int32))) (4 : Int32))) &&& (252645135 : Int32)) + (jushr (((((x0 - ((jushr x0 (1 : Int32)) &&& (1431655765 : Int32))) &&& (858993459 : Int32)) + ((jushr (x0 - ((jushr x0 (1 : Int32)) &&& (1431655765 : Int32))) (2 : Int32)) &&& (858993459 : Int32))) + (jushr (((x0 - ((jushr x0 (1 : Int32)) &&& (1431655765 : Int32))) &&& (858993459 : Int32)) + ((jushr (x0 - ((jushr x0 (1 : Int32)) &&& (1431655765 : Int32))) (2 : Int32)) &&& (858993459 : Int32))) (4 : Int32))) &&& (252645135 : Int32)) (8 : Int32))) (16 : Int32))) &&& (63 : Int32) := ⟨_, rfl⟩
  rw [← hz2] at hf
  rw [← hz2]
  have he := Option.some.inj hf
  subst he
  exact kreti hx hb hr hlk hP hD hS dJ6_bitCount_0f7a4_52
set_option maxHeartbeats 4000000 in
set_option maxRecDepth 100000 in
theorem kL_low (l : Launch) (D : va_G) (cI : ClassId) (x0 : Int32) (x1 : Int32) (o : Int32) (hf : fL_low x0 x1 = some o) : Ct l yL_low wsL_low { frames := 0, cells := 0, slots := 0, locals := 0 } D cI [.int x0, .int x1] ([] : va_W) ([] : va_W) (some (.int o)) := by
  refine Ct.of (cc := cL_low) (maxL := 2) (ret := (some .int)) (by decide) rfl (Nat.le_of_ble_eq_true rfl) ?_
  intro p e s m args below meth c A F hP hD hS ls hl
  obtain ⟨hx, hb, hml, hr, hown, hts, hlk, hK, hA⟩ := F
  have hown : s.vm.findClass RL = some m.cls := hown
  have hl : lv_has ls 2 [(0, .int x0), (1, .int x1)] := hl
  unfold fL_low at hf
  refine lv_iload_n hx hb dL_low_0 rfl (lv_at hl 0 rfl) ?_
  refine lv_ldc (v := (2147483647 : Int32)) hx hb hown (hts (.constant RL 7 (2147483647)) (by decide +kernel)) dL_low_1 ?_
  refine lv_iand hx hb dL_low_3 ?_
  refine lv_iload_n hx hb dL_low_4 rfl (lv_at hl 1 rfl) ?_
  obtain ⟨v3, h4, hf⟩ := kBind hf
  refine kiremO hx hb dL_low_5 h4 ?_
  have he := Option.some.inj hf
  subst he
  exact kreti hx hb hr hlk hP hD hS dL_low_6
set_option maxHeartbeats 4000000 in
set_option maxRecDepth 100000 in
theorem kX1_hasCrane (l : Launch) (D : va_G) (cI : ClassId) (a0 a1 : Nat) (R : (Nat → Int32)) (x1 : Int32) (o : Bool) (hf : fX1_hasCrane R x1 = some o) : Ct l yX1_hasCrane wsX1_hasCrane { frames := 0, cells := 0, slots := 0, locals := 0 } D cI [.ref a0, .int x1] (wX1 cI a0 a1 R) (wX1 cI a0 a1 R) (some (.int (bI o))) := by
  refine Ct.of (cc := cX1_hasCrane) (maxL := 2) (ret := (some .boolean)) (by decide) rfl (Nat.le_of_ble_eq_true rfl) ?_
  intro p e s m args below meth c A F hP hD hS ls hl
  obtain ⟨hx, hb, hml, hr, hown, hts, hlk, hK, hA⟩ := F
  have hown : s.vm.findClass RX1 = some m.cls := hown
  have hl : lv_has ls 2 [(0, .ref a0), (1, .int x1)] := hl
  have hinX1 : ∀ w ∈ wsX10, w ∈ wsX1_hasCrane := by decide +kernel
  have hfl11 := hts (.fieldLink RX1 11 "CraneGuard$Site" "row" "[I") (by decide +kernel)
  unfold fX1_hasCrane at hf
  refine lv_iload_n hx hb dX1_hasCrane_0 rfl (lv_at hl 1 rfl) ?_
  refine lv_if_lt (tgt := 18) hx hb dX1_hasCrane_1 (by decide) (fun c5 => ?_) (fun c5 => ?_)
  · have hf := kIfT c5 hf
    refine lv_iconst (v := (0 : Int32)) hx hb dX1_hasCrane_18 (by decide) ?_
    have he := Option.some.inj hf
    subst he
    exact kretz hx hb hr hlk hP hD hS dX1_hasCrane_19
  · have hf := kIfF c5 hf
    refine lv_iload_n hx hb dX1_hasCrane_4 rfl (lv_at hl 1 rfl) ?_
    refine lv_aload_n hx hb dX1_hasCrane_5 rfl (lv_at hl 0 rfl) ?_
    refine va_get (D := D) (ci := 1) (v := .ref a1) (C := RX1) (T := TX1) (N := 1) hx hb hts hinX1 hown hK.1 hP 0 rfl rfl 0 (by decide) hfl11 (fun _ h9 => h9) rfl dX1_hasCrane_6 ?_
    refine lv_iconst (v := (2 : Int32)) hx hb dX1_hasCrane_9 (by decide) ?_
    obtain ⟨v6, h7, hf⟩ := kBind hf
    refine krd hx hb hK hP 1 rfl h7 dX1_hasCrane_10 ?_
    refine lv_icmp_ge (tgt := 18) hx hb dX1_hasCrane_11 (by decide) (fun c8 => ?_) (fun c8 => ?_)
    · have hf := kIfT c8 hf
      refine lv_iconst (v := (0 : Int32)) hx hb dX1_hasCrane_18 (by decide) ?_
      have he := Option.some.inj hf
      subst he
      exact kretz hx hb hr hlk hP hD hS dX1_hasCrane_19
    · have hf := kIfF c8 hf
      refine lv_iconst (v := (1 : Int32)) hx hb dX1_hasCrane_14 (by decide) ?_
      refine lv_goto (tgt := 19) hx hb dX1_hasCrane_15 (by decide) ?_
      have he := Option.some.inj hf
      subst he
      exact kretz hx hb hr hlk hP hD hS dX1_hasCrane_19
set_option maxHeartbeats 4000000 in
set_option maxRecDepth 100000 in
theorem kX3_isPriority (l : Launch) (D : va_G) (cI : ClassId) (x0 : Int32) (o : Bool) (hf : fX3_isPriority x0 = some o) : Ct l yX3_isPriority wsX3_isPriority { frames := 0, cells := 0, slots := 0, locals := 0 } D cI [.int x0] ([] : va_W) ([] : va_W) (some (.int (bI o))) := by
  refine Ct.of (cc := cX3_isPriority) (maxL := 1) (ret := (some .boolean)) (by decide) rfl (Nat.le_of_ble_eq_true rfl) ?_
  intro p e s m args below meth c A F hP hD hS ls hl
  obtain ⟨hx, hb, hml, hr, hown, hts, hlk, hK, hA⟩ := F
  have hown : s.vm.findClass RX3 = some m.cls := hown
  have hl : lv_has ls 1 [(0, .int x0)] := hl
  unfold fX3_isPriority at hf
  refine lv_iload_n hx hb dX3_isPriority_0 rfl (lv_at hl 0 rfl) ?_
  refine lv_if_lt (tgt := 14) hx hb dX3_isPriority_1 (by decide) (fun c3 => ?_) (fun c3 => ?_)
  · have hf := kIfT c3 hf
    refine lv_iconst (v := (0 : Int32)) hx hb dX3_isPriority_14 (by decide) ?_
    have he := Option.some.inj hf
    subst he
    exact kretz hx hb hr hlk hP hD hS dX3_isPriority_15
  · have hf := kIfF c3 hf
    refine lv_iload_n hx hb dX3_isPriority_4 rfl (lv_at hl 0 rfl) ?_
    refine lv_bipush (v := (9 : Int32)) hx hb dX3_isPriority_5 (by decide) ?_
    refine lv_icmp_gt (tgt := 14) hx hb dX3_isPriority_7 (by decide) (fun c4 => ?_) (fun c4 => ?_)
    · have hf := kIfT c4 hf
      refine lv_iconst (v := (0 : Int32)) hx hb dX3_isPriority_14 (by decide) ?_
      have he := Option.some.inj hf
      subst he
      exact kretz hx hb hr hlk hP hD hS dX3_isPriority_15
    · have hf := kIfF c4 hf
      refine lv_iconst (v := (1 : Int32)) hx hb dX3_isPriority_10 (by decide) ?_
      refine lv_goto (tgt := 15) hx hb dX3_isPriority_11 (by decide) ?_
      have he := Option.some.inj hf
      subst he
      exact kretz hx hb hr hlk hP hD hS dX3_isPriority_15
set_option maxHeartbeats 4000000 in
set_option maxRecDepth 100000 in
theorem kX1_saveTo (l : Launch) (D : va_G) (cI : ClassId) (a0 a1 a2 : Nat) (R : (Nat → Int32)) (HR : (Nat → Int32)) (x2 : Int32) (o : (Nat → Int32)) (hf : fX1_saveTo R HR x2 = some o) : Ct l yX1_saveTo wsX1_saveTo { frames := 1, cells := 0, slots := 0, locals := 18 } D cI [.ref a0, .ref a2, .int x2] (wX1_A cI a0 a1 a2 R HR) (wX1_A cI a0 a1 a2 R o) none := by
  refine Ct.of (cc := cX1_saveTo) (maxL := 3) (ret := none) (by decide) rfl (Nat.le_of_ble_eq_true rfl) ?_
  intro p e s m args below meth c A F hP hD hS ls hl
  obtain ⟨hx, hb, hml, hr, hown, hts, hlk, hK, hA⟩ := F
  have hown : s.vm.findClass RX1 = some m.cls := hown
  have hl : lv_has ls 3 [(0, .ref a0), (1, .ref a2), (2, .int x2)] := hl
  have hinX1 : ∀ w ∈ wsX10, w ∈ wsX1_saveTo := by decide +kernel
  have hfl11 := hts (.fieldLink RX1 11 "CraneGuard$Site" "row" "[I") (by decide +kernel)
  unfold fX1_saveTo at hf
  refine lv_aload_n hx hb dX1_saveTo_0 rfl (lv_at hl 0 rfl) ?_
  refine va_get (D := D) (ci := 1) (v := .ref a1) (C := RX1) (T := TX1) (N := 1) hx hb hts hinX1 hown hK.1 hP 0 rfl rfl 0 (by decide) hfl11 (fun _ h9 => h9) rfl dX1_saveTo_1 ?_
  refine lv_iconst (v := (0 : Int32)) hx hb dX1_saveTo_4 (by decide) ?_
  refine lv_aload_n hx hb dX1_saveTo_5 rfl (lv_at hl 1 rfl) ?_
  refine lv_iload_n hx hb dX1_saveTo_6 rfl (lv_at hl 2 rfl) ?_
  refine lv_sipush (v := (132 : Int32)) hx hb dX1_saveTo_7 (by decide) ?_
  obtain ⟨v3, h4, hf⟩ := kBind hf
  refine kcp hx hb (hml.trans hl.1.symm) hown (hts (.methodLink RX1 15 arraycopyName) (by decide +kernel)) (hts (.native arraycopyName) (by decide +kernel)) (hts (.static arraycopyName) (by decide +kernel)) (hts (.initialized "java/lang/System") (by decide +kernel)) hK hP hD hS 1 2 rfl rfl h4 (wX1_A cI a0 a1 a2 R v3) rfl (Nat.le_of_ble_eq_true rfl) (Nat.le_of_ble_eq_true rfl) dX1_saveTo_10 (fun H locs hP hD hS => ?_)
  have he := Option.some.inj hf
  subst he
  exact kretv hx hb hr hlk hP hD hS dX1_saveTo_13
set_option maxHeartbeats 4000000 in
set_option maxRecDepth 100000 in
theorem kX0_keep (l : Launch) (D : va_G) (cI : ClassId) (a0 a1 a2 a3 : Nat) (HR : (Nat → Int32)) (HS : Int32) (HN : Int32) (R : (Nat → Int32)) (o : (Nat → Int32) × Int32 × Int32) (hf : fX0_keep HR HS HN R = some o) : Ct l yX0_keep wsX0_keep { frames := 2, cells := 0, slots := 0, locals := 40 } D cI [.ref a0, .ref a2] (wX0_X1 cI a0 a1 a2 a3 HR HS HN R) (wX0_X1 cI a0 a1 a2 a3 o.1 o.2.1 o.2.2 R) none := by
  refine Ct.of (cc := cX0_keep) (maxL := 2) (ret := none) (by decide) rfl (Nat.le_of_ble_eq_true rfl) ?_
  intro p e s m args below meth c A F hP hD hS ls hl
  obtain ⟨hx, hb, hml, hr, hown, hts, hlk, hK, hA⟩ := F
  have hown : s.vm.findClass RX0 = some m.cls := hown
  have hl : lv_has ls 2 [(0, .ref a0), (1, .ref a2)] := hl
  have hinX0 : ∀ w ∈ wsX00, w ∈ wsX0_keep := by decide +kernel
  have hfl11 := hts (.fieldLink RX0 11 "CraneGuard$History" "rows" "[I") (by decide +kernel)
  have hfl15 := hts (.fieldLink RX0 15 "CraneGuard$History" "size" "I") (by decide +kernel)
  have hfl19 := hts (.fieldLink RX0 19 "CraneGuard$History" "next" "I") (by decide +kernel)
  unfold fX0_keep at hf
  refine lv_aload_n hx hb dX0_keep_0 rfl (lv_at hl 1 rfl) ?_
  refine lv_aload_n hx hb dX0_keep_1 rfl (lv_at hl 0 rfl) ?_
  refine va_get (D := D) (ci := 0) (v := .ref a1) (C := RX0) (T := TX0) (N := 3) hx hb hts hinX0 hown hK.1 hP 0 rfl rfl 0 (by decide) hfl11 (fun _ h9 => h9) rfl dX0_keep_2 ?_
  refine lv_aload_n hx hb dX0_keep_5 rfl (lv_at hl 0 rfl) ?_
  refine va_get (D := D) (ci := 0) (v := .int HN) (C := RX0) (T := TX0) (N := 3) hx hb hts hinX0 hown hK.1 hP 0 rfl rfl 2 (by decide) hfl19 (fun _ h9 => h9) rfl dX0_keep_6 ?_
  refine lv_sipush (v := (132 : Int32)) hx hb dX0_keep_9 (by decide) ?_
  refine lv_imul hx hb dX0_keep_12 ?_
  obtain ⟨v7, h8, hf⟩ := kBind hf
  refine kgoJ (wr := [(a0, .inr (0, [.ref a1, .int HS, .int HN]))]) (w2 := (wX0_X1 cI a0 a1 a2 a3 v7 HS HN R)) (krunV (wc := (wX1_A cI a2 a3 a1 R HR)) (As := [.ref a1, .int (HN * (132 : Int32))]) (rest := []) (ci := 1) hx hb hml hown hts hK (kX1_saveTo l D cI a2 a3 a1 R HR (HN * (132 : Int32)) v7 h8) gX0_keep_X1_saveTo rfl rfl rfl hdX1_saveTo ⟨Nat.le_of_ble_eq_true rfl, Nat.le_of_ble_eq_true rfl⟩ (hP.sub [2, 3, 1] rfl) (hD.sub [2, 3, 1] (by decide) rfl) rfl rfl rfl rfl hl.1 rfl (Nat.le_of_ble_eq_true rfl) dX0_keep_13 ⟨Nat.zero_le _, Nat.zero_le _⟩) hP hD hS hA [2, 3, 1] [0] [0, 3, 1, 2] rfl rfl (by decide) (by decide) (by decide) rfl (fun H locs hP hD hS => ?_)
  refine lv_aload_n hx hb dX0_keep_16 rfl (lv_at hl 0 rfl) ?_
  refine lv_aload_n hx hb dX0_keep_17 rfl (lv_at hl 0 rfl) ?_
  refine va_get (D := D) (ci := 0) (v := .int HN) (C := RX0) (T := TX0) (N := 3) hx hb hts hinX0 hown hK.1 hP 0 rfl rfl 2 (by decide) hfl19 (fun _ h9 => h9) rfl dX0_keep_18 ?_
  refine lv_iconst (v := (1 : Int32)) hx hb dX0_keep_21 (by decide) ?_
  refine lv_iadd hx hb dX0_keep_22 ?_
  refine lv_iconst (v := (5 : Int32)) hx hb dX0_keep_23 (by decide) ?_
  refine lv_icmp_ge (tgt := 36) hx hb dX0_keep_24 (by decide) (fun c9 => ?_) (fun c9 => ?_)
  · have hf := kIfT c9 hf
    refine lv_iconst (v := (0 : Int32)) hx hb dX0_keep_36 (by decide) ?_
    refine va_put (D := D) (ci := 0) (v := .int (0 : Int32)) (ty := .int) (C := RX0) (T := TX0) (N := 3) hx hb hts hinX0 tyX0 tyX0_ok nmX0 hown hK.1 hP hD hS 0 rfl rfl 2 (by decide) hfl19 (fun _ h9 => h9) rfl (by decide +kernel) rfl rfl (Nat.le_of_ble_eq_true rfl) dX0_keep_37 (fun H locs hP hD hS => ?_)
    have hP : va_P D vwCl (wX0_X1 cI a0 a1 a2 a3 v7 HS (0 : Int32) R) H := hP
    have hD : va_D A (wX0_X1 cI a0 a1 a2 a3 v7 HS (0 : Int32) R) := hD
    refine lv_aload_n hx hb dX0_keep_40 rfl (lv_at hl 0 rfl) ?_
    refine lv_aload_n hx hb dX0_keep_41 rfl (lv_at hl 0 rfl) ?_
    refine va_get (D := D) (ci := 0) (v := .int HS) (C := RX0) (T := TX0) (N := 3) hx hb hts hinX0 hown hK.1 hP 0 rfl rfl 1 (by decide) hfl15 (fun _ h9 => h9) rfl dX0_keep_42 ?_
    refine lv_iconst (v := (1 : Int32)) hx hb dX0_keep_45 (by decide) ?_
    refine lv_iadd hx hb dX0_keep_46 ?_
    refine lv_iconst (v := (5 : Int32)) hx hb dX0_keep_47 (by decide) ?_
    refine va_mmin hx hb (hml.trans hl.1.symm) hown (hts (.methodLink RX0 26 Lib.Math.min.name) (by decide +kernel)) (hts (.static Lib.Math.min.name) (by decide +kernel)) (hts (.initialized "java/lang/Math") (by decide +kernel)) (hts (.code Lib.Math.min.name Lib.Math.min.code 2 (some .int)) (by decide +kernel)) (Nat.le_of_ble_eq_true rfl) (Nat.le_of_ble_eq_true rfl) (Nat.zero_le _) (Nat.zero_le _) dX0_keep_48 ?_
    refine va_put (D := D) (ci := 0) (v := .int (jmin (HS + (1 : Int32)) (5 : Int32))) (ty := .int) (C := RX0) (T := TX0) (N := 3) hx hb hts hinX0 tyX0 tyX0_ok nmX0 hown hK.1 hP hD hS 0 rfl rfl 1 (by decide) hfl15 (fun _ h9 => h9) rfl (by decide +kernel) rfl rfl (Nat.le_of_ble_eq_true rfl) dX0_keep_51 (fun H locs hP hD hS => ?_)
    have hP : va_P D vwCl (wX0_X1 cI a0 a1 a2 a3 v7 (jmin (HS + (1 : Int32)) (5 : Int32)) (0 : Int32) R) H := hP
    have hD : va_D A (wX0_X1 cI a0 a1 a2 a3 v7 (jmin (HS + (1 : Int32)) (5 : Int32)) (0 : Int32) R) := hD
    obtain ⟨z10, hz10⟩ : ∃ z : Int32, z = jmin (HS + (1 : Int32)) (5 : Int32) := ⟨_, rfl⟩
    rw [← hz10] at hf
    have hP : va_P D vwCl (wX0_X1 cI a0 a1 a2 a3 v7 z10 (0 : Int32) R) H := by rw [hz10]; exact hP
    have hD : va_D A (wX0_X1 cI a0 a1 a2 a3 v7 z10 (0 : Int32) R) := by rw [hz10]; exact hD
    have he := Option.some.inj hf
    subst he
    exact kretv hx hb hr hlk hP hD hS dX0_keep_54
  · have hf := kIfF c9 hf
    refine lv_aload_n hx hb dX0_keep_27 rfl (lv_at hl 0 rfl) ?_
    refine va_get (D := D) (ci := 0) (v := .int HN) (C := RX0) (T := TX0) (N := 3) hx hb hts hinX0 hown hK.1 hP 0 rfl rfl 2 (by decide) hfl19 (fun _ h9 => h9) rfl dX0_keep_28 ?_
    refine lv_iconst (v := (1 : Int32)) hx hb dX0_keep_31 (by decide) ?_
    refine lv_iadd hx hb dX0_keep_32 ?_
    refine lv_goto (tgt := 37) hx hb dX0_keep_33 (by decide) ?_
    refine va_put (D := D) (ci := 0) (v := .int (HN + (1 : Int32))) (ty := .int) (C := RX0) (T := TX0) (N := 3) hx hb hts hinX0 tyX0 tyX0_ok nmX0 hown hK.1 hP hD hS 0 rfl rfl 2 (by decide) hfl19 (fun _ h9 => h9) rfl (by decide +kernel) rfl rfl (Nat.le_of_ble_eq_true rfl) dX0_keep_37 (fun H locs hP hD hS => ?_)
    have hP : va_P D vwCl (wX0_X1 cI a0 a1 a2 a3 v7 HS (HN + (1 : Int32)) R) H := hP
    have hD : va_D A (wX0_X1 cI a0 a1 a2 a3 v7 HS (HN + (1 : Int32)) R) := hD
    refine lv_aload_n hx hb dX0_keep_40 rfl (lv_at hl 0 rfl) ?_
    refine lv_aload_n hx hb dX0_keep_41 rfl (lv_at hl 0 rfl) ?_
    refine va_get (D := D) (ci := 0) (v := .int HS) (C := RX0) (T := TX0) (N := 3) hx hb hts hinX0 hown hK.1 hP 0 rfl rfl 1 (by decide) hfl15 (fun _ h9 => h9) rfl dX0_keep_42 ?_
    refine lv_iconst (v := (1 : Int32)) hx hb dX0_keep_45 (by decide) ?_
    refine lv_iadd hx hb dX0_keep_46 ?_
    refine lv_iconst (v := (5 : Int32)) hx hb dX0_keep_47 (by decide) ?_
    refine va_mmin hx hb (hml.trans hl.1.symm) hown (hts (.methodLink RX0 26 Lib.Math.min.name) (by decide +kernel)) (hts (.static Lib.Math.min.name) (by decide +kernel)) (hts (.initialized "java/lang/Math") (by decide +kernel)) (hts (.code Lib.Math.min.name Lib.Math.min.code 2 (some .int)) (by decide +kernel)) (Nat.le_of_ble_eq_true rfl) (Nat.le_of_ble_eq_true rfl) (Nat.zero_le _) (Nat.zero_le _) dX0_keep_48 ?_
    refine va_put (D := D) (ci := 0) (v := .int (jmin (HS + (1 : Int32)) (5 : Int32))) (ty := .int) (C := RX0) (T := TX0) (N := 3) hx hb hts hinX0 tyX0 tyX0_ok nmX0 hown hK.1 hP hD hS 0 rfl rfl 1 (by decide) hfl15 (fun _ h9 => h9) rfl (by decide +kernel) rfl rfl (Nat.le_of_ble_eq_true rfl) dX0_keep_51 (fun H locs hP hD hS => ?_)
    have hP : va_P D vwCl (wX0_X1 cI a0 a1 a2 a3 v7 (jmin (HS + (1 : Int32)) (5 : Int32)) (HN + (1 : Int32)) R) H := hP
    have hD : va_D A (wX0_X1 cI a0 a1 a2 a3 v7 (jmin (HS + (1 : Int32)) (5 : Int32)) (HN + (1 : Int32)) R) := hD
    obtain ⟨z11, hz11⟩ : ∃ z : Int32, z = jmin (HS + (1 : Int32)) (5 : Int32) := ⟨_, rfl⟩
    rw [← hz11] at hf
    obtain ⟨z12, hz12⟩ : ∃ z : Int32, z = HN + (1 : Int32) := ⟨_, rfl⟩
    rw [← hz12] at hf
    have hP : va_P D vwCl (wX0_X1 cI a0 a1 a2 a3 v7 z11 z12 R) H := by rw [hz11, hz12]; exact hP
    have hD : va_D A (wX0_X1 cI a0 a1 a2 a3 v7 z11 z12 R) := by rw [hz11, hz12]; exact hD
    have he := Option.some.inj hf
    subst he
    exact kretv hx hb hr hlk hP hD hS dX0_keep_54
set_option maxHeartbeats 4000000 in
set_option maxRecDepth 100000 in
theorem kX1_changePriority (l : Launch) (D : va_G) (cI : ClassId) (a0 a1 : Nat) (R : (Nat → Int32)) (x1 : Int32) (x2 : Int32) (o : Int32 × (Nat → Int32)) (hf : fX1_changePriority R x1 x2 = some o) : Ct l yX1_changePriority wsX1_changePriority { frames := 0, cells := 0, slots := 0, locals := 0 } D cI [.ref a0, .int x1, .int x2] (wX1 cI a0 a1 R) (wX1 cI a0 a1 o.2) (some (.int o.1)) := by
  refine Ct.of (cc := cX1_changePriority) (maxL := 4) (ret := (some .int)) (by decide) rfl (Nat.le_of_ble_eq_true rfl) ?_
  intro p e s m args below meth c A F hP hD hS ls hl
  obtain ⟨hx, hb, hml, hr, hown, hts, hlk, hK, hA⟩ := F
  have hown : s.vm.findClass RX1 = some m.cls := hown
  have hl : lv_has ls 4 [(0, .ref a0), (1, .int x1), (2, .int x2)] := hl
  have hinX1 : ∀ w ∈ wsX10, w ∈ wsX1_changePriority := by decide +kernel
  have hfl11 := hts (.fieldLink RX1 11 "CraneGuard$Site" "row" "[I") (by decide +kernel)
  unfold fX1_changePriority at hf
  refine lv_aload_n hx hb dX1_changePriority_0 rfl (lv_at hl 0 rfl) ?_
  refine va_get (D := D) (ci := 1) (v := .ref a1) (C := RX1) (T := TX1) (N := 1) hx hb hts hinX1 hown hK.1 hP 0 rfl rfl 0 (by decide) hfl11 (fun _ h9 => h9) rfl dX1_changePriority_1 ?_
  refine lv_bipush (v := (12 : Int32)) hx hb dX1_changePriority_4 (by decide) ?_
  refine lv_iload_n hx hb dX1_changePriority_6 rfl (lv_at hl 1 rfl) ?_
  refine lv_iadd hx hb dX1_changePriority_7 ?_
  obtain ⟨v5, h6, hf⟩ := kBind hf
  refine krd hx hb hK hP 1 rfl h6 dX1_changePriority_8 ?_
  refine lv_istore_n (lv' := [(3, .int v5), (0, .ref a0), (1, .int x1), (2, .int x2)]) hx hb dX1_changePriority_9 rfl hl (by decide) rfl (fun ls hl => ?_)
  refine lv_aload_n hx hb dX1_changePriority_10 rfl (lv_at hl 1 rfl) ?_
  refine va_get (D := D) (ci := 1) (v := .ref a1) (C := RX1) (T := TX1) (N := 1) hx hb hts hinX1 hown hK.1 hP 0 rfl rfl 0 (by decide) hfl11 (fun _ h9 => h9) rfl dX1_changePriority_11 ?_
  refine lv_bipush (v := (12 : Int32)) hx hb dX1_changePriority_14 (by decide) ?_
  refine lv_iload_n hx hb dX1_changePriority_16 rfl (lv_at hl 2 rfl) ?_
  refine lv_iadd hx hb dX1_changePriority_17 ?_
  refine lv_iload_n hx hb dX1_changePriority_18 rfl (lv_at hl 3 rfl) ?_
  obtain ⟨v7, h8, hf⟩ := kBind hf
  refine kwr hx hb hK hP hD hS 1 rfl h8 (wX1 cI a0 a1 v7) rfl dX1_changePriority_19 (fun H locs hP hD hS => ?_)
  refine lv_iload_n hx hb dX1_changePriority_20 rfl (lv_at hl 0 rfl) ?_
  have he := Option.some.inj hf
  subst he
  exact kreti hx hb hr hlk hP hD hS dX1_changePriority_21
set_option maxHeartbeats 4000000 in
set_option maxRecDepth 100000 in
theorem kX3_setPriority (l : Launch) (D : va_G) (cI : ClassId) (a0 a1 a2 a3 a4 a5 a6 a7 a8 a9 a10 a11 : Nat) (R : (Nat → Int32)) (R2 : (Nat → Int32)) (HR : (Nat → Int32)) (HS : Int32) (HN : Int32) (TB : (Nat → Int32)) (LN : Int32) (PS : Int32) (TC : (Nat → Int32)) (TW : (Nat → Int32)) (TG : (Nat → Int32)) (CM : Int32) (x1 : Int32) (x2 : Int32) (o : Int32 × (Nat → Int32) × (Nat → Int32) × Int32 × Int32) (hf : fX3_setPriority R HR HS HN x1 x2 = some o) : Ct l yX3_setPriority wsX3_setPriority { frames := 3, cells := 0, slots := 0, locals := 61 } D cI [.ref a0, .int x1, .int x2] (wX3 cI a0 a1 a2 a3 a4 a5 a6 a7 a8 a9 a10 a11 R R2 HR HS HN TB LN PS TC TW TG CM) (wX3 cI a0 a1 a2 a3 a4 a5 a6 a7 a8 a9 a10 a11 o.2.1 R2 o.2.2.1 o.2.2.2.1 o.2.2.2.2 TB LN PS TC TW TG CM) (some (.int o.1)) := by
  refine Ct.of (cc := cX3_setPriority) (maxL := 3) (ret := (some .int)) (by decide) rfl (Nat.le_of_ble_eq_true rfl) ?_
  intro p e s m args below meth c A F hP hD hS ls hl
  obtain ⟨hx, hb, hml, hr, hown, hts, hlk, hK, hA⟩ := F
  have hown : s.vm.findClass RX3 = some m.cls := hown
  have hl : lv_has ls 3 [(0, .ref a0), (1, .int x1), (2, .int x2)] := hl
  have hinX3 : ∀ w ∈ wsX30, w ∈ wsX3_setPriority := by decide +kernel
  have hfl10 := hts (.fieldLink RX3 10 "CraneGuard" "site" "LCraneGuard$Site;") (by decide +kernel)
  have hfl22 := hts (.fieldLink RX3 22 "CraneGuard" "history" "LCraneGuard$History;") (by decide +kernel)
  unfold fX3_setPriority at hf
  refine lv_aload_n hx hb dX3_setPriority_0 rfl (lv_at hl 0 rfl) ?_
  refine va_get (D := D) (ci := 3) (v := .ref a1) (C := RX3) (T := TX3) (N := 4) hx hb hts hinX3 hown hK.1 hP 0 rfl rfl 0 (by decide) hfl10 (fun _ h9 => h9) rfl dX3_setPriority_1 ?_
  refine lv_iload_n hx hb dX3_setPriority_4 rfl (lv_at hl 1 rfl) ?_
  obtain ⟨v11, h12, hf⟩ := kBind hf
  refine kgoR (krunV (wc := (wX1 cI a1 a2 R)) (As := [.int x1]) (rest := []) (ci := 1) hx hb hml hown hts hK (kX1_hasCrane l D cI a1 a2 R x1 v11 h12) gX3_setPriority_X1_hasCrane rfl rfl rfl hdX1_hasCrane ⟨Nat.le_of_ble_eq_true rfl, Nat.le_of_ble_eq_true rfl⟩ (hP.sub [1, 2] rfl) (hD.sub [1, 2] (by decide) rfl) rfl rfl rfl rfl hl.1 rfl (Nat.le_of_ble_eq_true rfl) dX3_setPriority_5 ⟨Nat.zero_le _, Nat.zero_le _⟩) hP hD hS hA [1, 2] rfl (fun H locs hP hS => ?_)
  refine kif_neb (tgt := 14) hx hb dX3_setPriority_8 (by decide) (fun c13 => ?_) (fun c13 => ?_)
  · have hf := kIfT c13 hf
    refine lv_iload_n hx hb dX3_setPriority_14 rfl (lv_at hl 2 rfl) ?_
    obtain ⟨v14, h15, hf⟩ := kBind hf
    refine kgoR (krunS (wc := ([] : va_W)) (As := [.int x2]) (rest := []) hx hb hml hown hts hK (kX3_isPriority l D cI x2 v14 h15) gX3_setPriority_X3_isPriority rfl rfl rfl hdX3_isPriority ⟨Nat.le_of_ble_eq_true rfl, Nat.le_of_ble_eq_true rfl⟩ k_P0 (k_D0 A) rfl hl.1 rfl (Nat.le_of_ble_eq_true rfl) dX3_setPriority_15 ⟨Nat.zero_le _, Nat.zero_le _⟩) hP hD hS hA [] rfl (fun H locs hP hS => ?_)
    refine kif_neb (tgt := 24) hx hb dX3_setPriority_18 (by decide) (fun c16 => ?_) (fun c16 => ?_)
    · have hf := kIfT c16 hf
      refine lv_aload_n hx hb dX3_setPriority_24 rfl (lv_at hl 0 rfl) ?_
      refine va_get (D := D) (ci := 3) (v := .ref a5) (C := RX3) (T := TX3) (N := 4) hx hb hts hinX3 hown hK.1 hP 0 rfl rfl 2 (by decide) hfl22 (fun _ h9 => h9) rfl dX3_setPriority_25 ?_
      refine lv_aload_n hx hb dX3_setPriority_28 rfl (lv_at hl 0 rfl) ?_
      refine va_get (D := D) (ci := 3) (v := .ref a1) (C := RX3) (T := TX3) (N := 4) hx hb hts hinX3 hown hK.1 hP 0 rfl rfl 0 (by decide) hfl10 (fun _ h9 => h9) rfl dX3_setPriority_29 ?_
      obtain ⟨v17, h18, hf⟩ := kBind hf
      refine kgoJ (wr := [(a0, .inr (3, [.ref a1, .ref a3, .ref a5, .ref a7])), (a3, .inr (1, [.ref a4])), (a4, .inl (cI, 132, .inl R2)), (a7, .inr (2, [.ref a8, .int LN, .int PS, .ref a9, .ref a10, .ref a11, .int CM])), (a8, .inl (cI, 80, .inl TB)), (a9, .inl (cI, 20, .inl TC)), (a10, .inl (cI, 20, .inl TW)), (a11, .inl (cI, 20, .inl TG))]) (w2 := (wX3 cI a0 a1 a2 a3 a4 a5 a6 a7 a8 a9 a10 a11 R R2 v17.1 v17.2.1 v17.2.2 TB LN PS TC TW TG CM)) (krunV (wc := (wX0_X1 cI a5 a6 a1 a2 HR HS HN R)) (As := [.ref a1]) (rest := []) (ci := 0) hx hb hml hown hts hK (kX0_keep l D cI a5 a6 a1 a2 HR HS HN R v17 h18) gX3_setPriority_X0_keep rfl rfl rfl hdX0_keep ⟨Nat.le_of_ble_eq_true rfl, Nat.le_of_ble_eq_true rfl⟩ (hP.sub [5, 6, 1, 2] rfl) (hD.sub [5, 6, 1, 2] (by decide) rfl) rfl rfl rfl rfl hl.1 rfl (Nat.le_of_ble_eq_true rfl) dX3_setPriority_32 ⟨Nat.zero_le _, Nat.zero_le _⟩) hP hD hS hA [5, 6, 1, 2] [0, 3, 4, 7, 8, 9, 10, 11] [0, 10, 11, 1, 2, 8, 9, 3, 4, 5, 6, 7] rfl rfl (by decide) (by decide) (by decide) rfl (fun H locs hP hD hS => ?_)
      refine lv_aload_n hx hb dX3_setPriority_35 rfl (lv_at hl 0 rfl) ?_
      refine va_get (D := D) (ci := 3) (v := .ref a1) (C := RX3) (T := TX3) (N := 4) hx hb hts hinX3 hown hK.1 hP 0 rfl rfl 0 (by decide) hfl10 (fun _ h9 => h9) rfl dX3_setPriority_36 ?_
      refine lv_iload_n hx hb dX3_setPriority_39 rfl (lv_at hl 1 rfl) ?_
      refine lv_iload_n hx hb dX3_setPriority_40 rfl (lv_at hl 2 rfl) ?_
      obtain ⟨v19, h20, hf⟩ := kBind hf
      refine kgoJ (wr := [(a0, .inr (3, [.ref a1, .ref a3, .ref a5, .ref a7])), (a3, .inr (1, [.ref a4])), (a4, .inl (cI, 132, .inl R2)), (a5, .inr (0, [.ref a6, .int v17.2.1, .int v17.2.2])), (a6, .inl (cI, 660, .inl v17.1)), (a7, .inr (2, [.ref a8, .int LN, .int PS, .ref a9, .ref a10, .ref a11, .int CM])), (a8, .inl (cI, 80, .inl TB)), (a9, .inl (cI, 20, .inl TC)), (a10, .inl (cI, 20, .inl TW)), (a11, .inl (cI, 20, .inl TG))]) (w2 := (wX3 cI a0 a1 a2 a3 a4 a5 a6 a7 a8 a9 a10 a11 v19.2 R2 v17.1 v17.2.1 v17.2.2 TB LN PS TC TW TG CM)) (krunV (wc := (wX1 cI a1 a2 R)) (As := [.int x1, .int x2]) (rest := []) (ci := 1) hx hb hml hown hts hK (kX1_changePriority l D cI a1 a2 R x1 x2 v19 h20) gX3_setPriority_X1_changePriority rfl rfl rfl hdX1_changePriority ⟨Nat.le_of_ble_eq_true rfl, Nat.le_of_ble_eq_true rfl⟩ (hP.sub [1, 2] rfl) (hD.sub [1, 2] (by decide) rfl) rfl rfl rfl rfl hl.1 rfl (Nat.le_of_ble_eq_true rfl) dX3_setPriority_41 ⟨Nat.zero_le _, Nat.zero_le _⟩) hP hD hS hA [1, 2] [0, 3, 4, 5, 6, 7, 8, 9, 10, 11] [0, 10, 11, 1, 2, 3, 4, 5, 6, 7, 8, 9] rfl rfl (by decide) (by decide) (by decide) rfl (fun H locs hP hD hS => ?_)
      have he := Option.some.inj hf
      subst he
      exact kreti hx hb hr hlk hP hD hS dX3_setPriority_44
    · have hf := kIfF c16 hf
      refine lv_bipush (v := (-102 : Int32)) hx hb dX3_setPriority_21 (by decide) ?_
      have he := Option.some.inj hf
      subst he
      exact kreti hx hb hr hlk hP hD hS dX3_setPriority_23
  · have hf := kIfF c13 hf
    refine lv_bipush (v := (-101 : Int32)) hx hb dX3_setPriority_11 (by decide) ?_
    have he := Option.some.inj hf
    subst he
    exact kreti hx hb hr hlk hP hD hS dX3_setPriority_13
set_option maxHeartbeats 4000000 in
set_option maxRecDepth 100000 in
theorem kX3_isZone (l : Launch) (D : va_G) (cI : ClassId) (x0 : Int32) (o : Bool) (hf : fX3_isZone x0 = some o) : Ct l yX3_isZone wsX3_isZone { frames := 0, cells := 0, slots := 0, locals := 0 } D cI [.int x0] ([] : va_W) ([] : va_W) (some (.int (bI o))) := by
  refine Ct.of (cc := cX3_isZone) (maxL := 1) (ret := (some .boolean)) (by decide) rfl (Nat.le_of_ble_eq_true rfl) ?_
  intro p e s m args below meth c A F hP hD hS ls hl
  obtain ⟨hx, hb, hml, hr, hown, hts, hlk, hK, hA⟩ := F
  have hown : s.vm.findClass RX3 = some m.cls := hown
  have hl : lv_has ls 1 [(0, .int x0)] := hl
  unfold fX3_isZone at hf
  refine lv_iload_n hx hb dX3_isZone_0 rfl (lv_at hl 0 rfl) ?_
  refine lv_if_lt (tgt := 14) hx hb dX3_isZone_1 (by decide) (fun c3 => ?_) (fun c3 => ?_)
  · have hf := kIfT c3 hf
    refine lv_iconst (v := (0 : Int32)) hx hb dX3_isZone_14 (by decide) ?_
    have he := Option.some.inj hf
    subst he
    exact kretz hx hb hr hlk hP hD hS dX3_isZone_15
  · have hf := kIfF c3 hf
    refine lv_iload_n hx hb dX3_isZone_4 rfl (lv_at hl 0 rfl) ?_
    refine lv_bipush (v := (6 : Int32)) hx hb dX3_isZone_5 (by decide) ?_
    refine lv_icmp_ge (tgt := 14) hx hb dX3_isZone_7 (by decide) (fun c4 => ?_) (fun c4 => ?_)
    · have hf := kIfT c4 hf
      refine lv_iconst (v := (0 : Int32)) hx hb dX3_isZone_14 (by decide) ?_
      have he := Option.some.inj hf
      subst he
      exact kretz hx hb hr hlk hP hD hS dX3_isZone_15
    · have hf := kIfF c4 hf
      refine lv_iconst (v := (1 : Int32)) hx hb dX3_isZone_10 (by decide) ?_
      refine lv_goto (tgt := 15) hx hb dX3_isZone_11 (by decide) ?_
      have he := Option.some.inj hf
      subst he
      exact kretz hx hb hr hlk hP hD hS dX3_isZone_15
set_option maxHeartbeats 4000000 in
set_option maxRecDepth 100000 in
theorem kX3_isAngle (l : Launch) (D : va_G) (cI : ClassId) (x0 : Int32) (o : Bool) (hf : fX3_isAngle x0 = some o) : Ct l yX3_isAngle wsX3_isAngle { frames := 0, cells := 0, slots := 0, locals := 0 } D cI [.int x0] ([] : va_W) ([] : va_W) (some (.int (bI o))) := by
  refine Ct.of (cc := cX3_isAngle) (maxL := 1) (ret := (some .boolean)) (by decide) rfl (Nat.le_of_ble_eq_true rfl) ?_
  intro p e s m args below meth c A F hP hD hS ls hl
  obtain ⟨hx, hb, hml, hr, hown, hts, hlk, hK, hA⟩ := F
  have hown : s.vm.findClass RX3 = some m.cls := hown
  have hl : lv_has ls 1 [(0, .int x0)] := hl
  unfold fX3_isAngle at hf
  refine lv_iload_n hx hb dX3_isAngle_0 rfl (lv_at hl 0 rfl) ?_
  refine lv_if_lt (tgt := 14) hx hb dX3_isAngle_1 (by decide) (fun c3 => ?_) (fun c3 => ?_)
  · have hf := kIfT c3 hf
    refine lv_iconst (v := (0 : Int32)) hx hb dX3_isAngle_14 (by decide) ?_
    have he := Option.some.inj hf
    subst he
    exact kretz hx hb hr hlk hP hD hS dX3_isAngle_15
  · have hf := kIfF c3 hf
    refine lv_iload_n hx hb dX3_isAngle_4 rfl (lv_at hl 0 rfl) ?_
    refine lv_bipush (v := (36 : Int32)) hx hb dX3_isAngle_5 (by decide) ?_
    refine lv_icmp_ge (tgt := 14) hx hb dX3_isAngle_7 (by decide) (fun c4 => ?_) (fun c4 => ?_)
    · have hf := kIfT c4 hf
      refine lv_iconst (v := (0 : Int32)) hx hb dX3_isAngle_14 (by decide) ?_
      have he := Option.some.inj hf
      subst he
      exact kretz hx hb hr hlk hP hD hS dX3_isAngle_15
    · have hf := kIfF c4 hf
      refine lv_iconst (v := (1 : Int32)) hx hb dX3_isAngle_10 (by decide) ?_
      refine lv_goto (tgt := 15) hx hb dX3_isAngle_11 (by decide) ?_
      have he := Option.some.inj hf
      subst he
      exact kretz hx hb hr hlk hP hD hS dX3_isAngle_15
set_option maxHeartbeats 4000000 in
set_option maxRecDepth 100000 in
theorem kX1_isLeft (l : Launch) (D : va_G) (cI : ClassId) (a0 a1 : Nat) (R : (Nat → Int32)) (x1 : Int32) (o : Bool) (hf : fX1_isLeft R x1 = some o) : Ct l yX1_isLeft wsX1_isLeft { frames := 0, cells := 0, slots := 0, locals := 0 } D cI [.ref a0, .int x1] (wX1 cI a0 a1 R) (wX1 cI a0 a1 R) (some (.int (bI o))) := by
  refine Ct.of (cc := cX1_isLeft) (maxL := 2) (ret := (some .boolean)) (by decide) rfl (Nat.le_of_ble_eq_true rfl) ?_
  intro p e s m args below meth c A F hP hD hS ls hl
  obtain ⟨hx, hb, hml, hr, hown, hts, hlk, hK, hA⟩ := F
  have hown : s.vm.findClass RX1 = some m.cls := hown
  have hl : lv_has ls 2 [(0, .ref a0), (1, .int x1)] := hl
  have hinX1 : ∀ w ∈ wsX10, w ∈ wsX1_isLeft := by decide +kernel
  have hfl11 := hts (.fieldLink RX1 11 "CraneGuard$Site" "row" "[I") (by decide +kernel)
  unfold fX1_isLeft at hf
  refine lv_aload_n hx hb dX1_isLeft_0 rfl (lv_at hl 0 rfl) ?_
  refine va_get (D := D) (ci := 1) (v := .ref a1) (C := RX1) (T := TX1) (N := 1) hx hb hts hinX1 hown hK.1 hP 0 rfl rfl 0 (by decide) hfl11 (fun _ h9 => h9) rfl dX1_isLeft_1 ?_
  refine lv_bipush (v := (32 : Int32)) hx hb dX1_isLeft_4 (by decide) ?_
  refine lv_iload_n hx hb dX1_isLeft_6 rfl (lv_at hl 1 rfl) ?_
  refine lv_iadd hx hb dX1_isLeft_7 ?_
  obtain ⟨v4, h5, hf⟩ := kBind hf
  refine krd hx hb hK hP 1 rfl h5 dX1_isLeft_8 ?_
  refine lv_iconst (v := (1 : Int32)) hx hb dX1_isLeft_9 (by decide) ?_
  refine lv_icmp_ne (tgt := 17) hx hb dX1_isLeft_10 (by decide) (fun c6 => ?_) (fun c6 => ?_)
  · have hf := kIfF c6 hf
    refine lv_iconst (v := (0 : Int32)) hx hb dX1_isLeft_17 (by decide) ?_
    have he := Option.some.inj hf
    subst he
    exact kretz hx hb hr hlk hP hD hS dX1_isLeft_18
  · have hf := kIfT c6 hf
    refine lv_iconst (v := (1 : Int32)) hx hb dX1_isLeft_13 (by decide) ?_
    refine lv_goto (tgt := 18) hx hb dX1_isLeft_14 (by decide) ?_
    have he := Option.some.inj hf
    subst he
    exact kretz hx hb hr hlk hP hD hS dX1_isLeft_18
set_option maxHeartbeats 4000000 in
set_option maxRecDepth 100000 in
theorem kX1_copyFrom (l : Launch) (D : va_G) (cI : ClassId) (a0 a1 a2 a3 : Nat) (R : (Nat → Int32)) (R2 : (Nat → Int32)) (o : (Nat → Int32)) (hf : fX1_copyFrom R R2 = some o) : Ct l yX1_copyFrom wsX1_copyFrom { frames := 1, cells := 0, slots := 0, locals := 18 } D cI [.ref a0, .ref a2] (wX1_X1 cI a0 a1 a2 a3 R R2) (wX1_X1 cI a0 a1 a2 a3 o R2) none := by
  refine Ct.of (cc := cX1_copyFrom) (maxL := 2) (ret := none) (by decide) rfl (Nat.le_of_ble_eq_true rfl) ?_
  intro p e s m args below meth c A F hP hD hS ls hl
  obtain ⟨hx, hb, hml, hr, hown, hts, hlk, hK, hA⟩ := F
  have hown : s.vm.findClass RX1 = some m.cls := hown
  have hl : lv_has ls 2 [(0, .ref a0), (1, .ref a2)] := hl
  have hinX1 : ∀ w ∈ wsX10, w ∈ wsX1_copyFrom := by decide +kernel
  have hfl11 := hts (.fieldLink RX1 11 "CraneGuard$Site" "row" "[I") (by decide +kernel)
  unfold fX1_copyFrom at hf
  refine lv_aload_n hx hb dX1_copyFrom_0 rfl (lv_at hl 1 rfl) ?_
  refine va_get (D := D) (ci := 1) (v := .ref a3) (C := RX1) (T := TX1) (N := 1) hx hb hts hinX1 hown hK.1 hP 2 rfl rfl 0 (by decide) hfl11 (fun _ h9 => h9) rfl dX1_copyFrom_1 ?_
  refine lv_iconst (v := (0 : Int32)) hx hb dX1_copyFrom_4 (by decide) ?_
  refine lv_aload_n hx hb dX1_copyFrom_5 rfl (lv_at hl 0 rfl) ?_
  refine va_get (D := D) (ci := 1) (v := .ref a1) (C := RX1) (T := TX1) (N := 1) hx hb hts hinX1 hown hK.1 hP 0 rfl rfl 0 (by decide) hfl11 (fun _ h9 => h9) rfl dX1_copyFrom_6 ?_
  refine lv_iconst (v := (0 : Int32)) hx hb dX1_copyFrom_9 (by decide) ?_
  refine lv_sipush (v := (132 : Int32)) hx hb dX1_copyFrom_10 (by decide) ?_
  obtain ⟨v3, h4, hf⟩ := kBind hf
  refine kcp hx hb (hml.trans hl.1.symm) hown (hts (.methodLink RX1 15 arraycopyName) (by decide +kernel)) (hts (.native arraycopyName) (by decide +kernel)) (hts (.static arraycopyName) (by decide +kernel)) (hts (.initialized "java/lang/System") (by decide +kernel)) hK hP hD hS 3 1 rfl rfl h4 (wX1_X1 cI a0 a1 a2 a3 v3 R2) rfl (Nat.le_of_ble_eq_true rfl) (Nat.le_of_ble_eq_true rfl) dX1_copyFrom_13 (fun H locs hP hD hS => ?_)
  have he := Option.some.inj hf
  subst he
  exact kretv hx hb hr hlk hP hD hS dX1_copyFrom_16
set_option maxHeartbeats 4000000 in
set_option maxRecDepth 100000 in
theorem kX1_setLimits (l : Launch) (D : va_G) (cI : ClassId) (a0 a1 : Nat) (R : (Nat → Int32)) (x1 : Int32) (x2 : Int32) (x3 : Int32) (x4 : Int32) (o : (Nat → Int32)) (hf : fX1_setLimits R x1 x2 x3 x4 = some o) : Ct l yX1_setLimits wsX1_setLimits { frames := 0, cells := 0, slots := 0, locals := 0 } D cI [.ref a0, .int x1, .int x2, .int x3, .int x4] (wX1 cI a0 a1 R) (wX1 cI a0 a1 o) none := by
  refine Ct.of (cc := cX1_setLimits) (maxL := 5) (ret := none) (by decide) rfl (Nat.le_of_ble_eq_true rfl) ?_
  intro p e s m args below meth c A F hP hD hS ls hl
  obtain ⟨hx, hb, hml, hr, hown, hts, hlk, hK, hA⟩ := F
  have hown : s.vm.findClass RX1 = some m.cls := hown
  have hl : lv_has ls 5 [(0, .ref a0), (1, .int x1), (2, .int x2), (3, .int x3), (4, .int x4)] := hl
  have hinX1 : ∀ w ∈ wsX10, w ∈ wsX1_setLimits := by decide +kernel
  have hfl11 := hts (.fieldLink RX1 11 "CraneGuard$Site" "row" "[I") (by decide +kernel)
  unfold fX1_setLimits at hf
  refine lv_aload_n hx hb dX1_setLimits_0 rfl (lv_at hl 0 rfl) ?_
  refine va_get (D := D) (ci := 1) (v := .ref a1) (C := RX1) (T := TX1) (N := 1) hx hb hts hinX1 hown hK.1 hP 0 rfl rfl 0 (by decide) hfl11 (fun _ h9 => h9) rfl dX1_setLimits_1 ?_
  refine lv_bipush (v := (44 : Int32)) hx hb dX1_setLimits_4 (by decide) ?_
  refine lv_iload_n hx hb dX1_setLimits_6 rfl (lv_at hl 1 rfl) ?_
  refine lv_bipush (v := (6 : Int32)) hx hb dX1_setLimits_7 (by decide) ?_
  refine lv_imul hx hb dX1_setLimits_9 ?_
  refine lv_iadd hx hb dX1_setLimits_10 ?_
  refine lv_iload_n hx hb dX1_setLimits_11 rfl (lv_at hl 2 rfl) ?_
  refine lv_iadd hx hb dX1_setLimits_12 ?_
  refine lv_iload_n hx hb dX1_setLimits_13 rfl (lv_at hl 3 rfl) ?_
  obtain ⟨v5, h6, hf⟩ := kBind hf
  refine kwr hx hb hK hP hD hS 1 rfl h6 (wX1 cI a0 a1 v5) rfl dX1_setLimits_14 (fun H locs hP hD hS => ?_)
  refine lv_aload_n hx hb dX1_setLimits_15 rfl (lv_at hl 0 rfl) ?_
  refine va_get (D := D) (ci := 1) (v := .ref a1) (C := RX1) (T := TX1) (N := 1) hx hb hts hinX1 hown hK.1 hP 0 rfl rfl 0 (by decide) hfl11 (fun _ h9 => h9) rfl dX1_setLimits_16 ?_
  refine lv_bipush (v := (68 : Int32)) hx hb dX1_setLimits_19 (by decide) ?_
  refine lv_iload_n hx hb dX1_setLimits_21 rfl (lv_at hl 1 rfl) ?_
  refine lv_bipush (v := (6 : Int32)) hx hb dX1_setLimits_22 (by decide) ?_
  refine lv_imul hx hb dX1_setLimits_24 ?_
  refine lv_iadd hx hb dX1_setLimits_25 ?_
  refine lv_iload_n hx hb dX1_setLimits_26 rfl (lv_at hl 2 rfl) ?_
  refine lv_iadd hx hb dX1_setLimits_27 ?_
  refine lv_iload hx hb dX1_setLimits_28 (lv_at hl 4 rfl) ?_
  obtain ⟨v7, h8, hf⟩ := kBind hf
  refine kwr hx hb hK hP hD hS 1 rfl h8 (wX1 cI a0 a1 v7) rfl dX1_setLimits_30 (fun H locs hP hD hS => ?_)
  have he := Option.some.inj hf
  subst he
  exact kretv hx hb hr hlk hP hD hS dX1_setLimits_31
set_option maxHeartbeats 4000000 in
set_option maxRecDepth 100000 in
theorem kX1_zonesWithArc (l : Launch) (D : va_G) (cI : ClassId) (fu : Nat) (a0 a1 : Nat) (R : (Nat → Int32)) (x1 : Int32) (o : Int32) (hf : fX1_zonesWithArc fu R x1 = some o) : Ct l yX1_zonesWithArc wsX1_zonesWithArc { frames := 0, cells := 0, slots := 0, locals := 0 } D cI [.ref a0, .int x1] (wX1 cI a0 a1 R) (wX1 cI a0 a1 R) (some (.int o)) := by
  refine Ct.of (cc := cX1_zonesWithArc) (maxL := 4) (ret := (some .int)) (by decide) rfl (Nat.le_of_ble_eq_true rfl) ?_
  intro p e s m args below meth c A F hP hD hS ls hl
  obtain ⟨hx, hb, hml, hr, hown, hts, hlk, hK, hA⟩ := F
  have hown : s.vm.findClass RX1 = some m.cls := hown
  have hl : lv_has ls 4 [(0, .ref a0), (1, .int x1)] := hl
  have hinX1 : ∀ w ∈ wsX10, w ∈ wsX1_zonesWithArc := by decide +kernel
  have hfl11 := hts (.fieldLink RX1 11 "CraneGuard$Site" "row" "[I") (by decide +kernel)
  unfold fX1_zonesWithArc at hf
  refine lv_iconst (v := (0 : Int32)) hx hb dX1_zonesWithArc_0 (by decide) ?_
  refine lv_istore_n (lv' := [(2, .int (0 : Int32)), (0, .ref a0), (1, .int x1)]) hx hb dX1_zonesWithArc_1 rfl hl (by decide) rfl (fun ls hl => ?_)
  refine lv_iconst (v := (0 : Int32)) hx hb dX1_zonesWithArc_2 (by decide) ?_
  refine lv_istore_n (lv' := [(3, .int (0 : Int32)), (2, .int (0 : Int32)), (0, .ref a0), (1, .int x1)]) hx hb dX1_zonesWithArc_3 rfl hl (by decide) rfl (fun ls hl => ?_)
  have hl : lv_has ls 4 [(3, .int (0 : Int32)), (2, .int (0 : Int32)), (0, .ref a0), (1, .int x1)] := hl
  refine klp hf (fun t4 : Int32 × Int32 => (wX1 cI a0 a1 R)) 4 (fun t4 : Int32 × Int32 => [(3, .int t4.2), (2, .int t4.1), (0, .ref a0), (1, .int x1)]) ?_ hP hD hS hl
  intro t4 x4_ hf hI1 hO1 H locs ls hP hD hS hl
  unfold fX1_zonesWithArc_L4 at hf
  have hP : va_P D vwCl (wX1 cI a0 a1 R) H := hP
  have hD : va_D A (wX1 cI a0 a1 R) := hD
  have hl : lv_has ls 4 [(3, .int t4.2), (2, .int t4.1), (0, .ref a0), (1, .int x1)] := hl
  refine lv_iload_n hx hb dX1_zonesWithArc_4 rfl (lv_at hl 0 rfl) ?_
  refine lv_bipush (v := (6 : Int32)) hx hb dX1_zonesWithArc_5 (by decide) ?_
  refine lv_icmp_ge (tgt := 41) hx hb dX1_zonesWithArc_7 (by decide) (fun c15 => ?_) (fun c15 => ?_)
  · have hf := kIfT c15 hf
    refine lv_iload_n hx hb dX1_zonesWithArc_41 rfl (lv_at hl 1 rfl) ?_
    have he := Option.some.inj hf
    have he := hO1 _ he.symm
    subst he
    exact kreti hx hb hr hlk hP hD hS dX1_zonesWithArc_42
  · have hf := kIfF c15 hf
    refine lv_aload_n hx hb dX1_zonesWithArc_10 rfl (lv_at hl 2 rfl) ?_
    refine va_get (D := D) (ci := 1) (v := .ref a1) (C := RX1) (T := TX1) (N := 1) hx hb hts hinX1 hown hK.1 hP 0 rfl rfl 0 (by decide) hfl11 (fun _ h9 => h9) rfl dX1_zonesWithArc_11 ?_
    refine lv_bipush (v := (44 : Int32)) hx hb dX1_zonesWithArc_14 (by decide) ?_
    refine lv_iload_n hx hb dX1_zonesWithArc_16 rfl (lv_at hl 3 rfl) ?_
    refine lv_bipush (v := (6 : Int32)) hx hb dX1_zonesWithArc_17 (by decide) ?_
    refine lv_imul hx hb dX1_zonesWithArc_19 ?_
    refine lv_iadd hx hb dX1_zonesWithArc_20 ?_
    refine lv_iload_n hx hb dX1_zonesWithArc_21 rfl (lv_at hl 0 rfl) ?_
    refine lv_iadd hx hb dX1_zonesWithArc_22 ?_
    obtain ⟨v16, h17, hf⟩ := kBind hf
    refine krd hx hb hK hP 1 rfl h17 dX1_zonesWithArc_23 ?_
    refine lv_bipush (v := (-100 : Int32)) hx hb dX1_zonesWithArc_24 (by decide) ?_
    refine lv_icmp_eq (tgt := 35) hx hb dX1_zonesWithArc_26 (by decide) (fun c18 => ?_) (fun c18 => ?_)
    · have hf := kIfT c18 hf
      refine lv_iinc (v := t4.2 + (1 : Int32)) (lv' := [(3, .int (t4.2 + (1 : Int32))), (2, .int t4.1), (0, .ref a0), (1, .int x1)]) hx hb dX1_zonesWithArc_35 hl (k := 0) rfl rfl (by decide) rfl (fun ls hl => ?_)
      refine lv_goto (tgt := 4) hx hb dX1_zonesWithArc_38 (by decide) ?_
      obtain ⟨z19, hz19⟩ : ∃ z : Int32, z = t4.2 + (1 : Int32) := ⟨_, rfl⟩
      rw [← hz19] at hf
      have he := (Option.some.inj hf).symm
      have hl : lv_has ls 4 [(3, .int z19), (2, .int t4.1), (0, .ref a0), (1, .int x1)] := by rw [hz19]; exact lv_sub hl [0, 1, 2, 3] rfl
      exact hI1 _ he H locs ls hP hD hS hl
    · have hf := kIfF c18 hf
      refine lv_iload_n hx hb dX1_zonesWithArc_29 rfl (lv_at hl 1 rfl) ?_
      refine lv_iconst (v := (1 : Int32)) hx hb dX1_zonesWithArc_30 (by decide) ?_
      refine lv_iload_n hx hb dX1_zonesWithArc_31 rfl (lv_at hl 0 rfl) ?_
      refine kishl hx hb dX1_zonesWithArc_32 ?_
      refine lv_ior hx hb dX1_zonesWithArc_33 ?_
      refine lv_istore_n (lv' := [(2, .int (t4.1 ||| (jshl (1 : Int32) t4.2))), (3, .int t4.2), (0, .ref a0), (1, .int x1)]) hx hb dX1_zonesWithArc_34 rfl hl (by decide) rfl (fun ls hl => ?_)
      refine lv_iinc (v := t4.2 + (1 : Int32)) (lv' := [(3, .int (t4.2 + (1 : Int32))), (2, .int (t4.1 ||| (jshl (1 : Int32) t4.2))), (0, .ref a0), (1, .int x1)]) hx hb dX1_zonesWithArc_35 hl (k := 1) rfl rfl (by decide) rfl (fun ls hl => ?_)
      refine lv_goto (tgt := 4) hx hb dX1_zonesWithArc_38 (by decide) ?_
      obtain ⟨z20, hz20⟩ : ∃ z : Int32, z = t4.1 ||| (jshl (1 : Int32) t4.2) := ⟨_, rfl⟩
      rw [← hz20] at hf
      obtain ⟨z21, hz21⟩ : ∃ z : Int32, z = t4.2 + (1 : Int32) := ⟨_, rfl⟩
      rw [← hz21] at hf
      have he := (Option.some.inj hf).symm
      have hl : lv_has ls 4 [(3, .int z21), (2, .int z20), (0, .ref a0), (1, .int x1)] := by rw [hz20, hz21]; exact lv_sub hl [0, 1, 2, 3] rfl
      exact hI1 _ he H locs ls hP hD hS hl
set_option maxHeartbeats 4000000 in
set_option maxRecDepth 100000 in
theorem kX1_zonesAtAngle (l : Launch) (D : va_G) (cI : ClassId) (fu : Nat) (a0 a1 : Nat) (R : (Nat → Int32)) (x1 : Int32) (x2 : Int32) (o : Int32) (hf : fX1_zonesAtAngle fu R x1 x2 = some o) : Ct l yX1_zonesAtAngle wsX1_zonesAtAngle { frames := 0, cells := 0, slots := 0, locals := 0 } D cI [.ref a0, .int x1, .int x2] (wX1 cI a0 a1 R) (wX1 cI a0 a1 R) (some (.int o)) := by
  refine Ct.of (cc := cX1_zonesAtAngle) (maxL := 7) (ret := (some .int)) (by decide) rfl (Nat.le_of_ble_eq_true rfl) ?_
  intro p e s m args below meth c A F hP hD hS ls hl
  obtain ⟨hx, hb, hml, hr, hown, hts, hlk, hK, hA⟩ := F
  have hown : s.vm.findClass RX1 = some m.cls := hown
  have hl : lv_has ls 7 [(0, .ref a0), (1, .int x1), (2, .int x2)] := hl
  have hinX1 : ∀ w ∈ wsX10, w ∈ wsX1_zonesAtAngle := by decide +kernel
  have hfl11 := hts (.fieldLink RX1 11 "CraneGuard$Site" "row" "[I") (by decide +kernel)
  unfold fX1_zonesAtAngle at hf
  refine lv_iconst (v := (0 : Int32)) hx hb dX1_zonesAtAngle_0 (by decide) ?_
  refine lv_istore_n (lv' := [(3, .int (0 : Int32)), (0, .ref a0), (1, .int x1), (2, .int x2)]) hx hb dX1_zonesAtAngle_1 rfl hl (by decide) rfl (fun ls hl => ?_)
  refine lv_iconst (v := (0 : Int32)) hx hb dX1_zonesAtAngle_2 (by decide) ?_
  refine lv_istore (lv' := [(4, .int (0 : Int32)), (3, .int (0 : Int32)), (0, .ref a0), (1, .int x1), (2, .int x2)]) hx hb dX1_zonesAtAngle_3 hl (by decide) rfl (fun ls hl => ?_)
  have hl : lv_has ls 7 [(4, .int (0 : Int32)), (3, .int (0 : Int32)), (0, .ref a0), (1, .int x1), (2, .int x2)] := hl
  refine klp hf (fun t5 : Int32 × Int32 => (wX1 cI a0 a1 R)) 7 (fun t5 : Int32 × Int32 => [(4, .int t5.2), (3, .int t5.1), (0, .ref a0), (1, .int x1), (2, .int x2)]) ?_ hP hD hS hl
  intro t5 x5_ hf hI1 hO1 H locs ls hP hD hS hl
  unfold fX1_zonesAtAngle_L5 at hf
  have hP : va_P D vwCl (wX1 cI a0 a1 R) H := hP
  have hD : va_D A (wX1 cI a0 a1 R) := hD
  have hl : lv_has ls 7 [(4, .int t5.2), (3, .int t5.1), (0, .ref a0), (1, .int x1), (2, .int x2)] := hl
  refine lv_iload hx hb dX1_zonesAtAngle_5 (lv_at hl 0 rfl) ?_
  refine lv_bipush (v := (6 : Int32)) hx hb dX1_zonesAtAngle_7 (by decide) ?_
  refine lv_icmp_ge (tgt := 90) hx hb dX1_zonesAtAngle_9 (by decide) (fun c23 => ?_) (fun c23 => ?_)
  · have hf := kIfT c23 hf
    refine lv_iload_n hx hb dX1_zonesAtAngle_90 rfl (lv_at hl 1 rfl) ?_
    have he := Option.some.inj hf
    have he := hO1 _ he.symm
    subst he
    exact kreti hx hb hr hlk hP hD hS dX1_zonesAtAngle_91
  · have hf := kIfF c23 hf
    refine lv_aload_n hx hb dX1_zonesAtAngle_12 rfl (lv_at hl 2 rfl) ?_
    refine va_get (D := D) (ci := 1) (v := .ref a1) (C := RX1) (T := TX1) (N := 1) hx hb hts hinX1 hown hK.1 hP 0 rfl rfl 0 (by decide) hfl11 (fun _ h9 => h9) rfl dX1_zonesAtAngle_13 ?_
    refine lv_bipush (v := (44 : Int32)) hx hb dX1_zonesAtAngle_16 (by decide) ?_
    refine lv_iload_n hx hb dX1_zonesAtAngle_18 rfl (lv_at hl 3 rfl) ?_
    refine lv_bipush (v := (6 : Int32)) hx hb dX1_zonesAtAngle_19 (by decide) ?_
    refine lv_imul hx hb dX1_zonesAtAngle_21 ?_
    refine lv_iadd hx hb dX1_zonesAtAngle_22 ?_
    refine lv_iload hx hb dX1_zonesAtAngle_23 (lv_at hl 0 rfl) ?_
    refine lv_iadd hx hb dX1_zonesAtAngle_25 ?_
    obtain ⟨v24, h25, hf⟩ := kBind hf
    refine krd hx hb hK hP 1 rfl h25 dX1_zonesAtAngle_26 ?_
    refine lv_istore (lv' := [(5, .int v24), (4, .int t5.2), (3, .int t5.1), (0, .ref a0), (1, .int x1), (2, .int x2)]) hx hb dX1_zonesAtAngle_27 hl (by decide) rfl (fun ls hl => ?_)
    refine lv_aload_n hx hb dX1_zonesAtAngle_29 rfl (lv_at hl 3 rfl) ?_
    refine va_get (D := D) (ci := 1) (v := .ref a1) (C := RX1) (T := TX1) (N := 1) hx hb hts hinX1 hown hK.1 hP 0 rfl rfl 0 (by decide) hfl11 (fun _ h9 => h9) rfl dX1_zonesAtAngle_30 ?_
    refine lv_bipush (v := (68 : Int32)) hx hb dX1_zonesAtAngle_33 (by decide) ?_
    refine lv_iload_n hx hb dX1_zonesAtAngle_35 rfl (lv_at hl 4 rfl) ?_
    refine lv_bipush (v := (6 : Int32)) hx hb dX1_zonesAtAngle_36 (by decide) ?_
    refine lv_imul hx hb dX1_zonesAtAngle_38 ?_
    refine lv_iadd hx hb dX1_zonesAtAngle_39 ?_
    refine lv_iload hx hb dX1_zonesAtAngle_40 (lv_at hl 1 rfl) ?_
    refine lv_iadd hx hb dX1_zonesAtAngle_42 ?_
    obtain ⟨v26, h27, hf⟩ := kBind hf
    refine krd hx hb hK hP 1 rfl h27 dX1_zonesAtAngle_43 ?_
    refine lv_istore (lv' := [(6, .int v26), (5, .int v24), (4, .int t5.2), (3, .int t5.1), (0, .ref a0), (1, .int x1), (2, .int x2)]) hx hb dX1_zonesAtAngle_44 hl (by decide) rfl (fun ls hl => ?_)
    refine lv_iload hx hb dX1_zonesAtAngle_46 (lv_at hl 1 rfl) ?_
    refine lv_bipush (v := (-100 : Int32)) hx hb dX1_zonesAtAngle_48 (by decide) ?_
    refine lv_icmp_eq (tgt := 84) hx hb dX1_zonesAtAngle_50 (by decide) (fun c28 => ?_) (fun c28 => ?_)
    · have hf := kIfT c28 hf
      refine lv_iinc (v := t5.2 + (1 : Int32)) (lv' := [(4, .int (t5.2 + (1 : Int32))), (6, .int v26), (5, .int v24), (3, .int t5.1), (0, .ref a0), (1, .int x1), (2, .int x2)]) hx hb dX1_zonesAtAngle_84 hl (k := 2) rfl rfl (by decide) rfl (fun ls hl => ?_)
      refine lv_goto (tgt := 5) hx hb dX1_zonesAtAngle_87 (by decide) ?_
      obtain ⟨z29, hz29⟩ : ∃ z : Int32, z = t5.2 + (1 : Int32) := ⟨_, rfl⟩
      rw [← hz29] at hf
      have he := (Option.some.inj hf).symm
      have hl : lv_has ls 7 [(4, .int z29), (3, .int t5.1), (0, .ref a0), (1, .int x1), (2, .int x2)] := by rw [hz29]; exact lv_sub hl [0, 3, 4, 5, 6] rfl
      exact hI1 _ he H locs ls hP hD hS hl
    · have hf := kIfF c28 hf
      refine lv_iload_n hx hb dX1_zonesAtAngle_53 rfl (lv_at hl 6 rfl) ?_
      refine lv_iload hx hb dX1_zonesAtAngle_54 (lv_at hl 1 rfl) ?_
      refine lv_isub hx hb dX1_zonesAtAngle_56 ?_
      refine lv_bipush (v := (36 : Int32)) hx hb dX1_zonesAtAngle_57 (by decide) ?_
      refine lv_iadd hx hb dX1_zonesAtAngle_59 ?_
      refine lv_bipush (v := (36 : Int32)) hx hb dX1_zonesAtAngle_60 (by decide) ?_
      refine kirem hx hb dX1_zonesAtAngle_62 (by decide) ?_
      refine lv_iload hx hb dX1_zonesAtAngle_63 (lv_at hl 0 rfl) ?_
      refine lv_iload hx hb dX1_zonesAtAngle_65 (lv_at hl 1 rfl) ?_
      refine lv_isub hx hb dX1_zonesAtAngle_67 ?_
      refine lv_bipush (v := (36 : Int32)) hx hb dX1_zonesAtAngle_68 (by decide) ?_
      refine lv_iadd hx hb dX1_zonesAtAngle_70 ?_
      refine lv_bipush (v := (36 : Int32)) hx hb dX1_zonesAtAngle_71 (by decide) ?_
      refine kirem hx hb dX1_zonesAtAngle_73 (by decide) ?_
      refine lv_icmp_gt (tgt := 84) hx hb dX1_zonesAtAngle_74 (by decide) (fun c30 => ?_) (fun c30 => ?_)
      · have hf := kIfT c30 hf
        refine lv_iinc (v := t5.2 + (1 : Int32)) (lv' := [(4, .int (t5.2 + (1 : Int32))), (6, .int v26), (5, .int v24), (3, .int t5.1), (0, .ref a0), (1, .int x1), (2, .int x2)]) hx hb dX1_zonesAtAngle_84 hl (k := 2) rfl rfl (by decide) rfl (fun ls hl => ?_)
        refine lv_goto (tgt := 5) hx hb dX1_zonesAtAngle_87 (by decide) ?_
        obtain ⟨z31, hz31⟩ : ∃ z : Int32, z = t5.2 + (1 : Int32) := ⟨_, rfl⟩
        rw [← hz31] at hf
        have he := (Option.some.inj hf).symm
        have hl : lv_has ls 7 [(4, .int z31), (3, .int t5.1), (0, .ref a0), (1, .int x1), (2, .int x2)] := by rw [hz31]; exact lv_sub hl [0, 3, 4, 5, 6] rfl
        exact hI1 _ he H locs ls hP hD hS hl
      · have hf := kIfF c30 hf
        refine lv_iload_n hx hb dX1_zonesAtAngle_77 rfl (lv_at hl 3 rfl) ?_
        refine lv_iconst (v := (1 : Int32)) hx hb dX1_zonesAtAngle_78 (by decide) ?_
        refine lv_iload hx hb dX1_zonesAtAngle_79 (lv_at hl 2 rfl) ?_
        refine kishl hx hb dX1_zonesAtAngle_81 ?_
        refine lv_ior hx hb dX1_zonesAtAngle_82 ?_
        refine lv_istore_n (lv' := [(3, .int (t5.1 ||| (jshl (1 : Int32) t5.2))), (6, .int v26), (5, .int v24), (4, .int t5.2), (0, .ref a0), (1, .int x1), (2, .int x2)]) hx hb dX1_zonesAtAngle_83 rfl hl (by decide) rfl (fun ls hl => ?_)
        refine lv_iinc (v := t5.2 + (1 : Int32)) (lv' := [(4, .int (t5.2 + (1 : Int32))), (3, .int (t5.1 ||| (jshl (1 : Int32) t5.2))), (6, .int v26), (5, .int v24), (0, .ref a0), (1, .int x1), (2, .int x2)]) hx hb dX1_zonesAtAngle_84 hl (k := 3) rfl rfl (by decide) rfl (fun ls hl => ?_)
        refine lv_goto (tgt := 5) hx hb dX1_zonesAtAngle_87 (by decide) ?_
        obtain ⟨z32, hz32⟩ : ∃ z : Int32, z = t5.1 ||| (jshl (1 : Int32) t5.2) := ⟨_, rfl⟩
        rw [← hz32] at hf
        obtain ⟨z33, hz33⟩ : ∃ z : Int32, z = t5.2 + (1 : Int32) := ⟨_, rfl⟩
        rw [← hz33] at hf
        have he := (Option.some.inj hf).symm
        have hl : lv_has ls 7 [(4, .int z33), (3, .int z32), (0, .ref a0), (1, .int x1), (2, .int x2)] := by rw [hz32, hz33]; exact lv_sub hl [0, 1, 4, 5, 6] rfl
        exact hI1 _ he H locs ls hP hD hS hl
set_option maxHeartbeats 4000000 in
set_option maxRecDepth 100000 in
theorem kX1_isOnStep (l : Launch) (D : va_G) (cI : ClassId) (a0 a1 : Nat) (R : (Nat → Int32)) (x1 : Int32) (o : Bool) (hf : fX1_isOnStep R x1 = some o) : Ct l yX1_isOnStep wsX1_isOnStep { frames := 0, cells := 0, slots := 0, locals := 0 } D cI [.ref a0, .int x1] (wX1 cI a0 a1 R) (wX1 cI a0 a1 R) (some (.int (bI o))) := by
  refine Ct.of (cc := cX1_isOnStep) (maxL := 2) (ret := (some .boolean)) (by decide) rfl (Nat.le_of_ble_eq_true rfl) ?_
  intro p e s m args below meth c A F hP hD hS ls hl
  obtain ⟨hx, hb, hml, hr, hown, hts, hlk, hK, hA⟩ := F
  have hown : s.vm.findClass RX1 = some m.cls := hown
  have hl : lv_has ls 2 [(0, .ref a0), (1, .int x1)] := hl
  have hinX1 : ∀ w ∈ wsX10, w ∈ wsX1_isOnStep := by decide +kernel
  have hfl11 := hts (.fieldLink RX1 11 "CraneGuard$Site" "row" "[I") (by decide +kernel)
  unfold fX1_isOnStep at hf
  refine lv_aload_n hx hb dX1_isOnStep_0 rfl (lv_at hl 0 rfl) ?_
  refine va_get (D := D) (ci := 1) (v := .ref a1) (C := RX1) (T := TX1) (N := 1) hx hb hts hinX1 hown hK.1 hP 0 rfl rfl 0 (by decide) hfl11 (fun _ h9 => h9) rfl dX1_isOnStep_1 ?_
  refine lv_bipush (v := (24 : Int32)) hx hb dX1_isOnStep_4 (by decide) ?_
  refine lv_iload_n hx hb dX1_isOnStep_6 rfl (lv_at hl 1 rfl) ?_
  refine lv_iadd hx hb dX1_isOnStep_7 ?_
  obtain ⟨v4, h5, hf⟩ := kBind hf
  refine krd hx hb hK hP 1 rfl h5 dX1_isOnStep_8 ?_
  refine lv_if_le (tgt := 16) hx hb dX1_isOnStep_9 (by decide) (fun c6 => ?_) (fun c6 => ?_)
  · have hf := kIfT c6 hf
    refine lv_iconst (v := (0 : Int32)) hx hb dX1_isOnStep_16 (by decide) ?_
    have he := Option.some.inj hf
    subst he
    exact kretz hx hb hr hlk hP hD hS dX1_isOnStep_17
  · have hf := kIfF c6 hf
    refine lv_iconst (v := (1 : Int32)) hx hb dX1_isOnStep_12 (by decide) ?_
    refine lv_goto (tgt := 17) hx hb dX1_isOnStep_13 (by decide) ?_
    have he := Option.some.inj hf
    subst he
    exact kretz hx hb hr hlk hP hD hS dX1_isOnStep_17
set_option maxHeartbeats 4000000 in
set_option maxRecDepth 100000 in
theorem kX1_nextAngle (l : Launch) (D : va_G) (cI : ClassId) (a0 a1 : Nat) (R : (Nat → Int32)) (x1 : Int32) (o : Int32) (hf : fX1_nextAngle R x1 = some o) : Ct l yX1_nextAngle wsX1_nextAngle { frames := 0, cells := 0, slots := 0, locals := 0 } D cI [.ref a0, .int x1] (wX1 cI a0 a1 R) (wX1 cI a0 a1 R) (some (.int o)) := by
  refine Ct.of (cc := cX1_nextAngle) (maxL := 2) (ret := (some .int)) (by decide) rfl (Nat.le_of_ble_eq_true rfl) ?_
  intro p e s m args below meth c A F hP hD hS ls hl
  obtain ⟨hx, hb, hml, hr, hown, hts, hlk, hK, hA⟩ := F
  have hown : s.vm.findClass RX1 = some m.cls := hown
  have hl : lv_has ls 2 [(0, .ref a0), (1, .int x1)] := hl
  have hinX1 : ∀ w ∈ wsX10, w ∈ wsX1_nextAngle := by decide +kernel
  have hfl11 := hts (.fieldLink RX1 11 "CraneGuard$Site" "row" "[I") (by decide +kernel)
  unfold fX1_nextAngle at hf
  refine lv_aload_n hx hb dX1_nextAngle_0 rfl (lv_at hl 0 rfl) ?_
  refine va_get (D := D) (ci := 1) (v := .ref a1) (C := RX1) (T := TX1) (N := 1) hx hb hts hinX1 hown hK.1 hP 0 rfl rfl 0 (by decide) hfl11 (fun _ h9 => h9) rfl dX1_nextAngle_1 ?_
  refine lv_iconst (v := (4 : Int32)) hx hb dX1_nextAngle_4 (by decide) ?_
  refine lv_iload_n hx hb dX1_nextAngle_5 rfl (lv_at hl 1 rfl) ?_
  refine lv_iadd hx hb dX1_nextAngle_6 ?_
  obtain ⟨v6, h7, hf⟩ := kBind hf
  refine krd hx hb hK hP 1 rfl h7 dX1_nextAngle_7 ?_
  refine lv_aload_n hx hb dX1_nextAngle_8 rfl (lv_at hl 0 rfl) ?_
  refine va_get (D := D) (ci := 1) (v := .ref a1) (C := RX1) (T := TX1) (N := 1) hx hb hts hinX1 hown hK.1 hP 0 rfl rfl 0 (by decide) hfl11 (fun _ h9 => h9) rfl dX1_nextAngle_9 ?_
  refine lv_bipush (v := (20 : Int32)) hx hb dX1_nextAngle_12 (by decide) ?_
  refine lv_iload_n hx hb dX1_nextAngle_14 rfl (lv_at hl 1 rfl) ?_
  refine lv_iadd hx hb dX1_nextAngle_15 ?_
  obtain ⟨v8, h9, hf⟩ := kBind hf
  refine krd hx hb hK hP 1 rfl h9 dX1_nextAngle_16 ?_
  refine lv_iadd hx hb dX1_nextAngle_17 ?_
  refine lv_bipush (v := (36 : Int32)) hx hb dX1_nextAngle_18 (by decide) ?_
  refine lv_iadd hx hb dX1_nextAngle_20 ?_
  refine lv_bipush (v := (36 : Int32)) hx hb dX1_nextAngle_21 (by decide) ?_
  refine kirem hx hb dX1_nextAngle_23 (by decide) ?_
  obtain ⟨z10, hz10⟩ : ∃ z : Int32, z = jrem ((v6 + v8) + (36 : Int32)) (36 : Int32) := ⟨_, rfl⟩
  rw [← hz10] at hf
  rw [← hz10]
  have he := Option.some.inj hf
  subst he
  exact kreti hx hb hr hlk hP hD hS dX1_nextAngle_24
set_option maxHeartbeats 4000000 in
set_option maxRecDepth 100000 in
theorem kX1_zonesOccupiedBy (l : Launch) (D : va_G) (cI : ClassId) (fu : Nat) (a0 a1 : Nat) (R : (Nat → Int32)) (x1 : Int32) (o : Int32) (hf : fX1_zonesOccupiedBy fu R x1 = some o) : Ct l yX1_zonesOccupiedBy wsX1_zonesOccupiedBy { frames := 1, cells := 0, slots := 0, locals := 26 } D cI [.ref a0, .int x1] (wX1 cI a0 a1 R) (wX1 cI a0 a1 R) (some (.int o)) := by
  refine Ct.of (cc := cX1_zonesOccupiedBy) (maxL := 3) (ret := (some .int)) (by decide) rfl (Nat.le_of_ble_eq_true rfl) ?_
  intro p e s m args below meth c A F hP hD hS ls hl
  obtain ⟨hx, hb, hml, hr, hown, hts, hlk, hK, hA⟩ := F
  have hown : s.vm.findClass RX1 = some m.cls := hown
  have hl : lv_has ls 3 [(0, .ref a0), (1, .int x1)] := hl
  have hinX1 : ∀ w ∈ wsX10, w ∈ wsX1_zonesOccupiedBy := by decide +kernel
  have hfl11 := hts (.fieldLink RX1 11 "CraneGuard$Site" "row" "[I") (by decide +kernel)
  unfold fX1_zonesOccupiedBy at hf
  refine lv_aload_n hx hb dX1_zonesOccupiedBy_0 rfl (lv_at hl 0 rfl) ?_
  refine lv_iload_n hx hb dX1_zonesOccupiedBy_1 rfl (lv_at hl 1 rfl) ?_
  obtain ⟨v18, h19, hf⟩ := kBind hf
  refine kgoR (krunV (wc := (wX1 cI a0 a1 R)) (As := [.int x1]) (rest := []) (ci := 1) hx hb hml hown hts hK (kX1_isLeft l D cI a0 a1 R x1 v18 h19) gX1_zonesOccupiedBy_X1_isLeft rfl rfl rfl hdX1_isLeft ⟨Nat.le_of_ble_eq_true rfl, Nat.le_of_ble_eq_true rfl⟩ hP hD rfl rfl rfl rfl hl.1 rfl (Nat.le_of_ble_eq_true rfl) dX1_zonesOccupiedBy_2 ⟨Nat.zero_le _, Nat.zero_le _⟩) hP hD hS hA [0, 1] rfl (fun H locs hP hS => ?_)
  refine kif_eqb (tgt := 14) hx hb dX1_zonesOccupiedBy_5 (by decide) (fun c20 => ?_) (fun c20 => ?_)
  · have hf := kIfF c20 hf
    refine lv_aload_n hx hb dX1_zonesOccupiedBy_14 rfl (lv_at hl 0 rfl) ?_
    refine lv_iload_n hx hb dX1_zonesOccupiedBy_15 rfl (lv_at hl 1 rfl) ?_
    refine lv_aload_n hx hb dX1_zonesOccupiedBy_16 rfl (lv_at hl 0 rfl) ?_
    refine va_get (D := D) (ci := 1) (v := .ref a1) (C := RX1) (T := TX1) (N := 1) hx hb hts hinX1 hown hK.1 hP 0 rfl rfl 0 (by decide) hfl11 (fun _ h9 => h9) rfl dX1_zonesOccupiedBy_17 ?_
    refine lv_iconst (v := (4 : Int32)) hx hb dX1_zonesOccupiedBy_20 (by decide) ?_
    refine lv_iload_n hx hb dX1_zonesOccupiedBy_21 rfl (lv_at hl 1 rfl) ?_
    refine lv_iadd hx hb dX1_zonesOccupiedBy_22 ?_
    obtain ⟨v21, h22, hf⟩ := kBind hf
    refine krd hx hb hK hP 1 rfl h22 dX1_zonesOccupiedBy_23 ?_
    obtain ⟨v23, h24, hf⟩ := kBind hf
    refine kgoR (krunV (wc := (wX1 cI a0 a1 R)) (As := [.int x1, .int v21]) (rest := []) (ci := 1) hx hb hml hown hts hK (kX1_zonesAtAngle l D cI fu a0 a1 R x1 v21 v23 h24) gX1_zonesOccupiedBy_X1_zonesAtAngle rfl rfl rfl hdX1_zonesAtAngle ⟨Nat.le_of_ble_eq_true rfl, Nat.le_of_ble_eq_true rfl⟩ hP hD rfl rfl rfl rfl hl.1 rfl (Nat.le_of_ble_eq_true rfl) dX1_zonesOccupiedBy_24 ⟨Nat.zero_le _, Nat.zero_le _⟩) hP hD hS hA [0, 1] rfl (fun H locs hP hS => ?_)
    refine lv_istore_n (lv' := [(2, .int v23), (0, .ref a0), (1, .int x1)]) hx hb dX1_zonesOccupiedBy_27 rfl hl (by decide) rfl (fun ls hl => ?_)
    refine lv_aload_n hx hb dX1_zonesOccupiedBy_28 rfl (lv_at hl 1 rfl) ?_
    refine lv_iload_n hx hb dX1_zonesOccupiedBy_29 rfl (lv_at hl 2 rfl) ?_
    obtain ⟨v25, h26, hf⟩ := kBind hf
    refine kgoR (krunV (wc := (wX1 cI a0 a1 R)) (As := [.int x1]) (rest := []) (ci := 1) hx hb hml hown hts hK (kX1_isOnStep l D cI a0 a1 R x1 v25 h26) gX1_zonesOccupiedBy_X1_isOnStep rfl rfl rfl hdX1_isOnStep ⟨Nat.le_of_ble_eq_true rfl, Nat.le_of_ble_eq_true rfl⟩ hP hD rfl rfl rfl rfl hl.1 rfl (Nat.le_of_ble_eq_true rfl) dX1_zonesOccupiedBy_30 ⟨Nat.zero_le _, Nat.zero_le _⟩) hP hD hS hA [0, 1] rfl (fun H locs hP hS => ?_)
    refine kif_eqb (tgt := 51) hx hb dX1_zonesOccupiedBy_33 (by decide) (fun c27 => ?_) (fun c27 => ?_)
    · have hf := kIfF c27 hf
      refine lv_iload_n hx hb dX1_zonesOccupiedBy_51 rfl (lv_at hl 0 rfl) ?_
      have he := Option.some.inj hf
      subst he
      exact kreti hx hb hr hlk hP hD hS dX1_zonesOccupiedBy_52
    · have hf := kIfT c27 hf
      refine lv_iload_n hx hb dX1_zonesOccupiedBy_36 rfl (lv_at hl 0 rfl) ?_
      refine lv_aload_n hx hb dX1_zonesOccupiedBy_37 rfl (lv_at hl 1 rfl) ?_
      refine lv_iload_n hx hb dX1_zonesOccupiedBy_38 rfl (lv_at hl 2 rfl) ?_
      refine lv_aload_n hx hb dX1_zonesOccupiedBy_39 rfl (lv_at hl 1 rfl) ?_
      refine lv_iload_n hx hb dX1_zonesOccupiedBy_40 rfl (lv_at hl 2 rfl) ?_
      obtain ⟨v28, h29, hf⟩ := kBind hf
      refine kgoR (krunV (wc := (wX1 cI a0 a1 R)) (As := [.int x1]) (rest := [.int x1, .ref a0, .int v23]) (ci := 1) hx hb hml hown hts hK (kX1_nextAngle l D cI a0 a1 R x1 v28 h29) gX1_zonesOccupiedBy_X1_nextAngle rfl rfl rfl hdX1_nextAngle ⟨Nat.le_of_ble_eq_true rfl, Nat.le_of_ble_eq_true rfl⟩ hP hD rfl rfl rfl rfl hl.1 rfl (Nat.le_of_ble_eq_true rfl) dX1_zonesOccupiedBy_41 ⟨Nat.zero_le _, Nat.zero_le _⟩) hP hD hS hA [0, 1] rfl (fun H locs hP hS => ?_)
      obtain ⟨v30, h31, hf⟩ := kBind hf
      refine kgoR (krunV (wc := (wX1 cI a0 a1 R)) (As := [.int x1, .int v28]) (rest := [.int v23]) (ci := 1) hx hb hml hown hts hK (kX1_zonesAtAngle l D cI fu a0 a1 R x1 v28 v30 h31) gX1_zonesOccupiedBy_X1_zonesAtAngle rfl rfl rfl hdX1_zonesAtAngle ⟨Nat.le_of_ble_eq_true rfl, Nat.le_of_ble_eq_true rfl⟩ hP hD rfl rfl rfl rfl hl.1 rfl (Nat.le_of_ble_eq_true rfl) dX1_zonesOccupiedBy_44 ⟨Nat.zero_le _, Nat.zero_le _⟩) hP hD hS hA [0, 1] rfl (fun H locs hP hS => ?_)
      refine lv_ior hx hb dX1_zonesOccupiedBy_47 ?_
      refine lv_goto (tgt := 52) hx hb dX1_zonesOccupiedBy_48 (by decide) ?_
      obtain ⟨z32, hz32⟩ : ∃ z : Int32, z = v23 ||| v30 := ⟨_, rfl⟩
      rw [← hz32] at hf
      rw [← hz32]
      have he := Option.some.inj hf
      subst he
      exact kreti hx hb hr hlk hP hD hS dX1_zonesOccupiedBy_52
  · have hf := kIfT c20 hf
    refine lv_aload_n hx hb dX1_zonesOccupiedBy_8 rfl (lv_at hl 0 rfl) ?_
    refine lv_iload_n hx hb dX1_zonesOccupiedBy_9 rfl (lv_at hl 1 rfl) ?_
    obtain ⟨v33, h34, hf⟩ := kBind hf
    refine kgoR (krunV (wc := (wX1 cI a0 a1 R)) (As := [.int x1]) (rest := []) (ci := 1) hx hb hml hown hts hK (kX1_zonesWithArc l D cI fu a0 a1 R x1 v33 h34) gX1_zonesOccupiedBy_X1_zonesWithArc rfl rfl rfl hdX1_zonesWithArc ⟨Nat.le_of_ble_eq_true rfl, Nat.le_of_ble_eq_true rfl⟩ hP hD rfl rfl rfl rfl hl.1 rfl (Nat.le_of_ble_eq_true rfl) dX1_zonesOccupiedBy_10 ⟨Nat.zero_le _, Nat.zero_le _⟩) hP hD hS hA [0, 1] rfl (fun H locs hP hS => ?_)
    have he := Option.some.inj hf
    subst he
    exact kreti hx hb hr hlk hP hD hS dX1_zonesOccupiedBy_13
set_option maxHeartbeats 4000000 in
set_option maxRecDepth 100000 in
theorem kX1_occupantsOf (l : Launch) (D : va_G) (cI : ClassId) (fu : Nat) (a0 a1 : Nat) (R : (Nat → Int32)) (x1 : Int32) (o : Int32) (hf : fX1_occupantsOf fu R x1 = some o) : Ct l yX1_occupantsOf wsX1_occupantsOf { frames := 2, cells := 0, slots := 0, locals := 48 } D cI [.ref a0, .int x1] (wX1 cI a0 a1 R) (wX1 cI a0 a1 R) (some (.int o)) := by
  refine Ct.of (cc := cX1_occupantsOf) (maxL := 4) (ret := (some .int)) (by decide) rfl (Nat.le_of_ble_eq_true rfl) ?_
  intro p e s m args below meth c A F hP hD hS ls hl
  obtain ⟨hx, hb, hml, hr, hown, hts, hlk, hK, hA⟩ := F
  have hown : s.vm.findClass RX1 = some m.cls := hown
  have hl : lv_has ls 4 [(0, .ref a0), (1, .int x1)] := hl
  have hinX1 : ∀ w ∈ wsX10, w ∈ wsX1_occupantsOf := by decide +kernel
  have hfl11 := hts (.fieldLink RX1 11 "CraneGuard$Site" "row" "[I") (by decide +kernel)
  unfold fX1_occupantsOf at hf
  refine lv_iconst (v := (0 : Int32)) hx hb dX1_occupantsOf_0 (by decide) ?_
  refine lv_istore_n (lv' := [(2, .int (0 : Int32)), (0, .ref a0), (1, .int x1)]) hx hb dX1_occupantsOf_1 rfl hl (by decide) rfl (fun ls hl => ?_)
  refine lv_iconst (v := (0 : Int32)) hx hb dX1_occupantsOf_2 (by decide) ?_
  refine lv_istore_n (lv' := [(3, .int (0 : Int32)), (2, .int (0 : Int32)), (0, .ref a0), (1, .int x1)]) hx hb dX1_occupantsOf_3 rfl hl (by decide) rfl (fun ls hl => ?_)
  have hl : lv_has ls 4 [(3, .int (0 : Int32)), (2, .int (0 : Int32)), (0, .ref a0), (1, .int x1)] := hl
  refine klp hf (fun t4 : Int32 × Int32 => (wX1 cI a0 a1 R)) 4 (fun t4 : Int32 × Int32 => [(3, .int t4.2), (2, .int t4.1), (0, .ref a0), (1, .int x1)]) ?_ hP hD hS hl
  intro t4 x4_ hf hI1 hO1 H locs ls hP hD hS hl
  unfold fX1_occupantsOf_L4 at hf
  have hP : va_P D vwCl (wX1 cI a0 a1 R) H := hP
  have hD : va_D A (wX1 cI a0 a1 R) := hD
  have hl : lv_has ls 4 [(3, .int t4.2), (2, .int t4.1), (0, .ref a0), (1, .int x1)] := hl
  refine lv_iload_n hx hb dX1_occupantsOf_4 rfl (lv_at hl 0 rfl) ?_
  refine lv_aload_n hx hb dX1_occupantsOf_5 rfl (lv_at hl 2 rfl) ?_
  refine va_get (D := D) (ci := 1) (v := .ref a1) (C := RX1) (T := TX1) (N := 1) hx hb hts hinX1 hown hK.1 hP 0 rfl rfl 0 (by decide) hfl11 (fun _ h9 => h9) rfl dX1_occupantsOf_6 ?_
  refine lv_iconst (v := (2 : Int32)) hx hb dX1_occupantsOf_9 (by decide) ?_
  obtain ⟨v19, h20, hf⟩ := kBind hf
  refine krd hx hb hK hP 1 rfl h20 dX1_occupantsOf_10 ?_
  refine lv_icmp_ge (tgt := 38) hx hb dX1_occupantsOf_11 (by decide) (fun c21 => ?_) (fun c21 => ?_)
  · have hf := kIfT c21 hf
    refine lv_iload_n hx hb dX1_occupantsOf_38 rfl (lv_at hl 1 rfl) ?_
    have he := Option.some.inj hf
    have he := hO1 _ he.symm
    subst he
    exact kreti hx hb hr hlk hP hD hS dX1_occupantsOf_39
  · have hf := kIfF c21 hf
    refine lv_aload_n hx hb dX1_occupantsOf_14 rfl (lv_at hl 2 rfl) ?_
    refine lv_iload_n hx hb dX1_occupantsOf_15 rfl (lv_at hl 0 rfl) ?_
    obtain ⟨v22, h23, hf⟩ := kBind hf
    refine kgoR (krunV (wc := (wX1 cI a0 a1 R)) (As := [.int t4.2]) (rest := []) (ci := 1) hx hb hml hown hts hK (kX1_zonesOccupiedBy l D cI fu a0 a1 R t4.2 v22 h23) gX1_occupantsOf_X1_zonesOccupiedBy rfl rfl rfl hdX1_zonesOccupiedBy ⟨Nat.le_of_ble_eq_true rfl, Nat.le_of_ble_eq_true rfl⟩ hP hD rfl rfl rfl rfl hl.1 rfl (Nat.le_of_ble_eq_true rfl) dX1_occupantsOf_16 ⟨Nat.zero_le _, Nat.zero_le _⟩) hP hD hS hA [0, 1] rfl (fun H locs hP hS => ?_)
    refine lv_iconst (v := (1 : Int32)) hx hb dX1_occupantsOf_19 (by decide) ?_
    refine lv_iload_n hx hb dX1_occupantsOf_20 rfl (lv_at hl 3 rfl) ?_
    refine kishl hx hb dX1_occupantsOf_21 ?_
    refine lv_iand hx hb dX1_occupantsOf_22 ?_
    refine lv_if_eq (tgt := 32) hx hb dX1_occupantsOf_23 (by decide) (fun c24 => ?_) (fun c24 => ?_)
    · have hf := kIfT c24 hf
      refine lv_iinc (v := t4.2 + (1 : Int32)) (lv' := [(3, .int (t4.2 + (1 : Int32))), (2, .int t4.1), (0, .ref a0), (1, .int x1)]) hx hb dX1_occupantsOf_32 hl (k := 0) rfl rfl (by decide) rfl (fun ls hl => ?_)
      refine lv_goto (tgt := 4) hx hb dX1_occupantsOf_35 (by decide) ?_
      obtain ⟨z25, hz25⟩ : ∃ z : Int32, z = t4.2 + (1 : Int32) := ⟨_, rfl⟩
      rw [← hz25] at hf
      have he := (Option.some.inj hf).symm
      have hl : lv_has ls 4 [(3, .int z25), (2, .int t4.1), (0, .ref a0), (1, .int x1)] := by rw [hz25]; exact lv_sub hl [0, 1, 2, 3] rfl
      exact hI1 _ he H locs ls hP hD hS hl
    · have hf := kIfF c24 hf
      refine lv_iload_n hx hb dX1_occupantsOf_26 rfl (lv_at hl 1 rfl) ?_
      refine lv_iconst (v := (1 : Int32)) hx hb dX1_occupantsOf_27 (by decide) ?_
      refine lv_iload_n hx hb dX1_occupantsOf_28 rfl (lv_at hl 0 rfl) ?_
      refine kishl hx hb dX1_occupantsOf_29 ?_
      refine lv_ior hx hb dX1_occupantsOf_30 ?_
      refine lv_istore_n (lv' := [(2, .int (t4.1 ||| (jshl (1 : Int32) t4.2))), (3, .int t4.2), (0, .ref a0), (1, .int x1)]) hx hb dX1_occupantsOf_31 rfl hl (by decide) rfl (fun ls hl => ?_)
      refine lv_iinc (v := t4.2 + (1 : Int32)) (lv' := [(3, .int (t4.2 + (1 : Int32))), (2, .int (t4.1 ||| (jshl (1 : Int32) t4.2))), (0, .ref a0), (1, .int x1)]) hx hb dX1_occupantsOf_32 hl (k := 1) rfl rfl (by decide) rfl (fun ls hl => ?_)
      refine lv_goto (tgt := 4) hx hb dX1_occupantsOf_35 (by decide) ?_
      obtain ⟨z26, hz26⟩ : ∃ z : Int32, z = t4.1 ||| (jshl (1 : Int32) t4.2) := ⟨_, rfl⟩
      rw [← hz26] at hf
      obtain ⟨z27, hz27⟩ : ∃ z : Int32, z = t4.2 + (1 : Int32) := ⟨_, rfl⟩
      rw [← hz27] at hf
      have he := (Option.some.inj hf).symm
      have hl : lv_has ls 4 [(3, .int z27), (2, .int z26), (0, .ref a0), (1, .int x1)] := by rw [hz26, hz27]; exact lv_sub hl [0, 1, 2, 3] rfl
      exact hI1 _ he H locs ls hP hD hS hl
set_option maxHeartbeats 4000000 in
set_option maxRecDepth 100000 in
theorem kX1_isConflict (l : Launch) (D : va_G) (cI : ClassId) (fu : Nat) (a0 a1 : Nat) (R : (Nat → Int32)) (x1 : Int32) (o : Bool) (hf : fX1_isConflict fu R x1 = some o) : Ct l yX1_isConflict wsX1_isConflict { frames := 3, cells := 0, slots := 0, locals := 71 } D cI [.ref a0, .int x1] (wX1 cI a0 a1 R) (wX1 cI a0 a1 R) (some (.int (bI o))) := by
  refine Ct.of (cc := cX1_isConflict) (maxL := 2) (ret := (some .boolean)) (by decide) rfl (Nat.le_of_ble_eq_true rfl) ?_
  intro p e s m args below meth c A F hP hD hS ls hl
  obtain ⟨hx, hb, hml, hr, hown, hts, hlk, hK, hA⟩ := F
  have hown : s.vm.findClass RX1 = some m.cls := hown
  have hl : lv_has ls 2 [(0, .ref a0), (1, .int x1)] := hl
  unfold fX1_isConflict at hf
  refine lv_aload_n hx hb dX1_isConflict_0 rfl (lv_at hl 0 rfl) ?_
  refine lv_iload_n hx hb dX1_isConflict_1 rfl (lv_at hl 1 rfl) ?_
  obtain ⟨v6, h7, hf⟩ := kBind hf
  refine kgoR (krunV (wc := (wX1 cI a0 a1 R)) (As := [.int x1]) (rest := []) (ci := 1) hx hb hml hown hts hK (kX1_occupantsOf l D cI fu a0 a1 R x1 v6 h7) gX1_isConflict_X1_occupantsOf rfl rfl rfl hdX1_occupantsOf ⟨Nat.le_of_ble_eq_true rfl, Nat.le_of_ble_eq_true rfl⟩ hP hD rfl rfl rfl rfl hl.1 rfl (Nat.le_of_ble_eq_true rfl) dX1_isConflict_2 ⟨Nat.zero_le _, Nat.zero_le _⟩) hP hD hS hA [0, 1] rfl (fun H locs hP hS => ?_)
  obtain ⟨v8, h9, hf⟩ := kBind hf
  refine kgoR (krunS (wc := ([] : va_W)) (As := [.int v6]) (rest := []) hx hb hml hown hts hK (kJ6_bitCount_0f7a4 l D cI v6 v8 h9) gX1_isConflict_J6_bitCount_0f7a4 rfl rfl rfl hdJ6_bitCount_0f7a4 ⟨Nat.le_of_ble_eq_true rfl, Nat.le_of_ble_eq_true rfl⟩ k_P0 (k_D0 A) rfl hl.1 rfl (Nat.le_of_ble_eq_true rfl) dX1_isConflict_5 ⟨Nat.zero_le _, Nat.zero_le _⟩) hP hD hS hA [] rfl (fun H locs hP hS => ?_)
  refine lv_iconst (v := (1 : Int32)) hx hb dX1_isConflict_8 (by decide) ?_
  refine lv_icmp_le (tgt := 16) hx hb dX1_isConflict_9 (by decide) (fun c10 => ?_) (fun c10 => ?_)
  · have hf := kIfT c10 hf
    refine lv_iconst (v := (0 : Int32)) hx hb dX1_isConflict_16 (by decide) ?_
    have he := Option.some.inj hf
    subst he
    exact kretz hx hb hr hlk hP hD hS dX1_isConflict_17
  · have hf := kIfF c10 hf
    refine lv_iconst (v := (1 : Int32)) hx hb dX1_isConflict_12 (by decide) ?_
    refine lv_goto (tgt := 17) hx hb dX1_isConflict_13 (by decide) ?_
    have he := Option.some.inj hf
    subst he
    exact kretz hx hb hr hlk hP hD hS dX1_isConflict_17
set_option maxHeartbeats 4000000 in
set_option maxRecDepth 100000 in
theorem kX3_wouldMakeConflict (l : Launch) (D : va_G) (cI : ClassId) (fu : Nat) (a0 a1 a2 a3 a4 a5 a6 a7 a8 a9 a10 a11 : Nat) (R : (Nat → Int32)) (R2 : (Nat → Int32)) (HR : (Nat → Int32)) (HS : Int32) (HN : Int32) (TB : (Nat → Int32)) (LN : Int32) (PS : Int32) (TC : (Nat → Int32)) (TW : (Nat → Int32)) (TG : (Nat → Int32)) (CM : Int32) (x1 : Int32) (x2 : Int32) (x3 : Int32) (x4 : Int32) (o : Bool × (Nat → Int32)) (hf : fX3_wouldMakeConflict fu R R2 x1 x2 x3 x4 = some o) : Ct l yX3_wouldMakeConflict wsX3_wouldMakeConflict { frames := 4, cells := 0, slots := 0, locals := 92 } D cI [.ref a0, .int x1, .int x2, .int x3, .int x4] (wX3 cI a0 a1 a2 a3 a4 a5 a6 a7 a8 a9 a10 a11 R R2 HR HS HN TB LN PS TC TW TG CM) (wX3 cI a0 a1 a2 a3 a4 a5 a6 a7 a8 a9 a10 a11 R o.2 HR HS HN TB LN PS TC TW TG CM) (some (.int (bI o.1))) := by
  refine Ct.of (cc := cX3_wouldMakeConflict) (maxL := 5) (ret := (some .boolean)) (by decide) rfl (Nat.le_of_ble_eq_true rfl) ?_
  intro p e s m args below meth c A F hP hD hS ls hl
  obtain ⟨hx, hb, hml, hr, hown, hts, hlk, hK, hA⟩ := F
  have hown : s.vm.findClass RX3 = some m.cls := hown
  have hl : lv_has ls 5 [(0, .ref a0), (1, .int x1), (2, .int x2), (3, .int x3), (4, .int x4)] := hl
  have hinX3 : ∀ w ∈ wsX30, w ∈ wsX3_wouldMakeConflict := by decide +kernel
  have hfl10 := hts (.fieldLink RX3 10 "CraneGuard" "site" "LCraneGuard$Site;") (by decide +kernel)
  have hfl16 := hts (.fieldLink RX3 16 "CraneGuard" "trial" "LCraneGuard$Site;") (by decide +kernel)
  unfold fX3_wouldMakeConflict at hf
  refine lv_aload_n hx hb dX3_wouldMakeConflict_0 rfl (lv_at hl 0 rfl) ?_
  refine va_get (D := D) (ci := 3) (v := .ref a3) (C := RX3) (T := TX3) (N := 4) hx hb hts hinX3 hown hK.1 hP 0 rfl rfl 1 (by decide) hfl16 (fun _ h9 => h9) rfl dX3_wouldMakeConflict_1 ?_
  refine lv_aload_n hx hb dX3_wouldMakeConflict_4 rfl (lv_at hl 0 rfl) ?_
  refine va_get (D := D) (ci := 3) (v := .ref a1) (C := RX3) (T := TX3) (N := 4) hx hb hts hinX3 hown hK.1 hP 0 rfl rfl 0 (by decide) hfl10 (fun _ h9 => h9) rfl dX3_wouldMakeConflict_5 ?_
  obtain ⟨v11, h12, hf⟩ := kBind hf
  refine kgoJ (wr := [(a0, .inr (3, [.ref a1, .ref a3, .ref a5, .ref a7])), (a5, .inr (0, [.ref a6, .int HS, .int HN])), (a6, .inl (cI, 660, .inl HR)), (a7, .inr (2, [.ref a8, .int LN, .int PS, .ref a9, .ref a10, .ref a11, .int CM])), (a8, .inl (cI, 80, .inl TB)), (a9, .inl (cI, 20, .inl TC)), (a10, .inl (cI, 20, .inl TW)), (a11, .inl (cI, 20, .inl TG))]) (w2 := (wX3 cI a0 a1 a2 a3 a4 a5 a6 a7 a8 a9 a10 a11 R v11 HR HS HN TB LN PS TC TW TG CM)) (krunV (wc := (wX1_X1 cI a3 a4 a1 a2 R2 R)) (As := [.ref a1]) (rest := []) (ci := 1) hx hb hml hown hts hK (kX1_copyFrom l D cI a3 a4 a1 a2 R2 R v11 h12) gX3_wouldMakeConflict_X1_copyFrom rfl rfl rfl hdX1_copyFrom ⟨Nat.le_of_ble_eq_true rfl, Nat.le_of_ble_eq_true rfl⟩ (hP.sub [3, 4, 1, 2] rfl) (hD.sub [3, 4, 1, 2] (by decide) rfl) rfl rfl rfl rfl hl.1 rfl (Nat.le_of_ble_eq_true rfl) dX3_wouldMakeConflict_8 ⟨Nat.zero_le _, Nat.zero_le _⟩) hP hD hS hA [3, 4, 1, 2] [0, 5, 6, 7, 8, 9, 10, 11] [0, 10, 11, 8, 9, 1, 2, 3, 4, 5, 6, 7] rfl rfl (by decide) (by decide) (by decide) rfl (fun H locs hP hD hS => ?_)
  refine lv_aload_n hx hb dX3_wouldMakeConflict_11 rfl (lv_at hl 0 rfl) ?_
  refine va_get (D := D) (ci := 3) (v := .ref a3) (C := RX3) (T := TX3) (N := 4) hx hb hts hinX3 hown hK.1 hP 0 rfl rfl 1 (by decide) hfl16 (fun _ h9 => h9) rfl dX3_wouldMakeConflict_12 ?_
  refine lv_iload_n hx hb dX3_wouldMakeConflict_15 rfl (lv_at hl 1 rfl) ?_
  refine lv_iload_n hx hb dX3_wouldMakeConflict_16 rfl (lv_at hl 2 rfl) ?_
  refine lv_iload_n hx hb dX3_wouldMakeConflict_17 rfl (lv_at hl 3 rfl) ?_
  refine lv_iload hx hb dX3_wouldMakeConflict_18 (lv_at hl 4 rfl) ?_
  obtain ⟨v13, h14, hf⟩ := kBind hf
  refine kgoJ (wr := [(a0, .inr (3, [.ref a1, .ref a3, .ref a5, .ref a7])), (a1, .inr (1, [.ref a2])), (a2, .inl (cI, 132, .inl R)), (a5, .inr (0, [.ref a6, .int HS, .int HN])), (a6, .inl (cI, 660, .inl HR)), (a7, .inr (2, [.ref a8, .int LN, .int PS, .ref a9, .ref a10, .ref a11, .int CM])), (a8, .inl (cI, 80, .inl TB)), (a9, .inl (cI, 20, .inl TC)), (a10, .inl (cI, 20, .inl TW)), (a11, .inl (cI, 20, .inl TG))]) (w2 := (wX3 cI a0 a1 a2 a3 a4 a5 a6 a7 a8 a9 a10 a11 R v13 HR HS HN TB LN PS TC TW TG CM)) (krunV (wc := (wX1 cI a3 a4 v11)) (As := [.int x1, .int x2, .int x3, .int x4]) (rest := []) (ci := 1) hx hb hml hown hts hK (kX1_setLimits l D cI a3 a4 v11 x1 x2 x3 x4 v13 h14) gX3_wouldMakeConflict_X1_setLimits rfl rfl rfl hdX1_setLimits ⟨Nat.le_of_ble_eq_true rfl, Nat.le_of_ble_eq_true rfl⟩ (hP.sub [3, 4] rfl) (hD.sub [3, 4] (by decide) rfl) rfl rfl rfl rfl hl.1 rfl (Nat.le_of_ble_eq_true rfl) dX3_wouldMakeConflict_20 ⟨Nat.zero_le _, Nat.zero_le _⟩) hP hD hS hA [3, 4] [0, 1, 2, 5, 6, 7, 8, 9, 10, 11] [0, 1, 2, 10, 11, 3, 4, 5, 6, 7, 8, 9] rfl rfl (by decide) (by decide) (by decide) rfl (fun H locs hP hD hS => ?_)
  refine lv_aload_n hx hb dX3_wouldMakeConflict_23 rfl (lv_at hl 0 rfl) ?_
  refine va_get (D := D) (ci := 3) (v := .ref a3) (C := RX3) (T := TX3) (N := 4) hx hb hts hinX3 hown hK.1 hP 0 rfl rfl 1 (by decide) hfl16 (fun _ h9 => h9) rfl dX3_wouldMakeConflict_24 ?_
  refine lv_iload_n hx hb dX3_wouldMakeConflict_27 rfl (lv_at hl 2 rfl) ?_
  obtain ⟨v15, h16, hf⟩ := kBind hf
  refine kgoR (krunV (wc := (wX1 cI a3 a4 v13)) (As := [.int x2]) (rest := []) (ci := 1) hx hb hml hown hts hK (kX1_isConflict l D cI fu a3 a4 v13 x2 v15 h16) gX3_wouldMakeConflict_X1_isConflict rfl rfl rfl hdX1_isConflict ⟨Nat.le_of_ble_eq_true rfl, Nat.le_of_ble_eq_true rfl⟩ (hP.sub [3, 4] rfl) (hD.sub [3, 4] (by decide) rfl) rfl rfl rfl rfl hl.1 rfl (Nat.le_of_ble_eq_true rfl) dX3_wouldMakeConflict_28 ⟨Nat.zero_le _, Nat.zero_le _⟩) hP hD hS hA [3, 4] rfl (fun H locs hP hS => ?_)
  refine kif_eqb (tgt := 49) hx hb dX3_wouldMakeConflict_31 (by decide) (fun c17 => ?_) (fun c17 => ?_)
  · have hf := kIfF c17 hf
    refine lv_iconst (v := (0 : Int32)) hx hb dX3_wouldMakeConflict_49 (by decide) ?_
    have he := Option.some.inj hf
    subst he
    exact kretz hx hb hr hlk hP hD hS dX3_wouldMakeConflict_50
  · have hf := kIfT c17 hf
    refine lv_aload_n hx hb dX3_wouldMakeConflict_34 rfl (lv_at hl 0 rfl) ?_
    refine va_get (D := D) (ci := 3) (v := .ref a1) (C := RX3) (T := TX3) (N := 4) hx hb hts hinX3 hown hK.1 hP 0 rfl rfl 0 (by decide) hfl10 (fun _ h9 => h9) rfl dX3_wouldMakeConflict_35 ?_
    refine lv_iload_n hx hb dX3_wouldMakeConflict_38 rfl (lv_at hl 2 rfl) ?_
    obtain ⟨v18, h19, hf⟩ := kBind hf
    refine kgoR (krunV (wc := (wX1 cI a1 a2 R)) (As := [.int x2]) (rest := []) (ci := 1) hx hb hml hown hts hK (kX1_isConflict l D cI fu a1 a2 R x2 v18 h19) gX3_wouldMakeConflict_X1_isConflict rfl rfl rfl hdX1_isConflict ⟨Nat.le_of_ble_eq_true rfl, Nat.le_of_ble_eq_true rfl⟩ (hP.sub [1, 2] rfl) (hD.sub [1, 2] (by decide) rfl) rfl rfl rfl rfl hl.1 rfl (Nat.le_of_ble_eq_true rfl) dX3_wouldMakeConflict_39 ⟨Nat.zero_le _, Nat.zero_le _⟩) hP hD hS hA [1, 2] rfl (fun H locs hP hS => ?_)
    refine kif_neb (tgt := 49) hx hb dX3_wouldMakeConflict_42 (by decide) (fun c20 => ?_) (fun c20 => ?_)
    · have hf := kIfT c20 hf
      refine lv_iconst (v := (0 : Int32)) hx hb dX3_wouldMakeConflict_49 (by decide) ?_
      have he := Option.some.inj hf
      subst he
      exact kretz hx hb hr hlk hP hD hS dX3_wouldMakeConflict_50
    · have hf := kIfF c20 hf
      refine lv_iconst (v := (1 : Int32)) hx hb dX3_wouldMakeConflict_45 (by decide) ?_
      refine lv_goto (tgt := 50) hx hb dX3_wouldMakeConflict_46 (by decide) ?_
      have he := Option.some.inj hf
      subst he
      exact kretz hx hb hr hlk hP hD hS dX3_wouldMakeConflict_50
