set_option maxHeartbeats 4000000 in
set_option maxRecDepth 100000 in
theorem kX1_now (l : Launch) (D : va_G) (cI : ClassId) (a0 a1 : Nat) (R : (Nat → Int32)) (o : Int32) (hf : fX1_now R = some o) : Ct l yX1_now wsX1_now { frames := 0, cells := 0, slots := 0, locals := 0 } D cI [.ref a0] (wX1 cI a0 a1 R) (wX1 cI a0 a1 R) (some (.int o)) := by
  refine Ct.of (cc := cX1_now) (maxL := 1) (ret := (some .int)) (by decide) rfl (Nat.le_of_ble_eq_true rfl) ?_
  intro p e s m args below meth c A F hP hD hS ls hl
  obtain ⟨hx, hb, hml, hr, hown, hts, hlk, hK, hA⟩ := F
  have hown : s.vm.findClass RX1 = some m.cls := hown
  have hl : lv_has ls 1 [(0, .ref a0)] := hl
  have hinX1 : ∀ w ∈ wsX10, w ∈ wsX1_now := by decide +kernel
  have hfl11 := hts (.fieldLink RX1 11 "CraneGuard$Site" "row" "[I") (by decide +kernel)
  unfold fX1_now at hf
  refine lv_aload_n hx hb dX1_now_0 rfl (lv_at hl 0 rfl) ?_
  refine va_get (D := D) (ci := 1) (v := .ref a1) (C := RX1) (T := TX1) (N := 1) hx hb hts hinX1 hown hK.1 hP 0 rfl rfl 0 (by decide) hfl11 (fun _ h9 => h9) rfl dX1_now_1 ?_
  refine lv_iconst (v := (0 : Int32)) hx hb dX1_now_4 (by decide) ?_
  obtain ⟨v3, h4, hf⟩ := kBind hf
  refine krd hx hb hK hP 1 rfl h4 dX1_now_5 ?_
  have he := Option.some.inj hf
  subst he
  exact kreti hx hb hr hlk hP hD hS dX1_now_6
set_option maxHeartbeats 4000000 in
set_option maxRecDepth 100000 in
theorem kX3_shorterWay (l : Launch) (D : va_G) (cI : ClassId) (x0 : Int32) (x1 : Int32) (o : Int32) (hf : fX3_shorterWay x0 x1 = some o) : Ct l yX3_shorterWay wsX3_shorterWay { frames := 1, cells := 0, slots := 0, locals := 21 } D cI [.int x0, .int x1] ([] : va_W) ([] : va_W) (some (.int o)) := by
  refine Ct.of (cc := cX3_shorterWay) (maxL := 2) (ret := (some .int)) (by decide) rfl (Nat.le_of_ble_eq_true rfl) ?_
  intro p e s m args below meth c A F hP hD hS ls hl
  obtain ⟨hx, hb, hml, hr, hown, hts, hlk, hK, hA⟩ := F
  have hown : s.vm.findClass RX3 = some m.cls := hown
  have hl : lv_has ls 2 [(0, .int x0), (1, .int x1)] := hl
  unfold fX3_shorterWay at hf
  refine lv_iload_n hx hb dX3_shorterWay_0 rfl (lv_at hl 0 rfl) ?_
  refine lv_iload_n hx hb dX3_shorterWay_1 rfl (lv_at hl 1 rfl) ?_
  obtain ⟨v4, h5, hf⟩ := kBind hf
  refine kgoR (krunS (wc := ([] : va_W)) (As := [.int x0, .int x1]) (rest := []) hx hb hml hown hts hK (kX3_stepsClockwise l D cI x0 x1 v4 h5) gX3_shorterWay_X3_stepsClockwise rfl rfl rfl hdX3_stepsClockwise ⟨Nat.le_of_ble_eq_true rfl, Nat.le_of_ble_eq_true rfl⟩ k_P0 (k_D0 A) rfl hl.1 rfl (Nat.le_of_ble_eq_true rfl) dX3_shorterWay_2 ⟨Nat.zero_le _, Nat.zero_le _⟩) hP hD hS hA [] rfl (fun H locs hP hS => ?_)
  refine lv_bipush (v := (18 : Int32)) hx hb dX3_shorterWay_5 (by decide) ?_
  refine lv_icmp_gt (tgt := 14) hx hb dX3_shorterWay_7 (by decide) (fun c6 => ?_) (fun c6 => ?_)
  · have hf := kIfT c6 hf
    refine lv_iconst (v := (-1 : Int32)) hx hb dX3_shorterWay_14 (by decide) ?_
    have he := Option.some.inj hf
    subst he
    exact kreti hx hb hr hlk hP hD hS dX3_shorterWay_15
  · have hf := kIfF c6 hf
    refine lv_iconst (v := (1 : Int32)) hx hb dX3_shorterWay_10 (by decide) ?_
    refine lv_goto (tgt := 15) hx hb dX3_shorterWay_11 (by decide) ?_
    have he := Option.some.inj hf
    subst he
    exact kreti hx hb hr hlk hP hD hS dX3_shorterWay_15
set_option maxHeartbeats 4000000 in
set_option maxRecDepth 100000 in
theorem kX1_turnToWind (l : Launch) (D : va_G) (cI : ClassId) (a0 a1 : Nat) (R : (Nat → Int32)) (x1 : Int32) (o : Bool × (Nat → Int32)) (hf : fX1_turnToWind R x1 = some o) : Ct l yX1_turnToWind wsX1_turnToWind { frames := 2, cells := 0, slots := 0, locals := 42 } D cI [.ref a0, .int x1] (wX1 cI a0 a1 R) (wX1 cI a0 a1 o.2) (some (.int (bI o.1))) := by
  refine Ct.of (cc := cX1_turnToWind) (maxL := 3) (ret := (some .boolean)) (by decide) rfl (Nat.le_of_ble_eq_true rfl) ?_
  intro p e s m args below meth c A F hP hD hS ls hl
  obtain ⟨hx, hb, hml, hr, hown, hts, hlk, hK, hA⟩ := F
  have hown : s.vm.findClass RX1 = some m.cls := hown
  have hl : lv_has ls 3 [(0, .ref a0), (1, .int x1)] := hl
  have hinX1 : ∀ w ∈ wsX10, w ∈ wsX1_turnToWind := by decide +kernel
  have hfl11 := hts (.fieldLink RX1 11 "CraneGuard$Site" "row" "[I") (by decide +kernel)
  unfold fX1_turnToWind at hf
  refine lv_aload_n hx hb dX1_turnToWind_0 rfl (lv_at hl 0 rfl) ?_
  refine va_get (D := D) (ci := 1) (v := .ref a1) (C := RX1) (T := TX1) (N := 1) hx hb hts hinX1 hown hK.1 hP 0 rfl rfl 0 (by decide) hfl11 (fun _ h9 => h9) rfl dX1_turnToWind_1 ?_
  refine lv_iconst (v := (4 : Int32)) hx hb dX1_turnToWind_4 (by decide) ?_
  refine lv_iload_n hx hb dX1_turnToWind_5 rfl (lv_at hl 1 rfl) ?_
  refine lv_iadd hx hb dX1_turnToWind_6 ?_
  obtain ⟨v12, h13, hf⟩ := kBind hf
  refine krd hx hb hK hP 1 rfl h13 dX1_turnToWind_7 ?_
  refine lv_istore_n (lv' := [(2, .int v12), (0, .ref a0), (1, .int x1)]) hx hb dX1_turnToWind_8 rfl hl (by decide) rfl (fun ls hl => ?_)
  refine lv_iload_n hx hb dX1_turnToWind_9 rfl (lv_at hl 0 rfl) ?_
  refine lv_aload_n hx hb dX1_turnToWind_10 rfl (lv_at hl 1 rfl) ?_
  refine va_get (D := D) (ci := 1) (v := .ref a1) (C := RX1) (T := TX1) (N := 1) hx hb hts hinX1 hown hK.1 hP 0 rfl rfl 0 (by decide) hfl11 (fun _ h9 => h9) rfl dX1_turnToWind_11 ?_
  refine lv_iconst (v := (1 : Int32)) hx hb dX1_turnToWind_14 (by decide) ?_
  obtain ⟨v14, h15, hf⟩ := kBind hf
  refine krd hx hb hK hP 1 rfl h15 dX1_turnToWind_15 ?_
  refine lv_icmp_ne (tgt := 21) hx hb dX1_turnToWind_16 (by decide) (fun c16 => ?_) (fun c16 => ?_)
  · have hf := kIfF c16 hf
    refine lv_aload_n hx hb dX1_turnToWind_21 rfl (lv_at hl 1 rfl) ?_
    refine va_get (D := D) (ci := 1) (v := .ref a1) (C := RX1) (T := TX1) (N := 1) hx hb hts hinX1 hown hK.1 hP 0 rfl rfl 0 (by decide) hfl11 (fun _ h9 => h9) rfl dX1_turnToWind_22 ?_
    refine lv_iconst (v := (4 : Int32)) hx hb dX1_turnToWind_25 (by decide) ?_
    refine lv_iload_n hx hb dX1_turnToWind_26 rfl (lv_at hl 2 rfl) ?_
    refine lv_iadd hx hb dX1_turnToWind_27 ?_
    refine lv_iload_n hx hb dX1_turnToWind_28 rfl (lv_at hl 0 rfl) ?_
    refine lv_iload_n hx hb dX1_turnToWind_29 rfl (lv_at hl 0 rfl) ?_
    refine lv_aload_n hx hb dX1_turnToWind_30 rfl (lv_at hl 1 rfl) ?_
    refine va_get (D := D) (ci := 1) (v := .ref a1) (C := RX1) (T := TX1) (N := 1) hx hb hts hinX1 hown hK.1 hP 0 rfl rfl 0 (by decide) hfl11 (fun _ h9 => h9) rfl dX1_turnToWind_31 ?_
    refine lv_iconst (v := (1 : Int32)) hx hb dX1_turnToWind_34 (by decide) ?_
    obtain ⟨v17, h18, hf⟩ := kBind hf
    refine krd hx hb hK hP 1 rfl h18 dX1_turnToWind_35 ?_
    obtain ⟨v19, h20, hf⟩ := kBind hf
    refine kgoR (krunSN (wc := ([] : va_W)) (As := [.int v12, .int v17]) (rest := [.int v12, .int ((4 : Int32) + x1), .ref a1]) hx hb hml hown hts hK (kX3_shorterWay l D cI v12 v17 v19 h20) ggX1_turnToWind_X3_shorterWay hK.2.1 (hts (.initialized RX3) (by decide +kernel)) (hts (.static yX3_shorterWay) (by decide +kernel)) rfl rfl rfl hdX3_shorterWay ⟨Nat.le_of_ble_eq_true rfl, Nat.le_of_ble_eq_true rfl⟩ k_P0 (k_D0 A) rfl hl.1 rfl (Nat.le_of_ble_eq_true rfl) dX1_turnToWind_36 ⟨Nat.zero_le _, Nat.zero_le _⟩) hP hD hS hA [] rfl (fun H locs hP hS => ?_)
    refine lv_iadd hx hb dX1_turnToWind_39 ?_
    refine lv_bipush (v := (36 : Int32)) hx hb dX1_turnToWind_40 (by decide) ?_
    refine lv_iadd hx hb dX1_turnToWind_42 ?_
    refine lv_bipush (v := (36 : Int32)) hx hb dX1_turnToWind_43 (by decide) ?_
    refine kirem hx hb dX1_turnToWind_45 (by decide) ?_
    obtain ⟨v21, h22, hf⟩ := kBind hf
    refine kwr hx hb hK hP hD hS 1 rfl h22 (wX1 cI a0 a1 v21) rfl dX1_turnToWind_46 (fun H locs hP hD hS => ?_)
    refine lv_iconst (v := (1 : Int32)) hx hb dX1_turnToWind_47 (by decide) ?_
    have he := Option.some.inj hf
    subst he
    exact kretz hx hb hr hlk hP hD hS dX1_turnToWind_48
  · have hf := kIfT c16 hf
    refine lv_iconst (v := (0 : Int32)) hx hb dX1_turnToWind_19 (by decide) ?_
    have he := Option.some.inj hf
    subst he
    exact kretz hx hb hr hlk hP hD hS dX1_turnToWind_20
set_option maxHeartbeats 4000000 in
set_option maxRecDepth 100000 in
theorem kX1_blockerOf (l : Launch) (D : va_G) (cI : ClassId) (fu : Nat) (a0 a1 : Nat) (R : (Nat → Int32)) (x1 : Int32) (o : Int32) (hf : fX1_blockerOf fu R x1 = some o) : Ct l yX1_blockerOf wsX1_blockerOf { frames := 2, cells := 0, slots := 0, locals := 48 } D cI [.ref a0, .int x1] (wX1 cI a0 a1 R) (wX1 cI a0 a1 R) (some (.int o)) := by
  refine Ct.of (cc := cX1_blockerOf) (maxL := 4) (ret := (some .int)) (by decide) rfl (Nat.le_of_ble_eq_true rfl) ?_
  intro p e s m args below meth c A F hP hD hS ls hl
  obtain ⟨hx, hb, hml, hr, hown, hts, hlk, hK, hA⟩ := F
  have hown : s.vm.findClass RX1 = some m.cls := hown
  have hl : lv_has ls 4 [(0, .ref a0), (1, .int x1)] := hl
  have hinX1 : ∀ w ∈ wsX10, w ∈ wsX1_blockerOf := by decide +kernel
  have hfl11 := hts (.fieldLink RX1 11 "CraneGuard$Site" "row" "[I") (by decide +kernel)
  unfold fX1_blockerOf at hf
  refine lv_aload_n hx hb dX1_blockerOf_0 rfl (lv_at hl 0 rfl) ?_
  refine lv_iload_n hx hb dX1_blockerOf_1 rfl (lv_at hl 1 rfl) ?_
  obtain ⟨v29, h30, hf⟩ := kBind hf
  refine kgoR (krunV (wc := (wX1 cI a0 a1 R)) (As := [.int x1]) (rest := []) (ci := 1) hx hb hml hown hts hK (kX1_hasTarget l D cI a0 a1 R x1 v29 h30) gX1_blockerOf_X1_hasTarget rfl rfl rfl hdX1_hasTarget ⟨Nat.le_of_ble_eq_true rfl, Nat.le_of_ble_eq_true rfl⟩ hP hD rfl rfl rfl rfl hl.1 rfl (Nat.le_of_ble_eq_true rfl) dX1_blockerOf_2 ⟨Nat.zero_le _, Nat.zero_le _⟩) hP hD hS hA [0, 1] rfl (fun H locs hP hS => ?_)
  refine kif_eqb (tgt := 16) hx hb dX1_blockerOf_5 (by decide) (fun c31 => ?_) (fun c31 => ?_)
  · have hf := kIfF c31 hf
    refine lv_bipush (v := (-100 : Int32)) hx hb dX1_blockerOf_16 (by decide) ?_
    have he := Option.some.inj hf
    subst he
    exact kreti hx hb hr hlk hP hD hS dX1_blockerOf_18
  · have hf := kIfT c31 hf
    refine lv_aload_n hx hb dX1_blockerOf_8 rfl (lv_at hl 0 rfl) ?_
    refine lv_iload_n hx hb dX1_blockerOf_9 rfl (lv_at hl 1 rfl) ?_
    obtain ⟨v32, h33, hf⟩ := kBind hf
    refine kgoR (krunV (wc := (wX1 cI a0 a1 R)) (As := [.int x1]) (rest := []) (ci := 1) hx hb hml hown hts hK (kX1_isOnStep l D cI a0 a1 R x1 v32 h33) gX1_blockerOf_X1_isOnStep rfl rfl rfl hdX1_isOnStep ⟨Nat.le_of_ble_eq_true rfl, Nat.le_of_ble_eq_true rfl⟩ hP hD rfl rfl rfl rfl hl.1 rfl (Nat.le_of_ble_eq_true rfl) dX1_blockerOf_10 ⟨Nat.zero_le _, Nat.zero_le _⟩) hP hD hS hA [0, 1] rfl (fun H locs hP hS => ?_)
    refine kif_eqb (tgt := 19) hx hb dX1_blockerOf_13 (by decide) (fun c34 => ?_) (fun c34 => ?_)
    · have hf := kIfF c34 hf
      refine lv_aload_n hx hb dX1_blockerOf_19 rfl (lv_at hl 0 rfl) ?_
      refine lv_iload_n hx hb dX1_blockerOf_20 rfl (lv_at hl 1 rfl) ?_
      refine lv_aload_n hx hb dX1_blockerOf_21 rfl (lv_at hl 0 rfl) ?_
      refine lv_iload_n hx hb dX1_blockerOf_22 rfl (lv_at hl 1 rfl) ?_
      obtain ⟨v35, h36, hf⟩ := kBind hf
      refine kgoR (krunV (wc := (wX1 cI a0 a1 R)) (As := [.int x1]) (rest := [.int x1, .ref a0]) (ci := 1) hx hb hml hown hts hK (kX1_nextAngle l D cI a0 a1 R x1 v35 h36) gX1_blockerOf_X1_nextAngle rfl rfl rfl hdX1_nextAngle ⟨Nat.le_of_ble_eq_true rfl, Nat.le_of_ble_eq_true rfl⟩ hP hD rfl rfl rfl rfl hl.1 rfl (Nat.le_of_ble_eq_true rfl) dX1_blockerOf_23 ⟨Nat.zero_le _, Nat.zero_le _⟩) hP hD hS hA [0, 1] rfl (fun H locs hP hS => ?_)
      obtain ⟨v37, h38, hf⟩ := kBind hf
      refine kgoR (krunV (wc := (wX1 cI a0 a1 R)) (As := [.int x1, .int v35]) (rest := []) (ci := 1) hx hb hml hown hts hK (kX1_zonesAtAngle l D cI fu a0 a1 R x1 v35 v37 h38) gX1_blockerOf_X1_zonesAtAngle rfl rfl rfl hdX1_zonesAtAngle ⟨Nat.le_of_ble_eq_true rfl, Nat.le_of_ble_eq_true rfl⟩ hP hD rfl rfl rfl rfl hl.1 rfl (Nat.le_of_ble_eq_true rfl) dX1_blockerOf_26 ⟨Nat.zero_le _, Nat.zero_le _⟩) hP hD hS hA [0, 1] rfl (fun H locs hP hS => ?_)
      refine lv_istore_n (lv' := [(2, .int v37), (0, .ref a0), (1, .int x1)]) hx hb dX1_blockerOf_29 rfl hl (by decide) rfl (fun ls hl => ?_)
      refine lv_iconst (v := (0 : Int32)) hx hb dX1_blockerOf_30 (by decide) ?_
      refine lv_istore_n (lv' := [(3, .int (0 : Int32)), (2, .int v37), (0, .ref a0), (1, .int x1)]) hx hb dX1_blockerOf_31 rfl hl (by decide) rfl (fun ls hl => ?_)
      have hl : lv_has ls 4 [(3, .int (0 : Int32)), (2, .int v37), (0, .ref a0), (1, .int x1)] := hl
      refine klp hf (fun t32 : Int32 => (wX1 cI a0 a1 R)) 4 (fun t32 : Int32 => [(3, .int t32), (2, .int v37), (0, .ref a0), (1, .int x1)]) ?_ hP hD hS hl
      intro t32 x32_ hf hI1 hO1 H locs ls hP hD hS hl
      unfold fX1_blockerOf_L32 at hf
      have hP : va_P D vwCl (wX1 cI a0 a1 R) H := hP
      have hD : va_D A (wX1 cI a0 a1 R) := hD
      have hl : lv_has ls 4 [(3, .int t32), (2, .int v37), (0, .ref a0), (1, .int x1)] := hl
      refine lv_iload_n hx hb dX1_blockerOf_32 rfl (lv_at hl 0 rfl) ?_
      refine lv_aload_n hx hb dX1_blockerOf_33 rfl (lv_at hl 2 rfl) ?_
      refine va_get (D := D) (ci := 1) (v := .ref a1) (C := RX1) (T := TX1) (N := 1) hx hb hts hinX1 hown hK.1 hP 0 rfl rfl 0 (by decide) hfl11 (fun _ h9 => h9) rfl dX1_blockerOf_34 ?_
      refine lv_iconst (v := (2 : Int32)) hx hb dX1_blockerOf_37 (by decide) ?_
      obtain ⟨v39, h40, hf⟩ := kBind hf
      refine krd hx hb hK hP 1 rfl h40 dX1_blockerOf_38 ?_
      refine lv_icmp_ge (tgt := 65) hx hb dX1_blockerOf_39 (by decide) (fun c41 => ?_) (fun c41 => ?_)
      · have hf := kIfT c41 hf
        refine lv_bipush (v := (-100 : Int32)) hx hb dX1_blockerOf_65 (by decide) ?_
        have he := Option.some.inj hf
        have he := hO1 _ he.symm
        subst he
        exact kreti hx hb hr hlk hP hD hS dX1_blockerOf_67
      · have hf := kIfF c41 hf
        refine lv_iload_n hx hb dX1_blockerOf_42 rfl (lv_at hl 0 rfl) ?_
        refine lv_iload_n hx hb dX1_blockerOf_43 rfl (lv_at hl 3 rfl) ?_
        refine lv_icmp_eq (tgt := 59) hx hb dX1_blockerOf_44 (by decide) (fun c42 => ?_) (fun c42 => ?_)
        · have hf := kIfT c42 hf
          refine lv_iinc (v := t32 + (1 : Int32)) (lv' := [(3, .int (t32 + (1 : Int32))), (2, .int v37), (0, .ref a0), (1, .int x1)]) hx hb dX1_blockerOf_59 hl (k := 0) rfl rfl (by decide) rfl (fun ls hl => ?_)
          refine lv_goto (tgt := 32) hx hb dX1_blockerOf_62 (by decide) ?_
          obtain ⟨z43, hz43⟩ : ∃ z : Int32, z = t32 + (1 : Int32) := ⟨_, rfl⟩
          rw [← hz43] at hf
          have he := (Option.some.inj hf).symm
          have hl : lv_has ls 4 [(3, .int z43), (2, .int v37), (0, .ref a0), (1, .int x1)] := by rw [hz43]; exact lv_sub hl [0, 1, 2, 3] rfl
          exact hI1 _ he H locs ls hP hD hS hl
        · have hf := kIfF c42 hf
          refine lv_aload_n hx hb dX1_blockerOf_47 rfl (lv_at hl 2 rfl) ?_
          refine lv_iload_n hx hb dX1_blockerOf_48 rfl (lv_at hl 0 rfl) ?_
          obtain ⟨v44, h45, hf⟩ := kBind hf
          refine kgoR (krunV (wc := (wX1 cI a0 a1 R)) (As := [.int t32]) (rest := []) (ci := 1) hx hb hml hown hts hK (kX1_zonesOccupiedBy l D cI fu a0 a1 R t32 v44 h45) gX1_blockerOf_X1_zonesOccupiedBy rfl rfl rfl hdX1_zonesOccupiedBy ⟨Nat.le_of_ble_eq_true rfl, Nat.le_of_ble_eq_true rfl⟩ hP hD rfl rfl rfl rfl hl.1 rfl (Nat.le_of_ble_eq_true rfl) dX1_blockerOf_49 ⟨Nat.zero_le _, Nat.zero_le _⟩) hP hD hS hA [0, 1] rfl (fun H locs hP hS => ?_)
          refine lv_iload_n hx hb dX1_blockerOf_52 rfl (lv_at hl 1 rfl) ?_
          refine lv_iand hx hb dX1_blockerOf_53 ?_
          refine lv_if_eq (tgt := 59) hx hb dX1_blockerOf_54 (by decide) (fun c46 => ?_) (fun c46 => ?_)
          · have hf := kIfT c46 hf
            refine lv_iinc (v := t32 + (1 : Int32)) (lv' := [(3, .int (t32 + (1 : Int32))), (2, .int v37), (0, .ref a0), (1, .int x1)]) hx hb dX1_blockerOf_59 hl (k := 0) rfl rfl (by decide) rfl (fun ls hl => ?_)
            refine lv_goto (tgt := 32) hx hb dX1_blockerOf_62 (by decide) ?_
            obtain ⟨z47, hz47⟩ : ∃ z : Int32, z = t32 + (1 : Int32) := ⟨_, rfl⟩
            rw [← hz47] at hf
            have he := (Option.some.inj hf).symm
            have hl : lv_has ls 4 [(3, .int z47), (2, .int v37), (0, .ref a0), (1, .int x1)] := by rw [hz47]; exact lv_sub hl [0, 1, 2, 3] rfl
            exact hI1 _ he H locs ls hP hD hS hl
          · have hf := kIfF c46 hf
            refine lv_iload_n hx hb dX1_blockerOf_57 rfl (lv_at hl 0 rfl) ?_
            have he := Option.some.inj hf
            have he := hO1 _ he.symm
            subst he
            exact kreti hx hb hr hlk hP hD hS dX1_blockerOf_58
    · have hf := kIfT c34 hf
      refine lv_bipush (v := (-100 : Int32)) hx hb dX1_blockerOf_16 (by decide) ?_
      have he := Option.some.inj hf
      subst he
      exact kreti hx hb hr hlk hP hD hS dX1_blockerOf_18
set_option maxHeartbeats 4000000 in
set_option maxRecDepth 100000 in
theorem kX1_endStep (l : Launch) (D : va_G) (cI : ClassId) (a0 a1 : Nat) (R : (Nat → Int32)) (x1 : Int32) (o : (Nat → Int32)) (hf : fX1_endStep R x1 = some o) : Ct l yX1_endStep wsX1_endStep { frames := 1, cells := 0, slots := 0, locals := 22 } D cI [.ref a0, .int x1] (wX1 cI a0 a1 R) (wX1 cI a0 a1 o) none := by
  refine Ct.of (cc := cX1_endStep) (maxL := 2) (ret := none) (by decide) rfl (Nat.le_of_ble_eq_true rfl) ?_
  intro p e s m args below meth c A F hP hD hS ls hl
  obtain ⟨hx, hb, hml, hr, hown, hts, hlk, hK, hA⟩ := F
  have hown : s.vm.findClass RX1 = some m.cls := hown
  have hl : lv_has ls 2 [(0, .ref a0), (1, .int x1)] := hl
  have hinX1 : ∀ w ∈ wsX10, w ∈ wsX1_endStep := by decide +kernel
  have hfl11 := hts (.fieldLink RX1 11 "CraneGuard$Site" "row" "[I") (by decide +kernel)
  unfold fX1_endStep at hf
  refine lv_aload_n hx hb dX1_endStep_0 rfl (lv_at hl 0 rfl) ?_
  refine va_get (D := D) (ci := 1) (v := .ref a1) (C := RX1) (T := TX1) (N := 1) hx hb hts hinX1 hown hK.1 hP 0 rfl rfl 0 (by decide) hfl11 (fun _ h9 => h9) rfl dX1_endStep_1 ?_
  refine lv_iconst (v := (4 : Int32)) hx hb dX1_endStep_4 (by decide) ?_
  refine lv_iload_n hx hb dX1_endStep_5 rfl (lv_at hl 1 rfl) ?_
  refine lv_iadd hx hb dX1_endStep_6 ?_
  refine lv_aload_n hx hb dX1_endStep_7 rfl (lv_at hl 0 rfl) ?_
  refine lv_iload_n hx hb dX1_endStep_8 rfl (lv_at hl 1 rfl) ?_
  obtain ⟨v18, h19, hf⟩ := kBind hf
  refine kgoR (krunV (wc := (wX1 cI a0 a1 R)) (As := [.int x1]) (rest := [.int ((4 : Int32) + x1), .ref a1]) (ci := 1) hx hb hml hown hts hK (kX1_nextAngle l D cI a0 a1 R x1 v18 h19) gX1_endStep_X1_nextAngle rfl rfl rfl hdX1_nextAngle ⟨Nat.le_of_ble_eq_true rfl, Nat.le_of_ble_eq_true rfl⟩ hP hD rfl rfl rfl rfl hl.1 rfl (Nat.le_of_ble_eq_true rfl) dX1_endStep_9 ⟨Nat.zero_le _, Nat.zero_le _⟩) hP hD hS hA [0, 1] rfl (fun H locs hP hS => ?_)
  obtain ⟨v20, h21, hf⟩ := kBind hf
  refine kwr hx hb hK hP hD hS 1 rfl h21 (wX1 cI a0 a1 v20) rfl dX1_endStep_12 (fun H locs hP hD hS => ?_)
  refine lv_aload_n hx hb dX1_endStep_13 rfl (lv_at hl 0 rfl) ?_
  refine va_get (D := D) (ci := 1) (v := .ref a1) (C := RX1) (T := TX1) (N := 1) hx hb hts hinX1 hown hK.1 hP 0 rfl rfl 0 (by decide) hfl11 (fun _ h9 => h9) rfl dX1_endStep_14 ?_
  refine lv_bipush (v := (24 : Int32)) hx hb dX1_endStep_17 (by decide) ?_
  refine lv_iload_n hx hb dX1_endStep_19 rfl (lv_at hl 1 rfl) ?_
  refine lv_iadd hx hb dX1_endStep_20 ?_
  refine lv_iconst (v := (0 : Int32)) hx hb dX1_endStep_21 (by decide) ?_
  obtain ⟨v22, h23, hf⟩ := kBind hf
  refine kwr hx hb hK hP hD hS 1 rfl h23 (wX1 cI a0 a1 v22) rfl dX1_endStep_22 (fun H locs hP hD hS => ?_)
  refine lv_aload_n hx hb dX1_endStep_23 rfl (lv_at hl 0 rfl) ?_
  refine va_get (D := D) (ci := 1) (v := .ref a1) (C := RX1) (T := TX1) (N := 1) hx hb hts hinX1 hown hK.1 hP 0 rfl rfl 0 (by decide) hfl11 (fun _ h9 => h9) rfl dX1_endStep_24 ?_
  refine lv_bipush (v := (40 : Int32)) hx hb dX1_endStep_27 (by decide) ?_
  refine lv_iload_n hx hb dX1_endStep_29 rfl (lv_at hl 1 rfl) ?_
  refine lv_iadd hx hb dX1_endStep_30 ?_
  refine lv_dup2_11 hx hb dX1_endStep_31 rfl rfl ?_
  obtain ⟨v24, h25, hf⟩ := kBind hf
  refine krd hx hb hK hP 1 rfl h25 dX1_endStep_32 ?_
  refine lv_iconst (v := (1 : Int32)) hx hb dX1_endStep_33 (by decide) ?_
  refine lv_iadd hx hb dX1_endStep_34 ?_
  obtain ⟨v26, h27, hf⟩ := kBind hf
  refine kwr hx hb hK hP hD hS 1 rfl h27 (wX1 cI a0 a1 v26) rfl dX1_endStep_35 (fun H locs hP hD hS => ?_)
  refine lv_aload_n hx hb dX1_endStep_36 rfl (lv_at hl 0 rfl) ?_
  refine va_get (D := D) (ci := 1) (v := .ref a1) (C := RX1) (T := TX1) (N := 1) hx hb hts hinX1 hown hK.1 hP 0 rfl rfl 0 (by decide) hfl11 (fun _ h9 => h9) rfl dX1_endStep_37 ?_
  refine lv_iconst (v := (4 : Int32)) hx hb dX1_endStep_40 (by decide) ?_
  refine lv_iload_n hx hb dX1_endStep_41 rfl (lv_at hl 1 rfl) ?_
  refine lv_iadd hx hb dX1_endStep_42 ?_
  obtain ⟨v28, h29, hf⟩ := kBind hf
  refine krd hx hb hK hP 1 rfl h29 dX1_endStep_43 ?_
  refine lv_aload_n hx hb dX1_endStep_44 rfl (lv_at hl 0 rfl) ?_
  refine va_get (D := D) (ci := 1) (v := .ref a1) (C := RX1) (T := TX1) (N := 1) hx hb hts hinX1 hown hK.1 hP 0 rfl rfl 0 (by decide) hfl11 (fun _ h9 => h9) rfl dX1_endStep_45 ?_
  refine lv_bipush (v := (16 : Int32)) hx hb dX1_endStep_48 (by decide) ?_
  refine lv_iload_n hx hb dX1_endStep_50 rfl (lv_at hl 1 rfl) ?_
  refine lv_iadd hx hb dX1_endStep_51 ?_
  obtain ⟨v30, h31, hf⟩ := kBind hf
  refine krd hx hb hK hP 1 rfl h31 dX1_endStep_52 ?_
  refine lv_icmp_ne (tgt := 62) hx hb dX1_endStep_53 (by decide) (fun c32 => ?_) (fun c32 => ?_)
  · have hf := kIfF c32 hf
    have he := Option.some.inj hf
    subst he
    exact kretv hx hb hr hlk hP hD hS dX1_endStep_62
  · have hf := kIfT c32 hf
    refine lv_aload_n hx hb dX1_endStep_56 rfl (lv_at hl 0 rfl) ?_
    refine lv_iload_n hx hb dX1_endStep_57 rfl (lv_at hl 1 rfl) ?_
    obtain ⟨v33, h34, hf⟩ := kBind hf
    refine kgoA (krunV (wc := (wX1 cI a0 a1 v26)) (As := [.int x1]) (rest := []) (ci := 1) hx hb hml hown hts hK (kX1_dropTarget l D cI a0 a1 v26 x1 v33 h34) gX1_endStep_X1_dropTarget rfl rfl rfl hdX1_dropTarget ⟨Nat.le_of_ble_eq_true rfl, Nat.le_of_ble_eq_true rfl⟩ hP hD rfl rfl rfl rfl hl.1 rfl (Nat.le_of_ble_eq_true rfl) dX1_endStep_58 ⟨Nat.zero_le _, Nat.zero_le _⟩) hD hS hA (fun H locs hP hD hS => ?_)
    refine lv_pop hx hb dX1_endStep_61 rfl ?_
    have he := Option.some.inj hf
    subst he
    exact kretv hx hb hr hlk hP hD hS dX1_endStep_62
set_option maxHeartbeats 4000000 in
set_option maxRecDepth 100000 in
theorem kX1_turnJib (l : Launch) (D : va_G) (cI : ClassId) (fu : Nat) (a0 a1 : Nat) (R : (Nat → Int32)) (x1 : Int32) (o : Bool × (Nat → Int32)) (hf : fX1_turnJib fu R x1 = some o) : Ct l yX1_turnJib wsX1_turnJib { frames := 3, cells := 0, slots := 0, locals := 71 } D cI [.ref a0, .int x1] (wX1 cI a0 a1 R) (wX1 cI a0 a1 o.2) (some (.int (bI o.1))) := by
  refine Ct.of (cc := cX1_turnJib) (maxL := 2) (ret := (some .boolean)) (by decide) rfl (Nat.le_of_ble_eq_true rfl) ?_
  intro p e s m args below meth c A F hP hD hS ls hl
  obtain ⟨hx, hb, hml, hr, hown, hts, hlk, hK, hA⟩ := F
  have hown : s.vm.findClass RX1 = some m.cls := hown
  have hl : lv_has ls 2 [(0, .ref a0), (1, .int x1)] := hl
  have hinX1 : ∀ w ∈ wsX10, w ∈ wsX1_turnJib := by decide +kernel
  have hfl11 := hts (.fieldLink RX1 11 "CraneGuard$Site" "row" "[I") (by decide +kernel)
  unfold fX1_turnJib at hf
  refine lv_aload_n hx hb dX1_turnJib_0 rfl (lv_at hl 0 rfl) ?_
  refine lv_iload_n hx hb dX1_turnJib_1 rfl (lv_at hl 1 rfl) ?_
  obtain ⟨v27, h28, hf⟩ := kBind hf
  refine kgoR (krunV (wc := (wX1 cI a0 a1 R)) (As := [.int x1]) (rest := []) (ci := 1) hx hb hml hown hts hK (kX1_isLeft l D cI a0 a1 R x1 v27 h28) gX1_turnJib_X1_isLeft rfl rfl rfl hdX1_isLeft ⟨Nat.le_of_ble_eq_true rfl, Nat.le_of_ble_eq_true rfl⟩ hP hD rfl rfl rfl rfl hl.1 rfl (Nat.le_of_ble_eq_true rfl) dX1_turnJib_2 ⟨Nat.zero_le _, Nat.zero_le _⟩) hP hD hS hA [0, 1] rfl (fun H locs hP hS => ?_)
  refine kif_eqb (tgt := 14) hx hb dX1_turnJib_5 (by decide) (fun c29 => ?_) (fun c29 => ?_)
  · have hf := kIfF c29 hf
    refine lv_aload_n hx hb dX1_turnJib_14 rfl (lv_at hl 0 rfl) ?_
    refine lv_iload_n hx hb dX1_turnJib_15 rfl (lv_at hl 1 rfl) ?_
    obtain ⟨v30, h31, hf⟩ := kBind hf
    refine kgoR (krunV (wc := (wX1 cI a0 a1 R)) (As := [.int x1]) (rest := []) (ci := 1) hx hb hml hown hts hK (kX1_hasTarget l D cI a0 a1 R x1 v30 h31) gX1_turnJib_X1_hasTarget rfl rfl rfl hdX1_hasTarget ⟨Nat.le_of_ble_eq_true rfl, Nat.le_of_ble_eq_true rfl⟩ hP hD rfl rfl rfl rfl hl.1 rfl (Nat.le_of_ble_eq_true rfl) dX1_turnJib_16 ⟨Nat.zero_le _, Nat.zero_le _⟩) hP hD hS hA [0, 1] rfl (fun H locs hP hS => ?_)
    refine kif_neb (tgt := 24) hx hb dX1_turnJib_19 (by decide) (fun c32 => ?_) (fun c32 => ?_)
    · have hf := kIfT c32 hf
      refine lv_aload_n hx hb dX1_turnJib_24 rfl (lv_at hl 0 rfl) ?_
      refine lv_iload_n hx hb dX1_turnJib_25 rfl (lv_at hl 1 rfl) ?_
      obtain ⟨v33, h34, hf⟩ := kBind hf
      refine kgoR (krunV (wc := (wX1 cI a0 a1 R)) (As := [.int x1]) (rest := []) (ci := 1) hx hb hml hown hts hK (kX1_blockerOf l D cI fu a0 a1 R x1 v33 h34) gX1_turnJib_X1_blockerOf rfl rfl rfl hdX1_blockerOf ⟨Nat.le_of_ble_eq_true rfl, Nat.le_of_ble_eq_true rfl⟩ hP hD rfl rfl rfl rfl hl.1 rfl (Nat.le_of_ble_eq_true rfl) dX1_turnJib_26 ⟨Nat.zero_le _, Nat.zero_le _⟩) hP hD hS hA [0, 1] rfl (fun H locs hP hS => ?_)
      refine lv_bipush (v := (-100 : Int32)) hx hb dX1_turnJib_29 (by decide) ?_
      refine lv_icmp_eq (tgt := 49) hx hb dX1_turnJib_31 (by decide) (fun c35 => ?_) (fun c35 => ?_)
      · have hf := kIfT c35 hf
        refine lv_aload_n hx hb dX1_turnJib_49 rfl (lv_at hl 0 rfl) ?_
        refine va_get (D := D) (ci := 1) (v := .ref a1) (C := RX1) (T := TX1) (N := 1) hx hb hts hinX1 hown hK.1 hP 0 rfl rfl 0 (by decide) hfl11 (fun _ h9 => h9) rfl dX1_turnJib_50 ?_
        refine lv_bipush (v := (24 : Int32)) hx hb dX1_turnJib_53 (by decide) ?_
        refine lv_iload_n hx hb dX1_turnJib_55 rfl (lv_at hl 1 rfl) ?_
        refine lv_iadd hx hb dX1_turnJib_56 ?_
        refine lv_dup2_11 hx hb dX1_turnJib_57 rfl rfl ?_
        obtain ⟨v36, h37, hf⟩ := kBind hf
        refine krd hx hb hK hP 1 rfl h37 dX1_turnJib_58 ?_
        refine lv_iconst (v := (1 : Int32)) hx hb dX1_turnJib_59 (by decide) ?_
        refine lv_iadd hx hb dX1_turnJib_60 ?_
        obtain ⟨v38, h39, hf⟩ := kBind hf
        refine kwr hx hb hK hP hD hS 1 rfl h39 (wX1 cI a0 a1 v38) rfl dX1_turnJib_61 (fun H locs hP hD hS => ?_)
        refine lv_aload_n hx hb dX1_turnJib_62 rfl (lv_at hl 0 rfl) ?_
        refine va_get (D := D) (ci := 1) (v := .ref a1) (C := RX1) (T := TX1) (N := 1) hx hb hts hinX1 hown hK.1 hP 0 rfl rfl 0 (by decide) hfl11 (fun _ h9 => h9) rfl dX1_turnJib_63 ?_
        refine lv_bipush (v := (24 : Int32)) hx hb dX1_turnJib_66 (by decide) ?_
        refine lv_iload_n hx hb dX1_turnJib_68 rfl (lv_at hl 1 rfl) ?_
        refine lv_iadd hx hb dX1_turnJib_69 ?_
        obtain ⟨v40, h41, hf⟩ := kBind hf
        refine krd hx hb hK hP 1 rfl h41 dX1_turnJib_70 ?_
        refine lv_aload_n hx hb dX1_turnJib_71 rfl (lv_at hl 0 rfl) ?_
        refine va_get (D := D) (ci := 1) (v := .ref a1) (C := RX1) (T := TX1) (N := 1) hx hb hts hinX1 hown hK.1 hP 0 rfl rfl 0 (by decide) hfl11 (fun _ h9 => h9) rfl dX1_turnJib_72 ?_
        refine lv_bipush (v := (8 : Int32)) hx hb dX1_turnJib_75 (by decide) ?_
        refine lv_iload_n hx hb dX1_turnJib_77 rfl (lv_at hl 1 rfl) ?_
        refine lv_iadd hx hb dX1_turnJib_78 ?_
        obtain ⟨v42, h43, hf⟩ := kBind hf
        refine krd hx hb hK hP 1 rfl h43 dX1_turnJib_79 ?_
        refine lv_icmp_ne (tgt := 88) hx hb dX1_turnJib_80 (by decide) (fun c44 => ?_) (fun c44 => ?_)
        · have hf := kIfF c44 hf
          refine lv_iconst (v := (1 : Int32)) hx hb dX1_turnJib_88 (by decide) ?_
          have he := Option.some.inj hf
          subst he
          exact kretz hx hb hr hlk hP hD hS dX1_turnJib_89
        · have hf := kIfT c44 hf
          refine lv_aload_n hx hb dX1_turnJib_83 rfl (lv_at hl 0 rfl) ?_
          refine lv_iload_n hx hb dX1_turnJib_84 rfl (lv_at hl 1 rfl) ?_
          obtain ⟨v45, h46, hf⟩ := kBind hf
          refine kgoA (krunV (wc := (wX1 cI a0 a1 v38)) (As := [.int x1]) (rest := []) (ci := 1) hx hb hml hown hts hK (kX1_endStep l D cI a0 a1 v38 x1 v45 h46) gX1_turnJib_X1_endStep rfl rfl rfl hdX1_endStep ⟨Nat.le_of_ble_eq_true rfl, Nat.le_of_ble_eq_true rfl⟩ hP hD rfl rfl rfl rfl hl.1 rfl (Nat.le_of_ble_eq_true rfl) dX1_turnJib_85 ⟨Nat.zero_le _, Nat.zero_le _⟩) hD hS hA (fun H locs hP hD hS => ?_)
          refine lv_iconst (v := (1 : Int32)) hx hb dX1_turnJib_88 (by decide) ?_
          have he := Option.some.inj hf
          subst he
          exact kretz hx hb hr hlk hP hD hS dX1_turnJib_89
      · have hf := kIfF c35 hf
        refine lv_aload_n hx hb dX1_turnJib_34 rfl (lv_at hl 0 rfl) ?_
        refine va_get (D := D) (ci := 1) (v := .ref a1) (C := RX1) (T := TX1) (N := 1) hx hb hts hinX1 hown hK.1 hP 0 rfl rfl 0 (by decide) hfl11 (fun _ h9 => h9) rfl dX1_turnJib_35 ?_
        refine lv_bipush (v := (28 : Int32)) hx hb dX1_turnJib_38 (by decide) ?_
        refine lv_iload_n hx hb dX1_turnJib_40 rfl (lv_at hl 1 rfl) ?_
        refine lv_iadd hx hb dX1_turnJib_41 ?_
        refine lv_dup2_11 hx hb dX1_turnJib_42 rfl rfl ?_
        obtain ⟨v47, h48, hf⟩ := kBind hf
        refine krd hx hb hK hP 1 rfl h48 dX1_turnJib_43 ?_
        refine lv_iconst (v := (1 : Int32)) hx hb dX1_turnJib_44 (by decide) ?_
        refine lv_iadd hx hb dX1_turnJib_45 ?_
        obtain ⟨v49, h50, hf⟩ := kBind hf
        refine kwr hx hb hK hP hD hS 1 rfl h50 (wX1 cI a0 a1 v49) rfl dX1_turnJib_46 (fun H locs hP hD hS => ?_)
        refine lv_iconst (v := (0 : Int32)) hx hb dX1_turnJib_47 (by decide) ?_
        have he := Option.some.inj hf
        subst he
        exact kretz hx hb hr hlk hP hD hS dX1_turnJib_48
    · have hf := kIfF c32 hf
      refine lv_iconst (v := (0 : Int32)) hx hb dX1_turnJib_22 (by decide) ?_
      have he := Option.some.inj hf
      subst he
      exact kretz hx hb hr hlk hP hD hS dX1_turnJib_23
  · have hf := kIfT c29 hf
    refine lv_aload_n hx hb dX1_turnJib_8 rfl (lv_at hl 0 rfl) ?_
    refine lv_iload_n hx hb dX1_turnJib_9 rfl (lv_at hl 1 rfl) ?_
    obtain ⟨v51, h52, hf⟩ := kBind hf
    refine kgoA (krunV (wc := (wX1 cI a0 a1 R)) (As := [.int x1]) (rest := []) (ci := 1) hx hb hml hown hts hK (kX1_turnToWind l D cI a0 a1 R x1 v51 h52) gX1_turnJib_X1_turnToWind rfl rfl rfl hdX1_turnToWind ⟨Nat.le_of_ble_eq_true rfl, Nat.le_of_ble_eq_true rfl⟩ hP hD rfl rfl rfl rfl hl.1 rfl (Nat.le_of_ble_eq_true rfl) dX1_turnJib_10 ⟨Nat.zero_le _, Nat.zero_le _⟩) hD hS hA (fun H locs hP hD hS => ?_)
    have he := Option.some.inj hf
    subst he
    exact kretz hx hb hr hlk hP hD hS dX1_turnJib_13
set_option maxHeartbeats 4000000 in
set_option maxRecDepth 100000 in
theorem kX1_passTick (l : Launch) (D : va_G) (cI : ClassId) (fu : Nat) (a0 a1 : Nat) (R : (Nat → Int32)) (o : Bool × (Nat → Int32)) (hf : fX1_passTick fu R = some o) : Ct l yX1_passTick wsX1_passTick { frames := 4, cells := 0, slots := 0, locals := 92 } D cI [.ref a0] (wX1 cI a0 a1 R) (wX1 cI a0 a1 o.2) (some (.int (bI o.1))) := by
  refine Ct.of (cc := cX1_passTick) (maxL := 4) (ret := (some .boolean)) (by decide) rfl (Nat.le_of_ble_eq_true rfl) ?_
  intro p e s m args below meth c A F hP hD hS ls hl
  obtain ⟨hx, hb, hml, hr, hown, hts, hlk, hK, hA⟩ := F
  have hown : s.vm.findClass RX1 = some m.cls := hown
  have hl : lv_has ls 4 [(0, .ref a0)] := hl
  have hinX1 : ∀ w ∈ wsX10, w ∈ wsX1_passTick := by decide +kernel
  have hfl11 := hts (.fieldLink RX1 11 "CraneGuard$Site" "row" "[I") (by decide +kernel)
  unfold fX1_passTick at hf
  refine lv_iconst (v := (0 : Int32)) hx hb dX1_passTick_0 (by decide) ?_
  refine lv_istore_n (lv' := [(1, .int (0 : Int32)), (0, .ref a0)]) hx hb dX1_passTick_1 rfl hl (by decide) rfl (fun ls hl => ?_)
  refine lv_bipush (v := (9 : Int32)) hx hb dX1_passTick_2 (by decide) ?_
  refine lv_istore_n (lv' := [(2, .int (9 : Int32)), (1, .int (0 : Int32)), (0, .ref a0)]) hx hb dX1_passTick_4 rfl hl (by decide) rfl (fun ls hl => ?_)
  have hl : lv_has ls 4 [(2, .int (9 : Int32)), (1, .int (bI false)), (0, .ref a0)] := hl
  refine klp hf (fun t5 : (Nat → Int32) × Bool × Int32 => (wX1 cI a0 a1 t5.1)) 4 (fun t5 : (Nat → Int32) × Bool × Int32 => [(2, .int t5.2.2), (1, .int (bI t5.2.1)), (0, .ref a0)]) ?_ hP hD hS hl
  intro t5 x5_ hf hI1 hO1 H locs ls hP hD hS hl
  unfold fX1_passTick_L5 at hf
  have hP : va_P D vwCl (wX1 cI a0 a1 t5.1) H := hP
  have hD : va_D A (wX1 cI a0 a1 t5.1) := hD
  have hl : lv_has ls 4 [(2, .int t5.2.2), (1, .int (bI t5.2.1)), (0, .ref a0)] := hl
  refine lv_iload_n hx hb dX1_passTick_5 rfl (lv_at hl 0 rfl) ?_
  refine lv_if_lt (tgt := 56) hx hb dX1_passTick_6 (by decide) (fun c50 => ?_) (fun c50 => ?_)
  · have hf := kIfT c50 hf
    refine lv_aload_n hx hb dX1_passTick_56 rfl (lv_at hl 2 rfl) ?_
    refine va_get (D := D) (ci := 1) (v := .ref a1) (C := RX1) (T := TX1) (N := 1) hx hb hts hinX1 hown hK.1 hP 0 rfl rfl 0 (by decide) hfl11 (fun _ h9 => h9) rfl dX1_passTick_57 ?_
    refine lv_iconst (v := (0 : Int32)) hx hb dX1_passTick_60 (by decide) ?_
    refine lv_dup2_11 hx hb dX1_passTick_61 rfl rfl ?_
    obtain ⟨v51, h52, hf⟩ := kBind hf
    refine krd hx hb hK hP 1 rfl h52 dX1_passTick_62 ?_
    refine lv_iconst (v := (1 : Int32)) hx hb dX1_passTick_63 (by decide) ?_
    refine lv_iadd hx hb dX1_passTick_64 ?_
    obtain ⟨v53, h54, hf⟩ := kBind hf
    refine kwr hx hb hK hP hD hS 1 rfl h54 (wX1 cI a0 a1 v53) rfl dX1_passTick_65 (fun H locs hP hD hS => ?_)
    refine lv_iload_n hx hb dX1_passTick_66 rfl (lv_at hl 1 rfl) ?_
    have he := Option.some.inj hf
    have he := hO1 _ he.symm
    subst he
    exact kretz hx hb hr hlk hP hD hS dX1_passTick_67
  · have hf := kIfF c50 hf
    refine lv_iconst (v := (0 : Int32)) hx hb dX1_passTick_9 (by decide) ?_
    refine lv_istore_n (lv' := [(3, .int (0 : Int32)), (2, .int t5.2.2), (1, .int (bI t5.2.1)), (0, .ref a0)]) hx hb dX1_passTick_10 rfl hl (by decide) rfl (fun ls hl => ?_)
    have hl : lv_has ls 4 [(3, .int (0 : Int32)), (2, .int t5.2.2), (1, .int (bI t5.2.1)), (0, .ref a0)] := hl
    refine klp hf (fun t11 : (Nat → Int32) × Bool × Int32 => (wX1 cI a0 a1 t11.1)) 4 (fun t11 : (Nat → Int32) × Bool × Int32 => [(3, .int t11.2.2), (2, .int t5.2.2), (1, .int (bI t11.2.1)), (0, .ref a0)]) ?_ hP hD hS hl
    intro t11 x11_ hf hI2 hO2 H locs ls hP hD hS hl
    unfold fX1_passTick_L11 at hf
    have hP : va_P D vwCl (wX1 cI a0 a1 t11.1) H := hP
    have hD : va_D A (wX1 cI a0 a1 t11.1) := hD
    have hl : lv_has ls 4 [(3, .int t11.2.2), (2, .int t5.2.2), (1, .int (bI t11.2.1)), (0, .ref a0)] := hl
    refine lv_iload_n hx hb dX1_passTick_11 rfl (lv_at hl 0 rfl) ?_
    refine lv_aload_n hx hb dX1_passTick_12 rfl (lv_at hl 3 rfl) ?_
    refine va_get (D := D) (ci := 1) (v := .ref a1) (C := RX1) (T := TX1) (N := 1) hx hb hts hinX1 hown hK.1 hP 0 rfl rfl 0 (by decide) hfl11 (fun _ h9 => h9) rfl dX1_passTick_13 ?_
    refine lv_iconst (v := (2 : Int32)) hx hb dX1_passTick_16 (by decide) ?_
    obtain ⟨v55, h56, hf⟩ := kBind hf
    refine krd hx hb hK hP 1 rfl h56 dX1_passTick_17 ?_
    refine lv_icmp_ge (tgt := 50) hx hb dX1_passTick_18 (by decide) (fun c57 => ?_) (fun c57 => ?_)
    · have hf := kIfT c57 hf
      refine lv_iinc (v := t5.2.2 + (-1 : Int32)) (lv' := [(2, .int (t5.2.2 + (-1 : Int32))), (3, .int t11.2.2), (1, .int (bI t11.2.1)), (0, .ref a0)]) hx hb dX1_passTick_50 hl (k := 1) rfl (congrArg (fun z : Int32 => t5.2.2 + z) (by decide)) (by decide) rfl (fun ls hl => ?_)
      refine lv_goto (tgt := 5) hx hb dX1_passTick_53 (by decide) ?_
      obtain ⟨z58, hz58⟩ : ∃ z : Int32, z = t5.2.2 + (-1 : Int32) := ⟨_, rfl⟩
      rw [← hz58] at hf
      have he := (Option.some.inj hf).symm
      have he := (hO2 _ he).symm
      have hl : lv_has ls 4 [(2, .int z58), (1, .int (bI t11.2.1)), (0, .ref a0)] := by rw [hz58]; exact lv_sub hl [0, 2, 3] rfl
      exact hI1 _ he H locs ls hP hD hS hl
    · have hf := kIfF c57 hf
      refine lv_aload_n hx hb dX1_passTick_21 rfl (lv_at hl 3 rfl) ?_
      refine va_get (D := D) (ci := 1) (v := .ref a1) (C := RX1) (T := TX1) (N := 1) hx hb hts hinX1 hown hK.1 hP 0 rfl rfl 0 (by decide) hfl11 (fun _ h9 => h9) rfl dX1_passTick_22 ?_
      refine lv_bipush (v := (12 : Int32)) hx hb dX1_passTick_25 (by decide) ?_
      refine lv_iload_n hx hb dX1_passTick_27 rfl (lv_at hl 0 rfl) ?_
      refine lv_iadd hx hb dX1_passTick_28 ?_
      obtain ⟨v59, h60, hf⟩ := kBind hf
      refine krd hx hb hK hP 1 rfl h60 dX1_passTick_29 ?_
      refine lv_iload_n hx hb dX1_passTick_30 rfl (lv_at hl 1 rfl) ?_
      refine lv_icmp_ne (tgt := 44) hx hb dX1_passTick_31 (by decide) (fun c61 => ?_) (fun c61 => ?_)
      · have hf := kIfF c61 hf
        refine lv_iinc (v := t11.2.2 + (1 : Int32)) (lv' := [(3, .int (t11.2.2 + (1 : Int32))), (2, .int t5.2.2), (1, .int (bI t11.2.1)), (0, .ref a0)]) hx hb dX1_passTick_44 hl (k := 0) rfl rfl (by decide) rfl (fun ls hl => ?_)
        refine lv_goto (tgt := 11) hx hb dX1_passTick_47 (by decide) ?_
        obtain ⟨z62, hz62⟩ : ∃ z : Int32, z = t11.2.2 + (1 : Int32) := ⟨_, rfl⟩
        rw [← hz62] at hf
        have he := (Option.some.inj hf).symm
        have hl : lv_has ls 4 [(3, .int z62), (2, .int t5.2.2), (1, .int (bI t11.2.1)), (0, .ref a0)] := by rw [hz62]; exact lv_sub hl [0, 1, 2, 3] rfl
        exact hI2 _ he H locs ls hP hD hS hl
      · have hf := kIfT c61 hf
        refine lv_aload_n hx hb dX1_passTick_34 rfl (lv_at hl 3 rfl) ?_
        refine lv_iload_n hx hb dX1_passTick_35 rfl (lv_at hl 0 rfl) ?_
        obtain ⟨v63, h64, hf⟩ := kBind hf
        refine kgoA (krunV (wc := (wX1 cI a0 a1 t11.1)) (As := [.int t11.2.2]) (rest := []) (ci := 1) hx hb hml hown hts hK (kX1_turnJib l D cI fu a0 a1 t11.1 t11.2.2 v63 h64) gX1_passTick_X1_turnJib rfl rfl rfl hdX1_turnJib ⟨Nat.le_of_ble_eq_true rfl, Nat.le_of_ble_eq_true rfl⟩ hP hD rfl rfl rfl rfl hl.1 rfl (Nat.le_of_ble_eq_true rfl) dX1_passTick_36 ⟨Nat.zero_le _, Nat.zero_le _⟩) hD hS hA (fun H locs hP hD hS => ?_)
        refine kif_eqb (tgt := 44) hx hb dX1_passTick_39 (by decide) (fun c65 => ?_) (fun c65 => ?_)
        · have hf := kIfF c65 hf
          refine lv_iinc (v := t11.2.2 + (1 : Int32)) (lv' := [(3, .int (t11.2.2 + (1 : Int32))), (2, .int t5.2.2), (1, .int (bI t11.2.1)), (0, .ref a0)]) hx hb dX1_passTick_44 hl (k := 0) rfl rfl (by decide) rfl (fun ls hl => ?_)
          refine lv_goto (tgt := 11) hx hb dX1_passTick_47 (by decide) ?_
          obtain ⟨z66, hz66⟩ : ∃ z : Int32, z = t11.2.2 + (1 : Int32) := ⟨_, rfl⟩
          rw [← hz66] at hf
          have he := (Option.some.inj hf).symm
          have hl : lv_has ls 4 [(3, .int z66), (2, .int t5.2.2), (1, .int (bI t11.2.1)), (0, .ref a0)] := by rw [hz66]; exact lv_sub hl [0, 1, 2, 3] rfl
          exact hI2 _ he H locs ls hP hD hS hl
        · have hf := kIfT c65 hf
          refine lv_iconst (v := (1 : Int32)) hx hb dX1_passTick_42 (by decide) ?_
          refine lv_istore_n (lv' := [(1, .int (1 : Int32)), (3, .int t11.2.2), (2, .int t5.2.2), (0, .ref a0)]) hx hb dX1_passTick_43 rfl hl (by decide) rfl (fun ls hl => ?_)
          refine lv_iinc (v := t11.2.2 + (1 : Int32)) (lv' := [(3, .int (t11.2.2 + (1 : Int32))), (1, .int (1 : Int32)), (2, .int t5.2.2), (0, .ref a0)]) hx hb dX1_passTick_44 hl (k := 1) rfl rfl (by decide) rfl (fun ls hl => ?_)
          refine lv_goto (tgt := 11) hx hb dX1_passTick_47 (by decide) ?_
          obtain ⟨z67, hz67⟩ : ∃ z : Int32, z = t11.2.2 + (1 : Int32) := ⟨_, rfl⟩
          rw [← hz67] at hf
          have he := (Option.some.inj hf).symm
          have hl : lv_has ls 4 [(3, .int z67), (2, .int t5.2.2), (1, .int (bI true)), (0, .ref a0)] := by rw [hz67]; exact lv_sub hl [0, 2, 1, 3] rfl
          exact hI2 _ he H locs ls hP hD hS hl
set_option maxHeartbeats 4000000 in
set_option maxRecDepth 100000 in
theorem kX3_tick (l : Launch) (D : va_G) (cI : ClassId) (fu : Nat) (a0 a1 a2 a3 a4 a5 a6 a7 a8 a9 a10 a11 : Nat) (R : (Nat → Int32)) (R2 : (Nat → Int32)) (HR : (Nat → Int32)) (HS : Int32) (HN : Int32) (TB : (Nat → Int32)) (LN : Int32) (PS : Int32) (TC : (Nat → Int32)) (TW : (Nat → Int32)) (TG : (Nat → Int32)) (CM : Int32) (x1 : Int32) (o : Int32 × (Nat → Int32) × (Nat → Int32) × Int32 × Int32) (hf : fX3_tick fu R HR HS HN x1 = some o) : Ct l yX3_tick wsX3_tick { frames := 5, cells := 0, slots := 0, locals := 115 } D cI [.ref a0, .int x1] (wX3 cI a0 a1 a2 a3 a4 a5 a6 a7 a8 a9 a10 a11 R R2 HR HS HN TB LN PS TC TW TG CM) (wX3 cI a0 a1 a2 a3 a4 a5 a6 a7 a8 a9 a10 a11 o.2.1 R2 o.2.2.1 o.2.2.2.1 o.2.2.2.2 TB LN PS TC TW TG CM) (some (.int o.1)) := by
  refine Ct.of (cc := cX3_tick) (maxL := 3) (ret := (some .int)) (by decide) rfl (Nat.le_of_ble_eq_true rfl) ?_
  intro p e s m args below meth c A F hP hD hS ls hl
  obtain ⟨hx, hb, hml, hr, hown, hts, hlk, hK, hA⟩ := F
  have hown : s.vm.findClass RX3 = some m.cls := hown
  have hl : lv_has ls 3 [(0, .ref a0), (1, .int x1)] := hl
  have hinX3 : ∀ w ∈ wsX30, w ∈ wsX3_tick := by decide +kernel
  have hfl10 := hts (.fieldLink RX3 10 "CraneGuard" "site" "LCraneGuard$Site;") (by decide +kernel)
  have hfl22 := hts (.fieldLink RX3 22 "CraneGuard" "history" "LCraneGuard$History;") (by decide +kernel)
  unfold fX3_tick at hf
  refine lv_iload_n hx hb dX3_tick_0 rfl (lv_at hl 1 rfl) ?_
  refine lv_iconst (v := (1 : Int32)) hx hb dX3_tick_1 (by decide) ?_
  refine lv_icmp_lt (tgt := 12) hx hb dX3_tick_2 (by decide) (fun c20 => ?_) (fun c20 => ?_)
  · have hf := kIfT c20 hf
    refine lv_bipush (v := (-102 : Int32)) hx hb dX3_tick_12 (by decide) ?_
    have he := Option.some.inj hf
    subst he
    exact kreti hx hb hr hlk hP hD hS dX3_tick_14
  · have hf := kIfF c20 hf
    refine lv_iload_n hx hb dX3_tick_5 rfl (lv_at hl 1 rfl) ?_
    refine lv_sipush (v := (200 : Int32)) hx hb dX3_tick_6 (by decide) ?_
    refine lv_icmp_le (tgt := 15) hx hb dX3_tick_9 (by decide) (fun c21 => ?_) (fun c21 => ?_)
    · have hf := kIfT c21 hf
      refine lv_aload_n hx hb dX3_tick_15 rfl (lv_at hl 0 rfl) ?_
      refine va_get (D := D) (ci := 3) (v := .ref a1) (C := RX3) (T := TX3) (N := 4) hx hb hts hinX3 hown hK.1 hP 0 rfl rfl 0 (by decide) hfl10 (fun _ h9 => h9) rfl dX3_tick_16 ?_
      obtain ⟨v22, h23, hf⟩ := kBind hf
      refine kgoR (krunV (wc := (wX1 cI a1 a2 R)) (As := []) (rest := []) (ci := 1) hx hb hml hown hts hK (kX1_now l D cI a1 a2 R v22 h23) gX3_tick_X1_now rfl rfl rfl hdX1_now ⟨Nat.le_of_ble_eq_true rfl, Nat.le_of_ble_eq_true rfl⟩ (hP.sub [1, 2] rfl) (hD.sub [1, 2] (by decide) rfl) rfl rfl rfl rfl hl.1 rfl (Nat.le_of_ble_eq_true rfl) dX3_tick_19 ⟨Nat.zero_le _, Nat.zero_le _⟩) hP hD hS hA [1, 2] rfl (fun H locs hP hS => ?_)
      refine lv_iload_n hx hb dX3_tick_22 rfl (lv_at hl 1 rfl) ?_
      refine lv_iadd hx hb dX3_tick_23 ?_
      refine lv_ldc (v := (100000 : Int32)) hx hb hown (hts (.constant RX3 117 (100000)) (by decide +kernel)) dX3_tick_24 ?_
      refine lv_icmp_le (tgt := 32) hx hb dX3_tick_26 (by decide) (fun c24 => ?_) (fun c24 => ?_)
      · have hf := kIfT c24 hf
        refine lv_aload_n hx hb dX3_tick_32 rfl (lv_at hl 0 rfl) ?_
        refine va_get (D := D) (ci := 3) (v := .ref a5) (C := RX3) (T := TX3) (N := 4) hx hb hts hinX3 hown hK.1 hP 0 rfl rfl 2 (by decide) hfl22 (fun _ h9 => h9) rfl dX3_tick_33 ?_
        refine lv_aload_n hx hb dX3_tick_36 rfl (lv_at hl 0 rfl) ?_
        refine va_get (D := D) (ci := 3) (v := .ref a1) (C := RX3) (T := TX3) (N := 4) hx hb hts hinX3 hown hK.1 hP 0 rfl rfl 0 (by decide) hfl10 (fun _ h9 => h9) rfl dX3_tick_37 ?_
        obtain ⟨v25, h26, hf⟩ := kBind hf
        refine kgoJ (wr := [(a0, .inr (3, [.ref a1, .ref a3, .ref a5, .ref a7])), (a3, .inr (1, [.ref a4])), (a4, .inl (cI, 132, .inl R2)), (a7, .inr (2, [.ref a8, .int LN, .int PS, .ref a9, .ref a10, .ref a11, .int CM])), (a8, .inl (cI, 80, .inl TB)), (a9, .inl (cI, 20, .inl TC)), (a10, .inl (cI, 20, .inl TW)), (a11, .inl (cI, 20, .inl TG))]) (w2 := (wX3 cI a0 a1 a2 a3 a4 a5 a6 a7 a8 a9 a10 a11 R R2 v25.1 v25.2.1 v25.2.2 TB LN PS TC TW TG CM)) (krunV (wc := (wX0_X1 cI a5 a6 a1 a2 HR HS HN R)) (As := [.ref a1]) (rest := []) (ci := 0) hx hb hml hown hts hK (kX0_keep l D cI a5 a6 a1 a2 HR HS HN R v25 h26) gX3_tick_X0_keep rfl rfl rfl hdX0_keep ⟨Nat.le_of_ble_eq_true rfl, Nat.le_of_ble_eq_true rfl⟩ (hP.sub [5, 6, 1, 2] rfl) (hD.sub [5, 6, 1, 2] (by decide) rfl) rfl rfl rfl rfl hl.1 rfl (Nat.le_of_ble_eq_true rfl) dX3_tick_40 ⟨Nat.zero_le _, Nat.zero_le _⟩) hP hD hS hA [5, 6, 1, 2] [0, 3, 4, 7, 8, 9, 10, 11] [0, 10, 11, 1, 2, 8, 9, 3, 4, 5, 6, 7] rfl rfl (by decide) (by decide) (by decide) rfl (fun H locs hP hD hS => ?_)
        refine lv_iconst (v := (0 : Int32)) hx hb dX3_tick_43 (by decide) ?_
        refine lv_istore_n (lv' := [(2, .int (0 : Int32)), (0, .ref a0), (1, .int x1)]) hx hb dX3_tick_44 rfl hl (by decide) rfl (fun ls hl => ?_)
        have hl : lv_has ls 3 [(2, .int (0 : Int32)), (0, .ref a0), (1, .int x1)] := hl
        refine klp hf (fun t45 : (Nat → Int32) × Int32 => (wX3 cI a0 a1 a2 a3 a4 a5 a6 a7 a8 a9 a10 a11 t45.1 R2 v25.1 v25.2.1 v25.2.2 TB LN PS TC TW TG CM)) 3 (fun t45 : (Nat → Int32) × Int32 => [(2, .int t45.2), (0, .ref a0), (1, .int x1)]) ?_ hP hD hS hl
        intro t45 x45_ hf hI1 hO1 H locs ls hP hD hS hl
        unfold fX3_tick_L45 at hf
        have hP : va_P D vwCl (wX3 cI a0 a1 a2 a3 a4 a5 a6 a7 a8 a9 a10 a11 t45.1 R2 v25.1 v25.2.1 v25.2.2 TB LN PS TC TW TG CM) H := hP
        have hD : va_D A (wX3 cI a0 a1 a2 a3 a4 a5 a6 a7 a8 a9 a10 a11 t45.1 R2 v25.1 v25.2.1 v25.2.2 TB LN PS TC TW TG CM) := hD
        have hl : lv_has ls 3 [(2, .int t45.2), (0, .ref a0), (1, .int x1)] := hl
        refine lv_iload_n hx hb dX3_tick_45 rfl (lv_at hl 0 rfl) ?_
        refine lv_iload_n hx hb dX3_tick_46 rfl (lv_at hl 2 rfl) ?_
        refine lv_icmp_ge (tgt := 64) hx hb dX3_tick_47 (by decide) (fun c27 => ?_) (fun c27 => ?_)
        · have hf := kIfT c27 hf
          refine lv_aload_n hx hb dX3_tick_64 rfl (lv_at hl 1 rfl) ?_
          refine va_get (D := D) (ci := 3) (v := .ref a1) (C := RX3) (T := TX3) (N := 4) hx hb hts hinX3 hown hK.1 hP 0 rfl rfl 0 (by decide) hfl10 (fun _ h9 => h9) rfl dX3_tick_65 ?_
          obtain ⟨v28, h29, hf⟩ := kBind hf
          refine kgoR (krunV (wc := (wX1 cI a1 a2 t45.1)) (As := []) (rest := []) (ci := 1) hx hb hml hown hts hK (kX1_now l D cI a1 a2 t45.1 v28 h29) gX3_tick_X1_now rfl rfl rfl hdX1_now ⟨Nat.le_of_ble_eq_true rfl, Nat.le_of_ble_eq_true rfl⟩ (hP.sub [1, 2] rfl) (hD.sub [1, 2] (by decide) rfl) rfl rfl rfl rfl hl.1 rfl (Nat.le_of_ble_eq_true rfl) dX3_tick_68 ⟨Nat.zero_le _, Nat.zero_le _⟩) hP hD hS hA [1, 2] rfl (fun H locs hP hS => ?_)
          have he := Option.some.inj hf
          have he := hO1 _ he.symm
          subst he
          exact kreti hx hb hr hlk hP hD hS dX3_tick_71
        · have hf := kIfF c27 hf
          refine lv_aload_n hx hb dX3_tick_50 rfl (lv_at hl 1 rfl) ?_
          refine va_get (D := D) (ci := 3) (v := .ref a1) (C := RX3) (T := TX3) (N := 4) hx hb hts hinX3 hown hK.1 hP 0 rfl rfl 0 (by decide) hfl10 (fun _ h9 => h9) rfl dX3_tick_51 ?_
          obtain ⟨v30, h31, hf⟩ := kBind hf
          refine kgoJ (wr := [(a0, .inr (3, [.ref a1, .ref a3, .ref a5, .ref a7])), (a3, .inr (1, [.ref a4])), (a4, .inl (cI, 132, .inl R2)), (a5, .inr (0, [.ref a6, .int v25.2.1, .int v25.2.2])), (a6, .inl (cI, 660, .inl v25.1)), (a7, .inr (2, [.ref a8, .int LN, .int PS, .ref a9, .ref a10, .ref a11, .int CM])), (a8, .inl (cI, 80, .inl TB)), (a9, .inl (cI, 20, .inl TC)), (a10, .inl (cI, 20, .inl TW)), (a11, .inl (cI, 20, .inl TG))]) (w2 := (wX3 cI a0 a1 a2 a3 a4 a5 a6 a7 a8 a9 a10 a11 v30.2 R2 v25.1 v25.2.1 v25.2.2 TB LN PS TC TW TG CM)) (krunV (wc := (wX1 cI a1 a2 t45.1)) (As := []) (rest := []) (ci := 1) hx hb hml hown hts hK (kX1_passTick l D cI fu a1 a2 t45.1 v30 h31) gX3_tick_X1_passTick rfl rfl rfl hdX1_passTick ⟨Nat.le_of_ble_eq_true rfl, Nat.le_of_ble_eq_true rfl⟩ (hP.sub [1, 2] rfl) (hD.sub [1, 2] (by decide) rfl) rfl rfl rfl rfl hl.1 rfl (Nat.le_of_ble_eq_true rfl) dX3_tick_54 ⟨Nat.zero_le _, Nat.zero_le _⟩) hP hD hS hA [1, 2] [0, 3, 4, 5, 6, 7, 8, 9, 10, 11] [0, 10, 11, 1, 2, 3, 4, 5, 6, 7, 8, 9] rfl rfl (by decide) (by decide) (by decide) rfl (fun H locs hP hD hS => ?_)
          refine lv_pop hx hb dX3_tick_57 rfl ?_
          refine lv_iinc (v := t45.2 + (1 : Int32)) (lv' := [(2, .int (t45.2 + (1 : Int32))), (0, .ref a0), (1, .int x1)]) hx hb dX3_tick_58 hl (k := 0) rfl rfl (by decide) rfl (fun ls hl => ?_)
          refine lv_goto (tgt := 45) hx hb dX3_tick_61 (by decide) ?_
          obtain ⟨z32, hz32⟩ : ∃ z : Int32, z = t45.2 + (1 : Int32) := ⟨_, rfl⟩
          rw [← hz32] at hf
          have he := (Option.some.inj hf).symm
          have hl : lv_has ls 3 [(2, .int z32), (0, .ref a0), (1, .int x1)] := by rw [hz32]; exact lv_sub hl [0, 1, 2] rfl
          exact hI1 _ he H locs ls hP hD hS hl
      · have hf := kIfF c24 hf
        refine lv_bipush (v := (-104 : Int32)) hx hb dX3_tick_29 (by decide) ?_
        have he := Option.some.inj hf
        subst he
        exact kreti hx hb hr hlk hP hD hS dX3_tick_31
    · have hf := kIfF c21 hf
      refine lv_bipush (v := (-102 : Int32)) hx hb dX3_tick_12 (by decide) ?_
      have he := Option.some.inj hf
      subst he
      exact kreti hx hb hr hlk hP hD hS dX3_tick_14
set_option maxHeartbeats 4000000 in
set_option maxRecDepth 100000 in
theorem kX1_canAim (l : Launch) (D : va_G) (cI : ClassId) (a0 a1 : Nat) (R : (Nat → Int32)) (x1 : Int32) (o : Bool) (hf : fX1_canAim R x1 = some o) : Ct l yX1_canAim wsX1_canAim { frames := 1, cells := 0, slots := 0, locals := 21 } D cI [.ref a0, .int x1] (wX1 cI a0 a1 R) (wX1 cI a0 a1 R) (some (.int (bI o))) := by
  refine Ct.of (cc := cX1_canAim) (maxL := 2) (ret := (some .boolean)) (by decide) rfl (Nat.le_of_ble_eq_true rfl) ?_
  intro p e s m args below meth c A F hP hD hS ls hl
  obtain ⟨hx, hb, hml, hr, hown, hts, hlk, hK, hA⟩ := F
  have hown : s.vm.findClass RX1 = some m.cls := hown
  have hl : lv_has ls 2 [(0, .ref a0), (1, .int x1)] := hl
  unfold fX1_canAim at hf
  refine lv_aload_n hx hb dX1_canAim_0 rfl (lv_at hl 0 rfl) ?_
  refine lv_iload_n hx hb dX1_canAim_1 rfl (lv_at hl 1 rfl) ?_
  obtain ⟨v7, h8, hf⟩ := kBind hf
  refine kgoR (krunV (wc := (wX1 cI a0 a1 R)) (As := [.int x1]) (rest := []) (ci := 1) hx hb hml hown hts hK (kX1_isOnStep l D cI a0 a1 R x1 v7 h8) gX1_canAim_X1_isOnStep rfl rfl rfl hdX1_isOnStep ⟨Nat.le_of_ble_eq_true rfl, Nat.le_of_ble_eq_true rfl⟩ hP hD rfl rfl rfl rfl hl.1 rfl (Nat.le_of_ble_eq_true rfl) dX1_canAim_2 ⟨Nat.zero_le _, Nat.zero_le _⟩) hP hD hS hA [0, 1] rfl (fun H locs hP hS => ?_)
  refine kif_neb (tgt := 20) hx hb dX1_canAim_5 (by decide) (fun c9 => ?_) (fun c9 => ?_)
  · have hf := kIfT c9 hf
    refine lv_iconst (v := (0 : Int32)) hx hb dX1_canAim_20 (by decide) ?_
    have he := Option.some.inj hf
    subst he
    exact kretz hx hb hr hlk hP hD hS dX1_canAim_21
  · have hf := kIfF c9 hf
    refine lv_aload_n hx hb dX1_canAim_8 rfl (lv_at hl 0 rfl) ?_
    refine lv_iload_n hx hb dX1_canAim_9 rfl (lv_at hl 1 rfl) ?_
    obtain ⟨v10, h11, hf⟩ := kBind hf
    refine kgoR (krunV (wc := (wX1 cI a0 a1 R)) (As := [.int x1]) (rest := []) (ci := 1) hx hb hml hown hts hK (kX1_isLeft l D cI a0 a1 R x1 v10 h11) gX1_canAim_X1_isLeft rfl rfl rfl hdX1_isLeft ⟨Nat.le_of_ble_eq_true rfl, Nat.le_of_ble_eq_true rfl⟩ hP hD rfl rfl rfl rfl hl.1 rfl (Nat.le_of_ble_eq_true rfl) dX1_canAim_10 ⟨Nat.zero_le _, Nat.zero_le _⟩) hP hD hS hA [0, 1] rfl (fun H locs hP hS => ?_)
    refine kif_neb (tgt := 20) hx hb dX1_canAim_13 (by decide) (fun c12 => ?_) (fun c12 => ?_)
    · have hf := kIfT c12 hf
      refine lv_iconst (v := (0 : Int32)) hx hb dX1_canAim_20 (by decide) ?_
      have he := Option.some.inj hf
      subst he
      exact kretz hx hb hr hlk hP hD hS dX1_canAim_21
    · have hf := kIfF c12 hf
      refine lv_iconst (v := (1 : Int32)) hx hb dX1_canAim_16 (by decide) ?_
      refine lv_goto (tgt := 21) hx hb dX1_canAim_17 (by decide) ?_
      have he := Option.some.inj hf
      subst he
      exact kretz hx hb hr hlk hP hD hS dX1_canAim_21
set_option maxHeartbeats 4000000 in
set_option maxRecDepth 100000 in
theorem kX1_aim (l : Launch) (D : va_G) (cI : ClassId) (a0 a1 : Nat) (R : (Nat → Int32)) (x1 : Int32) (x2 : Int32) (x3 : Int32) (o : Int32 × (Nat → Int32)) (hf : fX1_aim R x1 x2 x3 = some o) : Ct l yX1_aim wsX1_aim { frames := 2, cells := 0, slots := 0, locals := 44 } D cI [.ref a0, .int x1, .int x2, .int x3] (wX1 cI a0 a1 R) (wX1 cI a0 a1 o.2) (some (.int o.1)) := by
  refine Ct.of (cc := cX1_aim) (maxL := 5) (ret := (some .int)) (by decide) rfl (Nat.le_of_ble_eq_true rfl) ?_
  intro p e s m args below meth c A F hP hD hS ls hl
  obtain ⟨hx, hb, hml, hr, hown, hts, hlk, hK, hA⟩ := F
  have hown : s.vm.findClass RX1 = some m.cls := hown
  have hl : lv_has ls 5 [(0, .ref a0), (1, .int x1), (2, .int x2), (3, .int x3)] := hl
  have hinX1 : ∀ w ∈ wsX10, w ∈ wsX1_aim := by decide +kernel
  have hfl11 := hts (.fieldLink RX1 11 "CraneGuard$Site" "row" "[I") (by decide +kernel)
  unfold fX1_aim at hf
  refine lv_aload_n hx hb dX1_aim_0 rfl (lv_at hl 0 rfl) ?_
  refine va_get (D := D) (ci := 1) (v := .ref a1) (C := RX1) (T := TX1) (N := 1) hx hb hts hinX1 hown hK.1 hP 0 rfl rfl 0 (by decide) hfl11 (fun _ h9 => h9) rfl dX1_aim_1 ?_
  refine lv_iconst (v := (4 : Int32)) hx hb dX1_aim_4 (by decide) ?_
  refine lv_iload_n hx hb dX1_aim_5 rfl (lv_at hl 1 rfl) ?_
  refine lv_iadd hx hb dX1_aim_6 ?_
  obtain ⟨v19, h20, hf⟩ := kBind hf
  refine krd hx hb hK hP 1 rfl h20 dX1_aim_7 ?_
  refine lv_istore (lv' := [(4, .int v19), (0, .ref a0), (1, .int x1), (2, .int x2), (3, .int x3)]) hx hb dX1_aim_8 hl (by decide) rfl (fun ls hl => ?_)
  refine lv_iload hx hb dX1_aim_10 (lv_at hl 0 rfl) ?_
  refine lv_iload_n hx hb dX1_aim_12 rfl (lv_at hl 3 rfl) ?_
  refine lv_icmp_ne (tgt := 24) hx hb dX1_aim_13 (by decide) (fun c21 => ?_) (fun c21 => ?_)
  · have hf := kIfF c21 hf
    refine lv_aload_n hx hb dX1_aim_24 rfl (lv_at hl 1 rfl) ?_
    refine va_get (D := D) (ci := 1) (v := .ref a1) (C := RX1) (T := TX1) (N := 1) hx hb hts hinX1 hown hK.1 hP 0 rfl rfl 0 (by decide) hfl11 (fun _ h9 => h9) rfl dX1_aim_25 ?_
    refine lv_bipush (v := (16 : Int32)) hx hb dX1_aim_28 (by decide) ?_
    refine lv_iload_n hx hb dX1_aim_30 rfl (lv_at hl 2 rfl) ?_
    refine lv_iadd hx hb dX1_aim_31 ?_
    refine lv_iload_n hx hb dX1_aim_32 rfl (lv_at hl 3 rfl) ?_
    obtain ⟨v22, h23, hf⟩ := kBind hf
    refine kwr hx hb hK hP hD hS 1 rfl h23 (wX1 cI a0 a1 v22) rfl dX1_aim_33 (fun H locs hP hD hS => ?_)
    refine lv_aload_n hx hb dX1_aim_34 rfl (lv_at hl 1 rfl) ?_
    refine va_get (D := D) (ci := 1) (v := .ref a1) (C := RX1) (T := TX1) (N := 1) hx hb hts hinX1 hown hK.1 hP 0 rfl rfl 0 (by decide) hfl11 (fun _ h9 => h9) rfl dX1_aim_35 ?_
    refine lv_bipush (v := (20 : Int32)) hx hb dX1_aim_38 (by decide) ?_
    refine lv_iload_n hx hb dX1_aim_40 rfl (lv_at hl 2 rfl) ?_
    refine lv_iadd hx hb dX1_aim_41 ?_
    refine lv_iload_n hx hb dX1_aim_42 rfl (lv_at hl 4 rfl) ?_
    refine lv_if_ne (tgt := 55) hx hb dX1_aim_43 (by decide) (fun c24 => ?_) (fun c24 => ?_)
    · have hf := kIfF c24 hf
      refine lv_iload_n hx hb dX1_aim_55 rfl (lv_at hl 4 rfl) ?_
      obtain ⟨v25, h26, hf⟩ := kBind hf
      refine kwr hx hb hK hP hD hS 1 rfl h26 (wX1 cI a0 a1 v25) rfl dX1_aim_56 (fun H locs hP hD hS => ?_)
      refine lv_aload_n hx hb dX1_aim_57 rfl (lv_at hl 1 rfl) ?_
      refine lv_iload_n hx hb dX1_aim_58 rfl (lv_at hl 2 rfl) ?_
      obtain ⟨v27, h28, hf⟩ := kBind hf
      refine kgoR (krunV (wc := (wX1 cI a0 a1 v25)) (As := [.int x1]) (rest := []) (ci := 1) hx hb hml hown hts hK (kX1_stepsToTarget l D cI a0 a1 v25 x1 v27 h28) gX1_aim_X1_stepsToTarget rfl rfl rfl hdX1_stepsToTarget ⟨Nat.le_of_ble_eq_true rfl, Nat.le_of_ble_eq_true rfl⟩ hP hD rfl rfl rfl rfl hl.1 rfl (Nat.le_of_ble_eq_true rfl) dX1_aim_59 ⟨Nat.zero_le _, Nat.zero_le _⟩) hP hD hS hA [0, 1] rfl (fun H locs hP hS => ?_)
      have he := Option.some.inj hf
      subst he
      exact kreti hx hb hr hlk hP hD hS dX1_aim_62
    · have hf := kIfT c24 hf
      refine lv_iload hx hb dX1_aim_46 (lv_at hl 0 rfl) ?_
      refine lv_iload_n hx hb dX1_aim_48 rfl (lv_at hl 3 rfl) ?_
      obtain ⟨v29, h30, hf⟩ := kBind hf
      refine kgoR (krunSN (wc := ([] : va_W)) (As := [.int v19, .int x2]) (rest := [.int ((20 : Int32) + x1), .ref a1]) hx hb hml hown hts hK (kX3_shorterWay l D cI v19 x2 v29 h30) ggX1_aim_X3_shorterWay hK.2.1 (hts (.initialized RX3) (by decide +kernel)) (hts (.static yX3_shorterWay) (by decide +kernel)) rfl rfl rfl hdX3_shorterWay ⟨Nat.le_of_ble_eq_true rfl, Nat.le_of_ble_eq_true rfl⟩ k_P0 (k_D0 A) rfl hl.1 rfl (Nat.le_of_ble_eq_true rfl) dX1_aim_49 ⟨Nat.zero_le _, Nat.zero_le _⟩) hP hD hS hA [] rfl (fun H locs hP hS => ?_)
      refine lv_goto (tgt := 56) hx hb dX1_aim_52 (by decide) ?_
      obtain ⟨v31, h32, hf⟩ := kBind hf
      refine kwr hx hb hK hP hD hS 1 rfl h32 (wX1 cI a0 a1 v31) rfl dX1_aim_56 (fun H locs hP hD hS => ?_)
      refine lv_aload_n hx hb dX1_aim_57 rfl (lv_at hl 1 rfl) ?_
      refine lv_iload_n hx hb dX1_aim_58 rfl (lv_at hl 2 rfl) ?_
      obtain ⟨v33, h34, hf⟩ := kBind hf
      refine kgoR (krunV (wc := (wX1 cI a0 a1 v31)) (As := [.int x1]) (rest := []) (ci := 1) hx hb hml hown hts hK (kX1_stepsToTarget l D cI a0 a1 v31 x1 v33 h34) gX1_aim_X1_stepsToTarget rfl rfl rfl hdX1_stepsToTarget ⟨Nat.le_of_ble_eq_true rfl, Nat.le_of_ble_eq_true rfl⟩ hP hD rfl rfl rfl rfl hl.1 rfl (Nat.le_of_ble_eq_true rfl) dX1_aim_59 ⟨Nat.zero_le _, Nat.zero_le _⟩) hP hD hS hA [0, 1] rfl (fun H locs hP hS => ?_)
      have he := Option.some.inj hf
      subst he
      exact kreti hx hb hr hlk hP hD hS dX1_aim_62
  · have hf := kIfT c21 hf
    refine lv_aload_n hx hb dX1_aim_16 rfl (lv_at hl 1 rfl) ?_
    refine lv_iload_n hx hb dX1_aim_17 rfl (lv_at hl 2 rfl) ?_
    obtain ⟨v35, h36, hf⟩ := kBind hf
    refine kgoA (krunV (wc := (wX1 cI a0 a1 R)) (As := [.int x1]) (rest := []) (ci := 1) hx hb hml hown hts hK (kX1_dropTarget l D cI a0 a1 R x1 v35 h36) gX1_aim_X1_dropTarget rfl rfl rfl hdX1_dropTarget ⟨Nat.le_of_ble_eq_true rfl, Nat.le_of_ble_eq_true rfl⟩ hP hD rfl rfl rfl rfl hl.1 rfl (Nat.le_of_ble_eq_true rfl) dX1_aim_18 ⟨Nat.zero_le _, Nat.zero_le _⟩) hD hS hA (fun H locs hP hD hS => ?_)
    refine lv_pop hx hb dX1_aim_21 rfl ?_
    refine lv_iconst (v := (0 : Int32)) hx hb dX1_aim_22 (by decide) ?_
    have he := Option.some.inj hf
    subst he
    exact kreti hx hb hr hlk hP hD hS dX1_aim_23
set_option maxHeartbeats 4000000 in
set_option maxRecDepth 100000 in
theorem kX3_slew (l : Launch) (D : va_G) (cI : ClassId) (a0 a1 a2 a3 a4 a5 a6 a7 a8 a9 a10 a11 : Nat) (R : (Nat → Int32)) (R2 : (Nat → Int32)) (HR : (Nat → Int32)) (HS : Int32) (HN : Int32) (TB : (Nat → Int32)) (LN : Int32) (PS : Int32) (TC : (Nat → Int32)) (TW : (Nat → Int32)) (TG : (Nat → Int32)) (CM : Int32) (x1 : Int32) (x2 : Int32) (x3 : Int32) (o : Int32 × (Nat → Int32) × (Nat → Int32) × Int32 × Int32) (hf : fX3_slew R HR HS HN x1 x2 x3 = some o) : Ct l yX3_slew wsX3_slew { frames := 3, cells := 0, slots := 0, locals := 68 } D cI [.ref a0, .int x1, .int x2, .int x3] (wX3 cI a0 a1 a2 a3 a4 a5 a6 a7 a8 a9 a10 a11 R R2 HR HS HN TB LN PS TC TW TG CM) (wX3 cI a0 a1 a2 a3 a4 a5 a6 a7 a8 a9 a10 a11 o.2.1 R2 o.2.2.1 o.2.2.2.1 o.2.2.2.2 TB LN PS TC TW TG CM) (some (.int o.1)) := by
  refine Ct.of (cc := cX3_slew) (maxL := 4) (ret := (some .int)) (by decide) rfl (Nat.le_of_ble_eq_true rfl) ?_
  intro p e s m args below meth c A F hP hD hS ls hl
  obtain ⟨hx, hb, hml, hr, hown, hts, hlk, hK, hA⟩ := F
  have hown : s.vm.findClass RX3 = some m.cls := hown
  have hl : lv_has ls 4 [(0, .ref a0), (1, .int x1), (2, .int x2), (3, .int x3)] := hl
  have hinX3 : ∀ w ∈ wsX30, w ∈ wsX3_slew := by decide +kernel
  have hfl10 := hts (.fieldLink RX3 10 "CraneGuard" "site" "LCraneGuard$Site;") (by decide +kernel)
  have hfl22 := hts (.fieldLink RX3 22 "CraneGuard" "history" "LCraneGuard$History;") (by decide +kernel)
  unfold fX3_slew at hf
  refine lv_aload_n hx hb dX3_slew_0 rfl (lv_at hl 0 rfl) ?_
  refine va_get (D := D) (ci := 3) (v := .ref a1) (C := RX3) (T := TX3) (N := 4) hx hb hts hinX3 hown hK.1 hP 0 rfl rfl 0 (by decide) hfl10 (fun _ h9 => h9) rfl dX3_slew_1 ?_
  refine lv_iload_n hx hb dX3_slew_4 rfl (lv_at hl 1 rfl) ?_
  obtain ⟨v16, h17, hf⟩ := kBind hf
  refine kgoR (krunV (wc := (wX1 cI a1 a2 R)) (As := [.int x1]) (rest := []) (ci := 1) hx hb hml hown hts hK (kX1_hasCrane l D cI a1 a2 R x1 v16 h17) gX3_slew_X1_hasCrane rfl rfl rfl hdX1_hasCrane ⟨Nat.le_of_ble_eq_true rfl, Nat.le_of_ble_eq_true rfl⟩ (hP.sub [1, 2] rfl) (hD.sub [1, 2] (by decide) rfl) rfl rfl rfl rfl hl.1 rfl (Nat.le_of_ble_eq_true rfl) dX3_slew_5 ⟨Nat.zero_le _, Nat.zero_le _⟩) hP hD hS hA [1, 2] rfl (fun H locs hP hS => ?_)
  refine kif_neb (tgt := 14) hx hb dX3_slew_8 (by decide) (fun c18 => ?_) (fun c18 => ?_)
  · have hf := kIfT c18 hf
    refine lv_iload_n hx hb dX3_slew_14 rfl (lv_at hl 2 rfl) ?_
    obtain ⟨v19, h20, hf⟩ := kBind hf
    refine kgoR (krunS (wc := ([] : va_W)) (As := [.int x2]) (rest := []) hx hb hml hown hts hK (kX3_isAngle l D cI x2 v19 h20) gX3_slew_X3_isAngle rfl rfl rfl hdX3_isAngle ⟨Nat.le_of_ble_eq_true rfl, Nat.le_of_ble_eq_true rfl⟩ k_P0 (k_D0 A) rfl hl.1 rfl (Nat.le_of_ble_eq_true rfl) dX3_slew_15 ⟨Nat.zero_le _, Nat.zero_le _⟩) hP hD hS hA [] rfl (fun H locs hP hS => ?_)
    refine kif_eqb (tgt := 31) hx hb dX3_slew_18 (by decide) (fun c21 => ?_) (fun c21 => ?_)
    · have hf := kIfF c21 hf
      refine lv_bipush (v := (-102 : Int32)) hx hb dX3_slew_31 (by decide) ?_
      have he := Option.some.inj hf
      subst he
      exact kreti hx hb hr hlk hP hD hS dX3_slew_33
    · have hf := kIfT c21 hf
      refine lv_iload_n hx hb dX3_slew_21 rfl (lv_at hl 3 rfl) ?_
      refine lv_iconst (v := (-1 : Int32)) hx hb dX3_slew_22 (by decide) ?_
      refine lv_icmp_lt (tgt := 31) hx hb dX3_slew_23 (by decide) (fun c22 => ?_) (fun c22 => ?_)
      · have hf := kIfT c22 hf
        refine lv_bipush (v := (-102 : Int32)) hx hb dX3_slew_31 (by decide) ?_
        have he := Option.some.inj hf
        subst he
        exact kreti hx hb hr hlk hP hD hS dX3_slew_33
      · have hf := kIfF c22 hf
        refine lv_iload_n hx hb dX3_slew_26 rfl (lv_at hl 3 rfl) ?_
        refine lv_iconst (v := (1 : Int32)) hx hb dX3_slew_27 (by decide) ?_
        refine lv_icmp_le (tgt := 34) hx hb dX3_slew_28 (by decide) (fun c23 => ?_) (fun c23 => ?_)
        · have hf := kIfT c23 hf
          refine lv_aload_n hx hb dX3_slew_34 rfl (lv_at hl 0 rfl) ?_
          refine va_get (D := D) (ci := 3) (v := .ref a1) (C := RX3) (T := TX3) (N := 4) hx hb hts hinX3 hown hK.1 hP 0 rfl rfl 0 (by decide) hfl10 (fun _ h9 => h9) rfl dX3_slew_35 ?_
          refine lv_iload_n hx hb dX3_slew_38 rfl (lv_at hl 1 rfl) ?_
          obtain ⟨v24, h25, hf⟩ := kBind hf
          refine kgoR (krunV (wc := (wX1 cI a1 a2 R)) (As := [.int x1]) (rest := []) (ci := 1) hx hb hml hown hts hK (kX1_canAim l D cI a1 a2 R x1 v24 h25) gX3_slew_X1_canAim rfl rfl rfl hdX1_canAim ⟨Nat.le_of_ble_eq_true rfl, Nat.le_of_ble_eq_true rfl⟩ (hP.sub [1, 2] rfl) (hD.sub [1, 2] (by decide) rfl) rfl rfl rfl rfl hl.1 rfl (Nat.le_of_ble_eq_true rfl) dX3_slew_39 ⟨Nat.zero_le _, Nat.zero_le _⟩) hP hD hS hA [1, 2] rfl (fun H locs hP hS => ?_)
          refine kif_neb (tgt := 48) hx hb dX3_slew_42 (by decide) (fun c26 => ?_) (fun c26 => ?_)
          · have hf := kIfT c26 hf
            refine lv_aload_n hx hb dX3_slew_48 rfl (lv_at hl 0 rfl) ?_
            refine va_get (D := D) (ci := 3) (v := .ref a5) (C := RX3) (T := TX3) (N := 4) hx hb hts hinX3 hown hK.1 hP 0 rfl rfl 2 (by decide) hfl22 (fun _ h9 => h9) rfl dX3_slew_49 ?_
            refine lv_aload_n hx hb dX3_slew_52 rfl (lv_at hl 0 rfl) ?_
            refine va_get (D := D) (ci := 3) (v := .ref a1) (C := RX3) (T := TX3) (N := 4) hx hb hts hinX3 hown hK.1 hP 0 rfl rfl 0 (by decide) hfl10 (fun _ h9 => h9) rfl dX3_slew_53 ?_
            obtain ⟨v27, h28, hf⟩ := kBind hf
            refine kgoJ (wr := [(a0, .inr (3, [.ref a1, .ref a3, .ref a5, .ref a7])), (a3, .inr (1, [.ref a4])), (a4, .inl (cI, 132, .inl R2)), (a7, .inr (2, [.ref a8, .int LN, .int PS, .ref a9, .ref a10, .ref a11, .int CM])), (a8, .inl (cI, 80, .inl TB)), (a9, .inl (cI, 20, .inl TC)), (a10, .inl (cI, 20, .inl TW)), (a11, .inl (cI, 20, .inl TG))]) (w2 := (wX3 cI a0 a1 a2 a3 a4 a5 a6 a7 a8 a9 a10 a11 R R2 v27.1 v27.2.1 v27.2.2 TB LN PS TC TW TG CM)) (krunV (wc := (wX0_X1 cI a5 a6 a1 a2 HR HS HN R)) (As := [.ref a1]) (rest := []) (ci := 0) hx hb hml hown hts hK (kX0_keep l D cI a5 a6 a1 a2 HR HS HN R v27 h28) gX3_slew_X0_keep rfl rfl rfl hdX0_keep ⟨Nat.le_of_ble_eq_true rfl, Nat.le_of_ble_eq_true rfl⟩ (hP.sub [5, 6, 1, 2] rfl) (hD.sub [5, 6, 1, 2] (by decide) rfl) rfl rfl rfl rfl hl.1 rfl (Nat.le_of_ble_eq_true rfl) dX3_slew_56 ⟨Nat.zero_le _, Nat.zero_le _⟩) hP hD hS hA [5, 6, 1, 2] [0, 3, 4, 7, 8, 9, 10, 11] [0, 10, 11, 1, 2, 8, 9, 3, 4, 5, 6, 7] rfl rfl (by decide) (by decide) (by decide) rfl (fun H locs hP hD hS => ?_)
            refine lv_aload_n hx hb dX3_slew_59 rfl (lv_at hl 0 rfl) ?_
            refine va_get (D := D) (ci := 3) (v := .ref a1) (C := RX3) (T := TX3) (N := 4) hx hb hts hinX3 hown hK.1 hP 0 rfl rfl 0 (by decide) hfl10 (fun _ h9 => h9) rfl dX3_slew_60 ?_
            refine lv_iload_n hx hb dX3_slew_63 rfl (lv_at hl 1 rfl) ?_
            refine lv_iload_n hx hb dX3_slew_64 rfl (lv_at hl 2 rfl) ?_
            refine lv_iload_n hx hb dX3_slew_65 rfl (lv_at hl 3 rfl) ?_
            obtain ⟨v29, h30, hf⟩ := kBind hf
            refine kgoJ (wr := [(a0, .inr (3, [.ref a1, .ref a3, .ref a5, .ref a7])), (a3, .inr (1, [.ref a4])), (a4, .inl (cI, 132, .inl R2)), (a5, .inr (0, [.ref a6, .int v27.2.1, .int v27.2.2])), (a6, .inl (cI, 660, .inl v27.1)), (a7, .inr (2, [.ref a8, .int LN, .int PS, .ref a9, .ref a10, .ref a11, .int CM])), (a8, .inl (cI, 80, .inl TB)), (a9, .inl (cI, 20, .inl TC)), (a10, .inl (cI, 20, .inl TW)), (a11, .inl (cI, 20, .inl TG))]) (w2 := (wX3 cI a0 a1 a2 a3 a4 a5 a6 a7 a8 a9 a10 a11 v29.2 R2 v27.1 v27.2.1 v27.2.2 TB LN PS TC TW TG CM)) (krunV (wc := (wX1 cI a1 a2 R)) (As := [.int x1, .int x2, .int x3]) (rest := []) (ci := 1) hx hb hml hown hts hK (kX1_aim l D cI a1 a2 R x1 x2 x3 v29 h30) gX3_slew_X1_aim rfl rfl rfl hdX1_aim ⟨Nat.le_of_ble_eq_true rfl, Nat.le_of_ble_eq_true rfl⟩ (hP.sub [1, 2] rfl) (hD.sub [1, 2] (by decide) rfl) rfl rfl rfl rfl hl.1 rfl (Nat.le_of_ble_eq_true rfl) dX3_slew_66 ⟨Nat.zero_le _, Nat.zero_le _⟩) hP hD hS hA [1, 2] [0, 3, 4, 5, 6, 7, 8, 9, 10, 11] [0, 10, 11, 1, 2, 3, 4, 5, 6, 7, 8, 9] rfl rfl (by decide) (by decide) (by decide) rfl (fun H locs hP hD hS => ?_)
            have he := Option.some.inj hf
            subst he
            exact kreti hx hb hr hlk hP hD hS dX3_slew_69
          · have hf := kIfF c26 hf
            refine lv_bipush (v := (-103 : Int32)) hx hb dX3_slew_45 (by decide) ?_
            have he := Option.some.inj hf
            subst he
            exact kreti hx hb hr hlk hP hD hS dX3_slew_47
        · have hf := kIfF c23 hf
          refine lv_bipush (v := (-102 : Int32)) hx hb dX3_slew_31 (by decide) ?_
          have he := Option.some.inj hf
          subst he
          exact kreti hx hb hr hlk hP hD hS dX3_slew_33
  · have hf := kIfF c18 hf
    refine lv_bipush (v := (-101 : Int32)) hx hb dX3_slew_11 (by decide) ?_
    have he := Option.some.inj hf
    subst he
    exact kreti hx hb hr hlk hP hD hS dX3_slew_13
set_option maxHeartbeats 4000000 in
set_option maxRecDepth 100000 in
theorem kL_changes (l : Launch) (D : va_G) (cI : ClassId) (fu : Nat) (a0 a1 a2 a3 a4 a5 a6 a7 a8 a9 a10 a11 : Nat) (R : (Nat → Int32)) (R2 : (Nat → Int32)) (HR : (Nat → Int32)) (HS : Int32) (HN : Int32) (TB : (Nat → Int32)) (LN : Int32) (PS : Int32) (TC : (Nat → Int32)) (TW : (Nat → Int32)) (TG : (Nat → Int32)) (CM : Int32) (x1 : Int32) (o : Int32 × (Nat → Int32) × (Nat → Int32) × (Nat → Int32) × Int32 × Int32) (hf : fL_changes fu R R2 HR HS HN x1 = some o) : Ct l yL_changes wsL_changes { frames := 6, cells := 0, slots := 0, locals := 140 } D cI [.ref a0, .int x1] (wX3 cI a0 a1 a2 a3 a4 a5 a6 a7 a8 a9 a10 a11 R R2 HR HS HN TB LN PS TC TW TG CM) (wX3 cI a0 a1 a2 a3 a4 a5 a6 a7 a8 a9 a10 a11 o.2.1 o.2.2.1 o.2.2.2.1 o.2.2.2.2.1 o.2.2.2.2.2 TB LN PS TC TW TG CM) (some (.int o.1)) := by
  refine Ct.of (cc := cL_changes) (maxL := 3) (ret := (some .int)) (by decide) rfl (Nat.le_of_ble_eq_true rfl) ?_
  intro p e s m args below meth c A F hP hD hS ls hl
  obtain ⟨hx, hb, hml, hr, hown, hts, hlk, hK, hA⟩ := F
  have hown : s.vm.findClass RL = some m.cls := hown
  have hl : lv_has ls 3 [(0, .ref a0), (1, .int x1)] := hl
  unfold fL_changes at hf
  refine lv_iload_n hx hb dL_changes_0 rfl (lv_at hl 1 rfl) ?_
  refine lv_iconst (v := (4 : Int32)) hx hb dL_changes_1 (by decide) ?_
  refine kishr hx hb dL_changes_2 ?_
  refine lv_iconst (v := (4 : Int32)) hx hb dL_changes_3 (by decide) ?_
  obtain ⟨v77, h78, hf⟩ := kBind hf
  refine kgoR (krunS (wc := ([] : va_W)) (As := [.int (jshr x1 (4 : Int32)), .int (4 : Int32)]) (rest := []) hx hb hml hown hts hK (kL_low l D cI (jshr x1 (4 : Int32)) (4 : Int32) v77 h78) gL_changes_L_low rfl rfl rfl hdL_low ⟨Nat.le_of_ble_eq_true rfl, Nat.le_of_ble_eq_true rfl⟩ k_P0 (k_D0 A) rfl hl.1 rfl (Nat.le_of_ble_eq_true rfl) dL_changes_4 ⟨Nat.zero_le _, Nat.zero_le _⟩) hP hD hS hA [] rfl (fun H locs hP hS => ?_)
  refine lv_istore_n (lv' := [(2, .int v77), (0, .ref a0), (1, .int x1)]) hx hb dL_changes_7 rfl hl (by decide) rfl (fun ls hl => ?_)
  refine lv_iload_n hx hb dL_changes_8 rfl (lv_at hl 2 rfl) ?_
  refine lv_bipush (v := (16 : Int32)) hx hb dL_changes_9 (by decide) ?_
  obtain ⟨v79, h80, hf⟩ := kBind hf
  refine kgoR (krunS (wc := ([] : va_W)) (As := [.int x1, .int (16 : Int32)]) (rest := []) hx hb hml hown hts hK (kL_low l D cI x1 (16 : Int32) v79 h80) gL_changes_L_low rfl rfl rfl hdL_low ⟨Nat.le_of_ble_eq_true rfl, Nat.le_of_ble_eq_true rfl⟩ k_P0 (k_D0 A) rfl hl.1 rfl (Nat.le_of_ble_eq_true rfl) dL_changes_11 ⟨Nat.zero_le _, Nat.zero_le _⟩) hP hD hS hA [] rfl (fun H locs hP hS => ?_)
  by_cases c81 : v79 = (0 : Int32)
  · have hf := kIfT c81 hf
    refine lv_tableIn (off := 58) (tgt := 72) hx hb dL_changes_14 (by rw [c81]; decide) (by rw [c81]; decide) (by rw [c81]; rfl) (by decide) ?_
    refine lv_aload_n hx hb dL_changes_72 rfl (lv_at hl 1 rfl) ?_
    refine lv_iload_n hx hb dL_changes_73 rfl (lv_at hl 0 rfl) ?_
    refine lv_iload_n hx hb dL_changes_74 rfl (lv_at hl 2 rfl) ?_
    refine lv_bipush (v := (6 : Int32)) hx hb dL_changes_75 (by decide) ?_
    refine kishr hx hb dL_changes_77 ?_
    refine lv_bipush (v := (10 : Int32)) hx hb dL_changes_78 (by decide) ?_
    obtain ⟨v82, h83, hf⟩ := kBind hf
    refine kgoR (krunS (wc := ([] : va_W)) (As := [.int (jshr x1 (6 : Int32)), .int (10 : Int32)]) (rest := [.int v77, .ref a0]) hx hb hml hown hts hK (kL_low l D cI (jshr x1 (6 : Int32)) (10 : Int32) v82 h83) gL_changes_L_low rfl rfl rfl hdL_low ⟨Nat.le_of_ble_eq_true rfl, Nat.le_of_ble_eq_true rfl⟩ k_P0 (k_D0 A) rfl hl.1 rfl (Nat.le_of_ble_eq_true rfl) dL_changes_80 ⟨Nat.zero_le _, Nat.zero_le _⟩) hP hD hS hA [] rfl (fun H locs hP hS => ?_)
    obtain ⟨v84, h85, hf⟩ := kBind hf
    refine kgoA (krunV (wc := (wX3 cI a0 a1 a2 a3 a4 a5 a6 a7 a8 a9 a10 a11 R R2 HR HS HN TB LN PS TC TW TG CM)) (As := [.int v77, .int v82]) (rest := []) (ci := 3) hx hb hml hown hts hK (kX3_setPriority l D cI a0 a1 a2 a3 a4 a5 a6 a7 a8 a9 a10 a11 R R2 HR HS HN TB LN PS TC TW TG CM v77 v82 v84 h85) gL_changes_X3_setPriority rfl rfl rfl hdX3_setPriority ⟨Nat.le_of_ble_eq_true rfl, Nat.le_of_ble_eq_true rfl⟩ hP hD rfl rfl rfl rfl hl.1 rfl (Nat.le_of_ble_eq_true rfl) dL_changes_83 ⟨Nat.zero_le _, Nat.zero_le _⟩) hD hS hA (fun H locs hP hD hS => ?_)
    have he := Option.some.inj hf
    subst he
    exact kreti hx hb hr hlk hP hD hS dL_changes_86
  have hf := kIfF c81 hf
  by_cases c86 : v79 = (1 : Int32)
  · have hf := kIfT c86 hf
    refine lv_tableIn (off := 73) (tgt := 87) hx hb dL_changes_14 (by rw [c86]; decide) (by rw [c86]; decide) (by rw [c86]; rfl) (by decide) ?_
    refine lv_aload_n hx hb dL_changes_87 rfl (lv_at hl 1 rfl) ?_
    refine lv_iload_n hx hb dL_changes_88 rfl (lv_at hl 0 rfl) ?_
    refine lv_iload_n hx hb dL_changes_89 rfl (lv_at hl 2 rfl) ?_
    refine lv_bipush (v := (6 : Int32)) hx hb dL_changes_90 (by decide) ?_
    refine kishr hx hb dL_changes_92 ?_
    refine lv_bipush (v := (6 : Int32)) hx hb dL_changes_93 (by decide) ?_
    obtain ⟨v87, h88, hf⟩ := kBind hf
    refine kgoR (krunS (wc := ([] : va_W)) (As := [.int (jshr x1 (6 : Int32)), .int (6 : Int32)]) (rest := [.int v77, .ref a0]) hx hb hml hown hts hK (kL_low l D cI (jshr x1 (6 : Int32)) (6 : Int32) v87 h88) gL_changes_L_low rfl rfl rfl hdL_low ⟨Nat.le_of_ble_eq_true rfl, Nat.le_of_ble_eq_true rfl⟩ k_P0 (k_D0 A) rfl hl.1 rfl (Nat.le_of_ble_eq_true rfl) dL_changes_95 ⟨Nat.zero_le _, Nat.zero_le _⟩) hP hD hS hA [] rfl (fun H locs hP hS => ?_)
    refine lv_iload_n hx hb dL_changes_98 rfl (lv_at hl 2 rfl) ?_
    refine lv_bipush (v := (9 : Int32)) hx hb dL_changes_99 (by decide) ?_
    refine kishr hx hb dL_changes_101 ?_
    refine lv_bipush (v := (36 : Int32)) hx hb dL_changes_102 (by decide) ?_
    obtain ⟨v89, h90, hf⟩ := kBind hf
    refine kgoR (krunS (wc := ([] : va_W)) (As := [.int (jshr x1 (9 : Int32)), .int (36 : Int32)]) (rest := [.int v87, .int v77, .ref a0]) hx hb hml hown hts hK (kL_low l D cI (jshr x1 (9 : Int32)) (36 : Int32) v89 h90) gL_changes_L_low rfl rfl rfl hdL_low ⟨Nat.le_of_ble_eq_true rfl, Nat.le_of_ble_eq_true rfl⟩ k_P0 (k_D0 A) rfl hl.1 rfl (Nat.le_of_ble_eq_true rfl) dL_changes_104 ⟨Nat.zero_le _, Nat.zero_le _⟩) hP hD hS hA [] rfl (fun H locs hP hS => ?_)
    refine lv_iload_n hx hb dL_changes_107 rfl (lv_at hl 2 rfl) ?_
    refine lv_bipush (v := (14 : Int32)) hx hb dL_changes_108 (by decide) ?_
    refine kishr hx hb dL_changes_110 ?_
    refine lv_bipush (v := (36 : Int32)) hx hb dL_changes_111 (by decide) ?_
    obtain ⟨v91, h92, hf⟩ := kBind hf
    refine kgoR (krunS (wc := ([] : va_W)) (As := [.int (jshr x1 (14 : Int32)), .int (36 : Int32)]) (rest := [.int v89, .int v87, .int v77, .ref a0]) hx hb hml hown hts hK (kL_low l D cI (jshr x1 (14 : Int32)) (36 : Int32) v91 h92) gL_changes_L_low rfl rfl rfl hdL_low ⟨Nat.le_of_ble_eq_true rfl, Nat.le_of_ble_eq_true rfl⟩ k_P0 (k_D0 A) rfl hl.1 rfl (Nat.le_of_ble_eq_true rfl) dL_changes_113 ⟨Nat.zero_le _, Nat.zero_le _⟩) hP hD hS hA [] rfl (fun H locs hP hS => ?_)
    obtain ⟨v93, h94, hf⟩ := kBind hf
    refine kgoA (krunV (wc := (wX3 cI a0 a1 a2 a3 a4 a5 a6 a7 a8 a9 a10 a11 R R2 HR HS HN TB LN PS TC TW TG CM)) (As := [.int v77, .int v87, .int v89, .int v91]) (rest := []) (ci := 3) hx hb hml hown hts hK (kX3_setArc l D cI fu a0 a1 a2 a3 a4 a5 a6 a7 a8 a9 a10 a11 R R2 HR HS HN TB LN PS TC TW TG CM v77 v87 v89 v91 v93 h94) gL_changes_X3_setArc rfl rfl rfl hdX3_setArc ⟨Nat.le_of_ble_eq_true rfl, Nat.le_of_ble_eq_true rfl⟩ hP hD rfl rfl rfl rfl hl.1 rfl (Nat.le_of_ble_eq_true rfl) dL_changes_116 ⟨Nat.zero_le _, Nat.zero_le _⟩) hD hS hA (fun H locs hP hD hS => ?_)
    have he := Option.some.inj hf
    subst he
    exact kreti hx hb hr hlk hP hD hS dL_changes_119
  have hf := kIfF c86 hf
  by_cases c95 : v79 = (2 : Int32)
  · have hf := kIfT c95 hf
    refine lv_tableIn (off := 73) (tgt := 87) hx hb dL_changes_14 (by rw [c95]; decide) (by rw [c95]; decide) (by rw [c95]; rfl) (by decide) ?_
    refine lv_aload_n hx hb dL_changes_87 rfl (lv_at hl 1 rfl) ?_
    refine lv_iload_n hx hb dL_changes_88 rfl (lv_at hl 0 rfl) ?_
    refine lv_iload_n hx hb dL_changes_89 rfl (lv_at hl 2 rfl) ?_
    refine lv_bipush (v := (6 : Int32)) hx hb dL_changes_90 (by decide) ?_
    refine kishr hx hb dL_changes_92 ?_
    refine lv_bipush (v := (6 : Int32)) hx hb dL_changes_93 (by decide) ?_
    obtain ⟨v96, h97, hf⟩ := kBind hf
    refine kgoR (krunS (wc := ([] : va_W)) (As := [.int (jshr x1 (6 : Int32)), .int (6 : Int32)]) (rest := [.int v77, .ref a0]) hx hb hml hown hts hK (kL_low l D cI (jshr x1 (6 : Int32)) (6 : Int32) v96 h97) gL_changes_L_low rfl rfl rfl hdL_low ⟨Nat.le_of_ble_eq_true rfl, Nat.le_of_ble_eq_true rfl⟩ k_P0 (k_D0 A) rfl hl.1 rfl (Nat.le_of_ble_eq_true rfl) dL_changes_95 ⟨Nat.zero_le _, Nat.zero_le _⟩) hP hD hS hA [] rfl (fun H locs hP hS => ?_)
    refine lv_iload_n hx hb dL_changes_98 rfl (lv_at hl 2 rfl) ?_
    refine lv_bipush (v := (9 : Int32)) hx hb dL_changes_99 (by decide) ?_
    refine kishr hx hb dL_changes_101 ?_
    refine lv_bipush (v := (36 : Int32)) hx hb dL_changes_102 (by decide) ?_
    obtain ⟨v98, h99, hf⟩ := kBind hf
    refine kgoR (krunS (wc := ([] : va_W)) (As := [.int (jshr x1 (9 : Int32)), .int (36 : Int32)]) (rest := [.int v96, .int v77, .ref a0]) hx hb hml hown hts hK (kL_low l D cI (jshr x1 (9 : Int32)) (36 : Int32) v98 h99) gL_changes_L_low rfl rfl rfl hdL_low ⟨Nat.le_of_ble_eq_true rfl, Nat.le_of_ble_eq_true rfl⟩ k_P0 (k_D0 A) rfl hl.1 rfl (Nat.le_of_ble_eq_true rfl) dL_changes_104 ⟨Nat.zero_le _, Nat.zero_le _⟩) hP hD hS hA [] rfl (fun H locs hP hS => ?_)
    refine lv_iload_n hx hb dL_changes_107 rfl (lv_at hl 2 rfl) ?_
    refine lv_bipush (v := (14 : Int32)) hx hb dL_changes_108 (by decide) ?_
    refine kishr hx hb dL_changes_110 ?_
    refine lv_bipush (v := (36 : Int32)) hx hb dL_changes_111 (by decide) ?_
    obtain ⟨v100, h101, hf⟩ := kBind hf
    refine kgoR (krunS (wc := ([] : va_W)) (As := [.int (jshr x1 (14 : Int32)), .int (36 : Int32)]) (rest := [.int v98, .int v96, .int v77, .ref a0]) hx hb hml hown hts hK (kL_low l D cI (jshr x1 (14 : Int32)) (36 : Int32) v100 h101) gL_changes_L_low rfl rfl rfl hdL_low ⟨Nat.le_of_ble_eq_true rfl, Nat.le_of_ble_eq_true rfl⟩ k_P0 (k_D0 A) rfl hl.1 rfl (Nat.le_of_ble_eq_true rfl) dL_changes_113 ⟨Nat.zero_le _, Nat.zero_le _⟩) hP hD hS hA [] rfl (fun H locs hP hS => ?_)
    obtain ⟨v102, h103, hf⟩ := kBind hf
    refine kgoA (krunV (wc := (wX3 cI a0 a1 a2 a3 a4 a5 a6 a7 a8 a9 a10 a11 R R2 HR HS HN TB LN PS TC TW TG CM)) (As := [.int v77, .int v96, .int v98, .int v100]) (rest := []) (ci := 3) hx hb hml hown hts hK (kX3_setArc l D cI fu a0 a1 a2 a3 a4 a5 a6 a7 a8 a9 a10 a11 R R2 HR HS HN TB LN PS TC TW TG CM v77 v96 v98 v100 v102 h103) gL_changes_X3_setArc rfl rfl rfl hdX3_setArc ⟨Nat.le_of_ble_eq_true rfl, Nat.le_of_ble_eq_true rfl⟩ hP hD rfl rfl rfl rfl hl.1 rfl (Nat.le_of_ble_eq_true rfl) dL_changes_116 ⟨Nat.zero_le _, Nat.zero_le _⟩) hD hS hA (fun H locs hP hD hS => ?_)
    have he := Option.some.inj hf
    subst he
    exact kreti hx hb hr hlk hP hD hS dL_changes_119
  have hf := kIfF c95 hf
  by_cases c104 : v79 = (3 : Int32)
  · have hf := kIfT c104 hf
    refine lv_tableIn (off := 73) (tgt := 87) hx hb dL_changes_14 (by rw [c104]; decide) (by rw [c104]; decide) (by rw [c104]; rfl) (by decide) ?_
    refine lv_aload_n hx hb dL_changes_87 rfl (lv_at hl 1 rfl) ?_
    refine lv_iload_n hx hb dL_changes_88 rfl (lv_at hl 0 rfl) ?_
    refine lv_iload_n hx hb dL_changes_89 rfl (lv_at hl 2 rfl) ?_
    refine lv_bipush (v := (6 : Int32)) hx hb dL_changes_90 (by decide) ?_
    refine kishr hx hb dL_changes_92 ?_
    refine lv_bipush (v := (6 : Int32)) hx hb dL_changes_93 (by decide) ?_
    obtain ⟨v105, h106, hf⟩ := kBind hf
    refine kgoR (krunS (wc := ([] : va_W)) (As := [.int (jshr x1 (6 : Int32)), .int (6 : Int32)]) (rest := [.int v77, .ref a0]) hx hb hml hown hts hK (kL_low l D cI (jshr x1 (6 : Int32)) (6 : Int32) v105 h106) gL_changes_L_low rfl rfl rfl hdL_low ⟨Nat.le_of_ble_eq_true rfl, Nat.le_of_ble_eq_true rfl⟩ k_P0 (k_D0 A) rfl hl.1 rfl (Nat.le_of_ble_eq_true rfl) dL_changes_95 ⟨Nat.zero_le _, Nat.zero_le _⟩) hP hD hS hA [] rfl (fun H locs hP hS => ?_)
    refine lv_iload_n hx hb dL_changes_98 rfl (lv_at hl 2 rfl) ?_
    refine lv_bipush (v := (9 : Int32)) hx hb dL_changes_99 (by decide) ?_
    refine kishr hx hb dL_changes_101 ?_
    refine lv_bipush (v := (36 : Int32)) hx hb dL_changes_102 (by decide) ?_
    obtain ⟨v107, h108, hf⟩ := kBind hf
    refine kgoR (krunS (wc := ([] : va_W)) (As := [.int (jshr x1 (9 : Int32)), .int (36 : Int32)]) (rest := [.int v105, .int v77, .ref a0]) hx hb hml hown hts hK (kL_low l D cI (jshr x1 (9 : Int32)) (36 : Int32) v107 h108) gL_changes_L_low rfl rfl rfl hdL_low ⟨Nat.le_of_ble_eq_true rfl, Nat.le_of_ble_eq_true rfl⟩ k_P0 (k_D0 A) rfl hl.1 rfl (Nat.le_of_ble_eq_true rfl) dL_changes_104 ⟨Nat.zero_le _, Nat.zero_le _⟩) hP hD hS hA [] rfl (fun H locs hP hS => ?_)
    refine lv_iload_n hx hb dL_changes_107 rfl (lv_at hl 2 rfl) ?_
    refine lv_bipush (v := (14 : Int32)) hx hb dL_changes_108 (by decide) ?_
    refine kishr hx hb dL_changes_110 ?_
    refine lv_bipush (v := (36 : Int32)) hx hb dL_changes_111 (by decide) ?_
    obtain ⟨v109, h110, hf⟩ := kBind hf
    refine kgoR (krunS (wc := ([] : va_W)) (As := [.int (jshr x1 (14 : Int32)), .int (36 : Int32)]) (rest := [.int v107, .int v105, .int v77, .ref a0]) hx hb hml hown hts hK (kL_low l D cI (jshr x1 (14 : Int32)) (36 : Int32) v109 h110) gL_changes_L_low rfl rfl rfl hdL_low ⟨Nat.le_of_ble_eq_true rfl, Nat.le_of_ble_eq_true rfl⟩ k_P0 (k_D0 A) rfl hl.1 rfl (Nat.le_of_ble_eq_true rfl) dL_changes_113 ⟨Nat.zero_le _, Nat.zero_le _⟩) hP hD hS hA [] rfl (fun H locs hP hS => ?_)
    obtain ⟨v111, h112, hf⟩ := kBind hf
    refine kgoA (krunV (wc := (wX3 cI a0 a1 a2 a3 a4 a5 a6 a7 a8 a9 a10 a11 R R2 HR HS HN TB LN PS TC TW TG CM)) (As := [.int v77, .int v105, .int v107, .int v109]) (rest := []) (ci := 3) hx hb hml hown hts hK (kX3_setArc l D cI fu a0 a1 a2 a3 a4 a5 a6 a7 a8 a9 a10 a11 R R2 HR HS HN TB LN PS TC TW TG CM v77 v105 v107 v109 v111 h112) gL_changes_X3_setArc rfl rfl rfl hdX3_setArc ⟨Nat.le_of_ble_eq_true rfl, Nat.le_of_ble_eq_true rfl⟩ hP hD rfl rfl rfl rfl hl.1 rfl (Nat.le_of_ble_eq_true rfl) dL_changes_116 ⟨Nat.zero_le _, Nat.zero_le _⟩) hD hS hA (fun H locs hP hD hS => ?_)
    have he := Option.some.inj hf
    subst he
    exact kreti hx hb hr hlk hP hD hS dL_changes_119
  have hf := kIfF c104 hf
  by_cases c113 : v79 = (4 : Int32)
  · have hf := kIfT c113 hf
    refine lv_tableIn (off := 106) (tgt := 120) hx hb dL_changes_14 (by rw [c113]; decide) (by rw [c113]; decide) (by rw [c113]; rfl) (by decide) ?_
    refine lv_aload_n hx hb dL_changes_120 rfl (lv_at hl 1 rfl) ?_
    refine lv_iload_n hx hb dL_changes_121 rfl (lv_at hl 0 rfl) ?_
    refine lv_iload_n hx hb dL_changes_122 rfl (lv_at hl 2 rfl) ?_
    refine lv_bipush (v := (6 : Int32)) hx hb dL_changes_123 (by decide) ?_
    refine kishr hx hb dL_changes_125 ?_
    refine lv_bipush (v := (6 : Int32)) hx hb dL_changes_126 (by decide) ?_
    obtain ⟨v114, h115, hf⟩ := kBind hf
    refine kgoR (krunS (wc := ([] : va_W)) (As := [.int (jshr x1 (6 : Int32)), .int (6 : Int32)]) (rest := [.int v77, .ref a0]) hx hb hml hown hts hK (kL_low l D cI (jshr x1 (6 : Int32)) (6 : Int32) v114 h115) gL_changes_L_low rfl rfl rfl hdL_low ⟨Nat.le_of_ble_eq_true rfl, Nat.le_of_ble_eq_true rfl⟩ k_P0 (k_D0 A) rfl hl.1 rfl (Nat.le_of_ble_eq_true rfl) dL_changes_128 ⟨Nat.zero_le _, Nat.zero_le _⟩) hP hD hS hA [] rfl (fun H locs hP hS => ?_)
    obtain ⟨v116, h117, hf⟩ := kBind hf
    refine kgoA (krunV (wc := (wX3 cI a0 a1 a2 a3 a4 a5 a6 a7 a8 a9 a10 a11 R R2 HR HS HN TB LN PS TC TW TG CM)) (As := [.int v77, .int v114]) (rest := []) (ci := 3) hx hb hml hown hts hK (kX3_removeArc l D cI a0 a1 a2 a3 a4 a5 a6 a7 a8 a9 a10 a11 R R2 HR HS HN TB LN PS TC TW TG CM v77 v114 v116 h117) gL_changes_X3_removeArc rfl rfl rfl hdX3_removeArc ⟨Nat.le_of_ble_eq_true rfl, Nat.le_of_ble_eq_true rfl⟩ hP hD rfl rfl rfl rfl hl.1 rfl (Nat.le_of_ble_eq_true rfl) dL_changes_131 ⟨Nat.zero_le _, Nat.zero_le _⟩) hD hS hA (fun H locs hP hD hS => ?_)
    have he := Option.some.inj hf
    subst he
    exact kreti hx hb hr hlk hP hD hS dL_changes_134
  have hf := kIfF c113 hf
  by_cases c118 : v79 = (5 : Int32)
  · have hf := kIfT c118 hf
    refine lv_tableIn (off := 121) (tgt := 135) hx hb dL_changes_14 (by rw [c118]; decide) (by rw [c118]; decide) (by rw [c118]; rfl) (by decide) ?_
    refine lv_aload_n hx hb dL_changes_135 rfl (lv_at hl 1 rfl) ?_
    refine lv_iload_n hx hb dL_changes_136 rfl (lv_at hl 0 rfl) ?_
    obtain ⟨v119, h120, hf⟩ := kBind hf
    refine kgoA (krunV (wc := (wX3 cI a0 a1 a2 a3 a4 a5 a6 a7 a8 a9 a10 a11 R R2 HR HS HN TB LN PS TC TW TG CM)) (As := [.int v77]) (rest := []) (ci := 3) hx hb hml hown hts hK (kX3_stop l D cI a0 a1 a2 a3 a4 a5 a6 a7 a8 a9 a10 a11 R R2 HR HS HN TB LN PS TC TW TG CM v77 v119 h120) gL_changes_X3_stop rfl rfl rfl hdX3_stop ⟨Nat.le_of_ble_eq_true rfl, Nat.le_of_ble_eq_true rfl⟩ hP hD rfl rfl rfl rfl hl.1 rfl (Nat.le_of_ble_eq_true rfl) dL_changes_137 ⟨Nat.zero_le _, Nat.zero_le _⟩) hD hS hA (fun H locs hP hD hS => ?_)
    have he := Option.some.inj hf
    subst he
    exact kreti hx hb hr hlk hP hD hS dL_changes_140
  have hf := kIfF c118 hf
  by_cases c121 : v79 = (6 : Int32)
  · have hf := kIfT c121 hf
    refine lv_tableIn (off := 127) (tgt := 141) hx hb dL_changes_14 (by rw [c121]; decide) (by rw [c121]; decide) (by rw [c121]; rfl) (by decide) ?_
    refine lv_aload_n hx hb dL_changes_141 rfl (lv_at hl 1 rfl) ?_
    refine lv_iload_n hx hb dL_changes_142 rfl (lv_at hl 0 rfl) ?_
    obtain ⟨v122, h123, hf⟩ := kBind hf
    refine kgoA (krunV (wc := (wX3 cI a0 a1 a2 a3 a4 a5 a6 a7 a8 a9 a10 a11 R R2 HR HS HN TB LN PS TC TW TG CM)) (As := [.int v77]) (rest := []) (ci := 3) hx hb hml hown hts hK (kX3_turnRound l D cI a0 a1 a2 a3 a4 a5 a6 a7 a8 a9 a10 a11 R R2 HR HS HN TB LN PS TC TW TG CM v77 v122 h123) gL_changes_X3_turnRound rfl rfl rfl hdX3_turnRound ⟨Nat.le_of_ble_eq_true rfl, Nat.le_of_ble_eq_true rfl⟩ hP hD rfl rfl rfl rfl hl.1 rfl (Nat.le_of_ble_eq_true rfl) dL_changes_143 ⟨Nat.zero_le _, Nat.zero_le _⟩) hD hS hA (fun H locs hP hD hS => ?_)
    have he := Option.some.inj hf
    subst he
    exact kreti hx hb hr hlk hP hD hS dL_changes_146
  have hf := kIfF c121 hf
  by_cases c124 : v79 = (7 : Int32)
  · have hf := kIfT c124 hf
    refine lv_tableIn (off := 133) (tgt := 147) hx hb dL_changes_14 (by rw [c124]; decide) (by rw [c124]; decide) (by rw [c124]; rfl) (by decide) ?_
    refine lv_aload_n hx hb dL_changes_147 rfl (lv_at hl 1 rfl) ?_
    refine lv_iload_n hx hb dL_changes_148 rfl (lv_at hl 0 rfl) ?_
    refine lv_iload_n hx hb dL_changes_149 rfl (lv_at hl 2 rfl) ?_
    refine lv_bipush (v := (6 : Int32)) hx hb dL_changes_150 (by decide) ?_
    refine kishr hx hb dL_changes_152 ?_
    refine lv_iconst (v := (3 : Int32)) hx hb dL_changes_153 (by decide) ?_
    refine lv_iand hx hb dL_changes_154 ?_
    refine lv_if_ne (tgt := 162) hx hb dL_changes_155 (by decide) (fun c125 => ?_) (fun c125 => ?_)
    · have hf := kIfF c125 hf
      refine lv_iconst (v := (0 : Int32)) hx hb dL_changes_162 (by decide) ?_
      obtain ⟨v126, h127, hf⟩ := kBind hf
      refine kgoA (krunV (wc := (wX3 cI a0 a1 a2 a3 a4 a5 a6 a7 a8 a9 a10 a11 R R2 HR HS HN TB LN PS TC TW TG CM)) (As := [.int v77, .int (bI false)]) (rest := []) (ci := 3) hx hb hml hown hts hK (kX3_leave l D cI fu a0 a1 a2 a3 a4 a5 a6 a7 a8 a9 a10 a11 R R2 HR HS HN TB LN PS TC TW TG CM v77 false v126 h127) gL_changes_X3_leave rfl rfl rfl hdX3_leave ⟨Nat.le_of_ble_eq_true rfl, Nat.le_of_ble_eq_true rfl⟩ hP hD rfl rfl rfl rfl hl.1 rfl (Nat.le_of_ble_eq_true rfl) dL_changes_163 ⟨Nat.zero_le _, Nat.zero_le _⟩) hD hS hA (fun H locs hP hD hS => ?_)
      have he := Option.some.inj hf
      subst he
      exact kreti hx hb hr hlk hP hD hS dL_changes_166
    · have hf := kIfT c125 hf
      refine lv_iconst (v := (1 : Int32)) hx hb dL_changes_158 (by decide) ?_
      refine lv_goto (tgt := 163) hx hb dL_changes_159 (by decide) ?_
      obtain ⟨v128, h129, hf⟩ := kBind hf
      refine kgoA (krunV (wc := (wX3 cI a0 a1 a2 a3 a4 a5 a6 a7 a8 a9 a10 a11 R R2 HR HS HN TB LN PS TC TW TG CM)) (As := [.int v77, .int (bI true)]) (rest := []) (ci := 3) hx hb hml hown hts hK (kX3_leave l D cI fu a0 a1 a2 a3 a4 a5 a6 a7 a8 a9 a10 a11 R R2 HR HS HN TB LN PS TC TW TG CM v77 true v128 h129) gL_changes_X3_leave rfl rfl rfl hdX3_leave ⟨Nat.le_of_ble_eq_true rfl, Nat.le_of_ble_eq_true rfl⟩ hP hD rfl rfl rfl rfl hl.1 rfl (Nat.le_of_ble_eq_true rfl) dL_changes_163 ⟨Nat.zero_le _, Nat.zero_le _⟩) hD hS hA (fun H locs hP hD hS => ?_)
      have he := Option.some.inj hf
      subst he
      exact kreti hx hb hr hlk hP hD hS dL_changes_166
  have hf := kIfF c124 hf
  by_cases c130 : v79 = (8 : Int32)
  · have hf := kIfT c130 hf
    refine lv_tableIn (off := 153) (tgt := 167) hx hb dL_changes_14 (by rw [c130]; decide) (by rw [c130]; decide) (by rw [c130]; rfl) (by decide) ?_
    refine lv_aload_n hx hb dL_changes_167 rfl (lv_at hl 1 rfl) ?_
    refine lv_iload_n hx hb dL_changes_168 rfl (lv_at hl 2 rfl) ?_
    refine lv_bipush (v := (6 : Int32)) hx hb dL_changes_169 (by decide) ?_
    refine kishr hx hb dL_changes_171 ?_
    refine lv_bipush (v := (36 : Int32)) hx hb dL_changes_172 (by decide) ?_
    obtain ⟨v131, h132, hf⟩ := kBind hf
    refine kgoR (krunS (wc := ([] : va_W)) (As := [.int (jshr x1 (6 : Int32)), .int (36 : Int32)]) (rest := [.ref a0]) hx hb hml hown hts hK (kL_low l D cI (jshr x1 (6 : Int32)) (36 : Int32) v131 h132) gL_changes_L_low rfl rfl rfl hdL_low ⟨Nat.le_of_ble_eq_true rfl, Nat.le_of_ble_eq_true rfl⟩ k_P0 (k_D0 A) rfl hl.1 rfl (Nat.le_of_ble_eq_true rfl) dL_changes_174 ⟨Nat.zero_le _, Nat.zero_le _⟩) hP hD hS hA [] rfl (fun H locs hP hS => ?_)
    obtain ⟨v133, h134, hf⟩ := kBind hf
    refine kgoA (krunV (wc := (wX3 cI a0 a1 a2 a3 a4 a5 a6 a7 a8 a9 a10 a11 R R2 HR HS HN TB LN PS TC TW TG CM)) (As := [.int v131]) (rest := []) (ci := 3) hx hb hml hown hts hK (kX3_setWind l D cI a0 a1 a2 a3 a4 a5 a6 a7 a8 a9 a10 a11 R R2 HR HS HN TB LN PS TC TW TG CM v131 v133 h134) gL_changes_X3_setWind rfl rfl rfl hdX3_setWind ⟨Nat.le_of_ble_eq_true rfl, Nat.le_of_ble_eq_true rfl⟩ hP hD rfl rfl rfl rfl hl.1 rfl (Nat.le_of_ble_eq_true rfl) dL_changes_177 ⟨Nat.zero_le _, Nat.zero_le _⟩) hD hS hA (fun H locs hP hD hS => ?_)
    have he := Option.some.inj hf
    subst he
    exact kreti hx hb hr hlk hP hD hS dL_changes_180
  have hf := kIfF c130 hf
  by_cases c135 : v79 = (9 : Int32)
  · have hf := kIfT c135 hf
    refine lv_tableIn (off := 167) (tgt := 181) hx hb dL_changes_14 (by rw [c135]; decide) (by rw [c135]; decide) (by rw [c135]; rfl) (by decide) ?_
    refine lv_aload_n hx hb dL_changes_181 rfl (lv_at hl 1 rfl) ?_
    refine lv_iconst (v := (1 : Int32)) hx hb dL_changes_182 (by decide) ?_
    refine lv_iload_n hx hb dL_changes_183 rfl (lv_at hl 2 rfl) ?_
    refine lv_bipush (v := (6 : Int32)) hx hb dL_changes_184 (by decide) ?_
    refine kishr hx hb dL_changes_186 ?_
    refine lv_bipush (v := (12 : Int32)) hx hb dL_changes_187 (by decide) ?_
    obtain ⟨v136, h137, hf⟩ := kBind hf
    refine kgoR (krunS (wc := ([] : va_W)) (As := [.int (jshr x1 (6 : Int32)), .int (12 : Int32)]) (rest := [.int (1 : Int32), .ref a0]) hx hb hml hown hts hK (kL_low l D cI (jshr x1 (6 : Int32)) (12 : Int32) v136 h137) gL_changes_L_low rfl rfl rfl hdL_low ⟨Nat.le_of_ble_eq_true rfl, Nat.le_of_ble_eq_true rfl⟩ k_P0 (k_D0 A) rfl hl.1 rfl (Nat.le_of_ble_eq_true rfl) dL_changes_189 ⟨Nat.zero_le _, Nat.zero_le _⟩) hP hD hS hA [] rfl (fun H locs hP hS => ?_)
    refine lv_iadd hx hb dL_changes_192 ?_
    obtain ⟨v138, h139, hf⟩ := kBind hf
    refine kgoA (krunV (wc := (wX3 cI a0 a1 a2 a3 a4 a5 a6 a7 a8 a9 a10 a11 R R2 HR HS HN TB LN PS TC TW TG CM)) (As := [.int ((1 : Int32) + v136)]) (rest := []) (ci := 3) hx hb hml hown hts hK (kX3_tick l D cI fu a0 a1 a2 a3 a4 a5 a6 a7 a8 a9 a10 a11 R R2 HR HS HN TB LN PS TC TW TG CM ((1 : Int32) + v136) v138 h139) gL_changes_X3_tick rfl rfl rfl hdX3_tick ⟨Nat.le_of_ble_eq_true rfl, Nat.le_of_ble_eq_true rfl⟩ hP hD rfl rfl rfl rfl hl.1 rfl (Nat.le_of_ble_eq_true rfl) dL_changes_193 ⟨Nat.zero_le _, Nat.zero_le _⟩) hD hS hA (fun H locs hP hD hS => ?_)
    have he := Option.some.inj hf
    subst he
    exact kreti hx hb hr hlk hP hD hS dL_changes_196
  have hf := kIfF c135 hf
  by_cases c140 : v79 = (10 : Int32)
  · have hf := kIfT c140 hf
    refine lv_tableIn (off := 167) (tgt := 181) hx hb dL_changes_14 (by rw [c140]; decide) (by rw [c140]; decide) (by rw [c140]; rfl) (by decide) ?_
    refine lv_aload_n hx hb dL_changes_181 rfl (lv_at hl 1 rfl) ?_
    refine lv_iconst (v := (1 : Int32)) hx hb dL_changes_182 (by decide) ?_
    refine lv_iload_n hx hb dL_changes_183 rfl (lv_at hl 2 rfl) ?_
    refine lv_bipush (v := (6 : Int32)) hx hb dL_changes_184 (by decide) ?_
    refine kishr hx hb dL_changes_186 ?_
    refine lv_bipush (v := (12 : Int32)) hx hb dL_changes_187 (by decide) ?_
    obtain ⟨v141, h142, hf⟩ := kBind hf
    refine kgoR (krunS (wc := ([] : va_W)) (As := [.int (jshr x1 (6 : Int32)), .int (12 : Int32)]) (rest := [.int (1 : Int32), .ref a0]) hx hb hml hown hts hK (kL_low l D cI (jshr x1 (6 : Int32)) (12 : Int32) v141 h142) gL_changes_L_low rfl rfl rfl hdL_low ⟨Nat.le_of_ble_eq_true rfl, Nat.le_of_ble_eq_true rfl⟩ k_P0 (k_D0 A) rfl hl.1 rfl (Nat.le_of_ble_eq_true rfl) dL_changes_189 ⟨Nat.zero_le _, Nat.zero_le _⟩) hP hD hS hA [] rfl (fun H locs hP hS => ?_)
    refine lv_iadd hx hb dL_changes_192 ?_
    obtain ⟨v143, h144, hf⟩ := kBind hf
    refine kgoA (krunV (wc := (wX3 cI a0 a1 a2 a3 a4 a5 a6 a7 a8 a9 a10 a11 R R2 HR HS HN TB LN PS TC TW TG CM)) (As := [.int ((1 : Int32) + v141)]) (rest := []) (ci := 3) hx hb hml hown hts hK (kX3_tick l D cI fu a0 a1 a2 a3 a4 a5 a6 a7 a8 a9 a10 a11 R R2 HR HS HN TB LN PS TC TW TG CM ((1 : Int32) + v141) v143 h144) gL_changes_X3_tick rfl rfl rfl hdX3_tick ⟨Nat.le_of_ble_eq_true rfl, Nat.le_of_ble_eq_true rfl⟩ hP hD rfl rfl rfl rfl hl.1 rfl (Nat.le_of_ble_eq_true rfl) dL_changes_193 ⟨Nat.zero_le _, Nat.zero_le _⟩) hD hS hA (fun H locs hP hD hS => ?_)
    have he := Option.some.inj hf
    subst he
    exact kreti hx hb hr hlk hP hD hS dL_changes_196
  have hf := kIfF c140 hf
  by_cases c145 : v79 < (0 : Int32) ∨ (10 : Int32) < v79
  · have hf := kIfT c145 hf
    refine lv_tableOut (tgt := 197) hx hb dL_changes_14 (k_tabOut c145 (by decide)) (by decide) ?_
    refine lv_aload_n hx hb dL_changes_197 rfl (lv_at hl 1 rfl) ?_
    refine lv_iload_n hx hb dL_changes_198 rfl (lv_at hl 0 rfl) ?_
    refine lv_iload_n hx hb dL_changes_199 rfl (lv_at hl 2 rfl) ?_
    refine lv_bipush (v := (6 : Int32)) hx hb dL_changes_200 (by decide) ?_
    refine kishr hx hb dL_changes_202 ?_
    refine lv_bipush (v := (36 : Int32)) hx hb dL_changes_203 (by decide) ?_
    obtain ⟨v146, h147, hf⟩ := kBind hf
    refine kgoR (krunS (wc := ([] : va_W)) (As := [.int (jshr x1 (6 : Int32)), .int (36 : Int32)]) (rest := [.int v77, .ref a0]) hx hb hml hown hts hK (kL_low l D cI (jshr x1 (6 : Int32)) (36 : Int32) v146 h147) gL_changes_L_low rfl rfl rfl hdL_low ⟨Nat.le_of_ble_eq_true rfl, Nat.le_of_ble_eq_true rfl⟩ k_P0 (k_D0 A) rfl hl.1 rfl (Nat.le_of_ble_eq_true rfl) dL_changes_205 ⟨Nat.zero_le _, Nat.zero_le _⟩) hP hD hS hA [] rfl (fun H locs hP hS => ?_)
    refine lv_iload_n hx hb dL_changes_208 rfl (lv_at hl 2 rfl) ?_
    refine lv_bipush (v := (12 : Int32)) hx hb dL_changes_209 (by decide) ?_
    refine kishr hx hb dL_changes_211 ?_
    refine lv_iconst (v := (3 : Int32)) hx hb dL_changes_212 (by decide) ?_
    refine lv_iand hx hb dL_changes_213 ?_
    refine lv_iconst (v := (3 : Int32)) hx hb dL_changes_214 (by decide) ?_
    refine lv_icmp_ne (tgt := 222) hx hb dL_changes_215 (by decide) (fun c148 => ?_) (fun c148 => ?_)
    · have hf := kIfF c148 hf
      refine lv_iload_n hx hb dL_changes_222 rfl (lv_at hl 2 rfl) ?_
      refine lv_bipush (v := (12 : Int32)) hx hb dL_changes_223 (by decide) ?_
      refine kishr hx hb dL_changes_225 ?_
      refine lv_iconst (v := (3 : Int32)) hx hb dL_changes_226 (by decide) ?_
      refine lv_iand hx hb dL_changes_227 ?_
      refine lv_iconst (v := (1 : Int32)) hx hb dL_changes_228 (by decide) ?_
      refine lv_isub hx hb dL_changes_229 ?_
      obtain ⟨v149, h150, hf⟩ := kBind hf
      refine kgoA (krunV (wc := (wX3 cI a0 a1 a2 a3 a4 a5 a6 a7 a8 a9 a10 a11 R R2 HR HS HN TB LN PS TC TW TG CM)) (As := [.int v77, .int v146, .int (((jshr x1 (12 : Int32)) &&& (3 : Int32)) - (1 : Int32))]) (rest := []) (ci := 3) hx hb hml hown hts hK (kX3_slew l D cI a0 a1 a2 a3 a4 a5 a6 a7 a8 a9 a10 a11 R R2 HR HS HN TB LN PS TC TW TG CM v77 v146 (((jshr x1 (12 : Int32)) &&& (3 : Int32)) - (1 : Int32)) v149 h150) gL_changes_X3_slew rfl rfl rfl hdX3_slew ⟨Nat.le_of_ble_eq_true rfl, Nat.le_of_ble_eq_true rfl⟩ hP hD rfl rfl rfl rfl hl.1 rfl (Nat.le_of_ble_eq_true rfl) dL_changes_230 ⟨Nat.zero_le _, Nat.zero_le _⟩) hD hS hA (fun H locs hP hD hS => ?_)
      have he := Option.some.inj hf
      subst he
      exact kreti hx hb hr hlk hP hD hS dL_changes_233
    · have hf := kIfT c148 hf
      refine lv_iconst (v := (0 : Int32)) hx hb dL_changes_218 (by decide) ?_
      refine lv_goto (tgt := 230) hx hb dL_changes_219 (by decide) ?_
      obtain ⟨v151, h152, hf⟩ := kBind hf
      refine kgoA (krunV (wc := (wX3 cI a0 a1 a2 a3 a4 a5 a6 a7 a8 a9 a10 a11 R R2 HR HS HN TB LN PS TC TW TG CM)) (As := [.int v77, .int v146, .int (0 : Int32)]) (rest := []) (ci := 3) hx hb hml hown hts hK (kX3_slew l D cI a0 a1 a2 a3 a4 a5 a6 a7 a8 a9 a10 a11 R R2 HR HS HN TB LN PS TC TW TG CM v77 v146 (0 : Int32) v151 h152) gL_changes_X3_slew rfl rfl rfl hdX3_slew ⟨Nat.le_of_ble_eq_true rfl, Nat.le_of_ble_eq_true rfl⟩ hP hD rfl rfl rfl rfl hl.1 rfl (Nat.le_of_ble_eq_true rfl) dL_changes_230 ⟨Nat.zero_le _, Nat.zero_le _⟩) hD hS hA (fun H locs hP hD hS => ?_)
      have he := Option.some.inj hf
      subst he
      exact kreti hx hb hr hlk hP hD hS dL_changes_233
  have hf := kIfF c145 hf
  cases hf
