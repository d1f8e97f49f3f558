set_option maxHeartbeats 4000000 in
set_option maxRecDepth 100000 in
theorem kX1_property (l : Launch) (D : va_G) (cI : ClassId) (fu : Nat) (a0 a1 : Nat) (R : (Nat → Int32)) (x1 : Int32) (x2 : Int32) (o : Int32) (hf : fX1_property fu R x1 x2 = some o) : Ct l yX1_property wsX1_property { frames := 2, cells := 0, slots := 0, locals := 48 } D cI [.ref a0, .int x1, .int x2] (wX1 cI a0 a1 R) (wX1 cI a0 a1 R) (some (.int o)) := by
  refine Ct.of (cc := cX1_property) (maxL := 4) (ret := (some .int)) (by decide) rfl (Nat.le_of_ble_eq_true rfl) ?_
  intro p e s m args below meth c A F hP hD hS ls hl
  obtain ⟨hx, hb, hml, hr, hown, hts, hlk, hK, hA⟩ := F
  have hown : s.vm.findClass RX1 = some m.cls := hown
  have hl : lv_has ls 4 [(0, .ref a0), (1, .int x1), (2, .int x2)] := hl
  have hinX1 : ∀ w ∈ wsX10, w ∈ wsX1_property := by decide +kernel
  have hfl11 := hts (.fieldLink RX1 11 "CraneGuard$Site" "row" "[I") (by decide +kernel)
  unfold fX1_property at hf
  refine lv_iconst (v := (4 : Int32)) hx hb dX1_property_0 (by decide) ?_
  refine lv_iload_n hx hb dX1_property_1 rfl (lv_at hl 2 rfl) ?_
  refine lv_iconst (v := (4 : Int32)) hx hb dX1_property_2 (by decide) ?_
  refine lv_imul hx hb dX1_property_3 ?_
  refine lv_iadd hx hb dX1_property_4 ?_
  refine lv_istore_n (lv' := [(3, .int ((4 : Int32) + (x2 * (4 : Int32)))), (0, .ref a0), (1, .int x1), (2, .int x2)]) hx hb dX1_property_5 rfl hl (by decide) rfl (fun ls hl => ?_)
  refine lv_iload_n hx hb dX1_property_6 rfl (lv_at hl 0 rfl) ?_
  refine lv_bipush (v := (36 : Int32)) hx hb dX1_property_7 (by decide) ?_
  refine lv_icmp_ne (tgt := 20) hx hb dX1_property_9 (by decide) (fun c6 => ?_) (fun c6 => ?_)
  · have hf := kIfF c6 hf
    refine lv_aload_n hx hb dX1_property_20 rfl (lv_at hl 1 rfl) ?_
    refine va_get (D := D) (ci := 1) (v := .ref a1) (C := RX1) (T := TX1) (N := 1) hx hb hts hinX1 hown hK.1 hP 0 rfl rfl 0 (by decide) hfl11 (fun _ h9 => h9) rfl dX1_property_21 ?_
    refine lv_iload_n hx hb dX1_property_24 rfl (lv_at hl 0 rfl) ?_
    refine lv_iload_n hx hb dX1_property_25 rfl (lv_at hl 2 rfl) ?_
    refine lv_iadd hx hb dX1_property_26 ?_
    obtain ⟨v7, h8, hf⟩ := kBind hf
    refine krd hx hb hK hP 1 rfl h8 dX1_property_27 ?_
    have he := Option.some.inj hf
    subst he
    exact kreti hx hb hr hlk hP hD hS dX1_property_28
  · have hf := kIfT c6 hf
    refine lv_aload_n hx hb dX1_property_12 rfl (lv_at hl 1 rfl) ?_
    refine lv_iload_n hx hb dX1_property_13 rfl (lv_at hl 2 rfl) ?_
    obtain ⟨v9, h10, hf⟩ := kBind hf
    refine kgoR (krunV (wc := (wX1 cI a0 a1 R)) (As := [.int x1]) (rest := []) (ci := 1) hx hb hml hown hts hK (kX1_zonesOccupiedBy l D cI fu a0 a1 R x1 v9 h10) gX1_property_X1_zonesOccupiedBy rfl rfl rfl hdX1_zonesOccupiedBy ⟨Nat.le_of_ble_eq_true rfl, Nat.le_of_ble_eq_true rfl⟩ hP hD rfl rfl rfl rfl hl.1 rfl (Nat.le_of_ble_eq_true rfl) dX1_property_14 ⟨Nat.zero_le _, Nat.zero_le _⟩) hP hD hS hA [0, 1] rfl (fun H locs hP hS => ?_)
    refine lv_goto (tgt := 28) hx hb dX1_property_17 (by decide) ?_
    have he := Option.some.inj hf
    subst he
    exact kreti hx hb hr hlk hP hD hS dX1_property_28
set_option maxHeartbeats 4000000 in
set_option maxRecDepth 100000 in
theorem kX3_crane (l : Launch) (D : va_G) (cI : ClassId) (fu : Nat) (a0 a1 a2 a3 a4 a5 a6 a7 a8 a9 a10 a11 : Nat) (R : (Nat → Int32)) (R2 : (Nat → Int32)) (HR : (Nat → Int32)) (HS : Int32) (HN : Int32) (TB : (Nat → Int32)) (LN : Int32) (PS : Int32) (TC : (Nat → Int32)) (TW : (Nat → Int32)) (TG : (Nat → Int32)) (CM : Int32) (x1 : Int32) (x2 : Int32) (o : Int32) (hf : fX3_crane fu R x1 x2 = some o) : Ct l yX3_crane wsX3_crane { frames := 3, cells := 0, slots := 0, locals := 71 } D cI [.ref a0, .int x1, .int x2] (wX3 cI a0 a1 a2 a3 a4 a5 a6 a7 a8 a9 a10 a11 R R2 HR HS HN TB LN PS TC TW TG CM) (wX3 cI a0 a1 a2 a3 a4 a5 a6 a7 a8 a9 a10 a11 R R2 HR HS HN TB LN PS TC TW TG CM) (some (.int o)) := by
  refine Ct.of (cc := cX3_crane) (maxL := 3) (ret := (some .int)) (by decide) rfl (Nat.le_of_ble_eq_true rfl) ?_
  intro p e s m args below meth c A F hP hD hS ls hl
  obtain ⟨hx, hb, hml, hr, hown, hts, hlk, hK, hA⟩ := F
  have hown : s.vm.findClass RX3 = some m.cls := hown
  have hl : lv_has ls 3 [(0, .ref a0), (1, .int x1), (2, .int x2)] := hl
  have hinX3 : ∀ w ∈ wsX30, w ∈ wsX3_crane := by decide +kernel
  have hfl10 := hts (.fieldLink RX3 10 "CraneGuard" "site" "LCraneGuard$Site;") (by decide +kernel)
  unfold fX3_crane at hf
  refine lv_aload_n hx hb dX3_crane_0 rfl (lv_at hl 0 rfl) ?_
  refine va_get (D := D) (ci := 3) (v := .ref a1) (C := RX3) (T := TX3) (N := 4) hx hb hts hinX3 hown hK.1 hP 0 rfl rfl 0 (by decide) hfl10 (fun _ h9 => h9) rfl dX3_crane_1 ?_
  refine lv_iload_n hx hb dX3_crane_4 rfl (lv_at hl 1 rfl) ?_
  obtain ⟨v8, h9, hf⟩ := kBind hf
  refine kgoR (krunV (wc := (wX1 cI a1 a2 R)) (As := [.int x1]) (rest := []) (ci := 1) hx hb hml hown hts hK (kX1_hasCrane l D cI a1 a2 R x1 v8 h9) gX3_crane_X1_hasCrane rfl rfl rfl hdX1_hasCrane ⟨Nat.le_of_ble_eq_true rfl, Nat.le_of_ble_eq_true rfl⟩ (hP.sub [1, 2] rfl) (hD.sub [1, 2] (by decide) rfl) rfl rfl rfl rfl hl.1 rfl (Nat.le_of_ble_eq_true rfl) dX3_crane_5 ⟨Nat.zero_le _, Nat.zero_le _⟩) hP hD hS hA [1, 2] rfl (fun H locs hP hS => ?_)
  refine kif_neb (tgt := 14) hx hb dX3_crane_8 (by decide) (fun c10 => ?_) (fun c10 => ?_)
  · have hf := kIfT c10 hf
    refine lv_iload_n hx hb dX3_crane_14 rfl (lv_at hl 2 rfl) ?_
    refine lv_if_lt (tgt := 24) hx hb dX3_crane_15 (by decide) (fun c11 => ?_) (fun c11 => ?_)
    · have hf := kIfT c11 hf
      refine lv_bipush (v := (-102 : Int32)) hx hb dX3_crane_24 (by decide) ?_
      have he := Option.some.inj hf
      subst he
      exact kreti hx hb hr hlk hP hD hS dX3_crane_26
    · have hf := kIfF c11 hf
      refine lv_iload_n hx hb dX3_crane_18 rfl (lv_at hl 2 rfl) ?_
      refine lv_bipush (v := (10 : Int32)) hx hb dX3_crane_19 (by decide) ?_
      refine lv_icmp_lt (tgt := 27) hx hb dX3_crane_21 (by decide) (fun c12 => ?_) (fun c12 => ?_)
      · have hf := kIfT c12 hf
        refine lv_aload_n hx hb dX3_crane_27 rfl (lv_at hl 0 rfl) ?_
        refine va_get (D := D) (ci := 3) (v := .ref a1) (C := RX3) (T := TX3) (N := 4) hx hb hts hinX3 hown hK.1 hP 0 rfl rfl 0 (by decide) hfl10 (fun _ h9 => h9) rfl dX3_crane_28 ?_
        refine lv_iload_n hx hb dX3_crane_31 rfl (lv_at hl 1 rfl) ?_
        refine lv_iload_n hx hb dX3_crane_32 rfl (lv_at hl 2 rfl) ?_
        obtain ⟨v13, h14, hf⟩ := kBind hf
        refine kgoR (krunV (wc := (wX1 cI a1 a2 R)) (As := [.int x1, .int x2]) (rest := []) (ci := 1) hx hb hml hown hts hK (kX1_property l D cI fu a1 a2 R x1 x2 v13 h14) gX3_crane_X1_property rfl rfl rfl hdX1_property ⟨Nat.le_of_ble_eq_true rfl, Nat.le_of_ble_eq_true rfl⟩ (hP.sub [1, 2] rfl) (hD.sub [1, 2] (by decide) rfl) rfl rfl rfl rfl hl.1 rfl (Nat.le_of_ble_eq_true rfl) dX3_crane_33 ⟨Nat.zero_le _, Nat.zero_le _⟩) hP hD hS hA [1, 2] rfl (fun H locs hP hS => ?_)
        have he := Option.some.inj hf
        subst he
        exact kreti hx hb hr hlk hP hD hS dX3_crane_36
      · have hf := kIfF c12 hf
        refine lv_bipush (v := (-102 : Int32)) hx hb dX3_crane_24 (by decide) ?_
        have he := Option.some.inj hf
        subst he
        exact kreti hx hb hr hlk hP hD hS dX3_crane_26
  · have hf := kIfF c10 hf
    refine lv_bipush (v := (-101 : Int32)) hx hb dX3_crane_11 (by decide) ?_
    have he := Option.some.inj hf
    subst he
    exact kreti hx hb hr hlk hP hD hS dX3_crane_13
set_option maxHeartbeats 4000000 in
set_option maxRecDepth 100000 in
theorem kL_hasTarget (l : Launch) (D : va_G) (cI : ClassId) (fu : Nat) (a0 a1 a2 a3 a4 a5 a6 a7 a8 a9 a10 a11 : Nat) (R : (Nat → Int32)) (R2 : (Nat → Int32)) (HR : (Nat → Int32)) (HS : Int32) (HN : Int32) (TB : (Nat → Int32)) (LN : Int32) (PS : Int32) (TC : (Nat → Int32)) (TW : (Nat → Int32)) (TG : (Nat → Int32)) (CM : Int32) (x1 : Int32) (o : Bool) (hf : fL_hasTarget fu R x1 = some o) : Ct l yL_hasTarget wsL_hasTarget { frames := 4, cells := 0, slots := 0, locals := 93 } D cI [.ref a0, .int x1] (wX3 cI a0 a1 a2 a3 a4 a5 a6 a7 a8 a9 a10 a11 R R2 HR HS HN TB LN PS TC TW TG CM) (wX3 cI a0 a1 a2 a3 a4 a5 a6 a7 a8 a9 a10 a11 R R2 HR HS HN TB LN PS TC TW TG CM) (some (.int (bI o))) := by
  refine Ct.of (cc := cL_hasTarget) (maxL := 2) (ret := (some .boolean)) (by decide) rfl (Nat.le_of_ble_eq_true rfl) ?_
  intro p e s m args below meth c A F hP hD hS ls hl
  obtain ⟨hx, hb, hml, hr, hown, hts, hlk, hK, hA⟩ := F
  have hown : s.vm.findClass RL = some m.cls := hown
  have hl : lv_has ls 2 [(0, .ref a0), (1, .int x1)] := hl
  unfold fL_hasTarget at hf
  refine lv_aload_n hx hb dL_hasTarget_0 rfl (lv_at hl 0 rfl) ?_
  refine lv_iload_n hx hb dL_hasTarget_1 rfl (lv_at hl 1 rfl) ?_
  refine lv_iconst (v := (3 : Int32)) hx hb dL_hasTarget_2 (by decide) ?_
  obtain ⟨v4, h5, hf⟩ := kBind hf
  refine kgoR (krunV (wc := (wX3 cI a0 a1 a2 a3 a4 a5 a6 a7 a8 a9 a10 a11 R R2 HR HS HN TB LN PS TC TW TG CM)) (As := [.int x1, .int (3 : Int32)]) (rest := []) (ci := 3) hx hb hml hown hts hK (kX3_crane l D cI fu a0 a1 a2 a3 a4 a5 a6 a7 a8 a9 a10 a11 R R2 HR HS HN TB LN PS TC TW TG CM x1 (3 : Int32) v4 h5) gL_hasTarget_X3_crane rfl rfl rfl hdX3_crane ⟨Nat.le_of_ble_eq_true rfl, Nat.le_of_ble_eq_true rfl⟩ hP hD rfl rfl rfl rfl hl.1 rfl (Nat.le_of_ble_eq_true rfl) dL_hasTarget_3 ⟨Nat.zero_le _, Nat.zero_le _⟩) hP hD hS hA [0, 1, 2, 3, 4, 5, 6, 7, 8, 9, 10, 11] rfl (fun H locs hP hS => ?_)
  refine lv_bipush (v := (-100 : Int32)) hx hb dL_hasTarget_6 (by decide) ?_
  refine lv_icmp_eq (tgt := 15) hx hb dL_hasTarget_8 (by decide) (fun c6 => ?_) (fun c6 => ?_)
  · have hf := kIfT c6 hf
    refine lv_iconst (v := (0 : Int32)) hx hb dL_hasTarget_15 (by decide) ?_
    have he := Option.some.inj hf
    subst he
    exact kretz hx hb hr hlk hP hD hS dL_hasTarget_16
  · have hf := kIfF c6 hf
    refine lv_iconst (v := (1 : Int32)) hx hb dL_hasTarget_11 (by decide) ?_
    refine lv_goto (tgt := 16) hx hb dL_hasTarget_12 (by decide) ?_
    have he := Option.some.inj hf
    subst he
    exact kretz hx hb hr hlk hP hD hS dL_hasTarget_16
set_option maxHeartbeats 4000000 in
set_option maxRecDepth 100000 in
theorem kX1_lastOf (l : Launch) (D : va_G) (cI : ClassId) (a0 a1 : Nat) (R : (Nat → Int32)) (x1 : Int32) (x2 : Int32) (o : Int32) (hf : fX1_lastOf R x1 x2 = some o) : Ct l yX1_lastOf wsX1_lastOf { frames := 0, cells := 0, slots := 0, locals := 0 } D cI [.ref a0, .int x1, .int x2] (wX1 cI a0 a1 R) (wX1 cI a0 a1 R) (some (.int o)) := by
  refine Ct.of (cc := cX1_lastOf) (maxL := 3) (ret := (some .int)) (by decide) rfl (Nat.le_of_ble_eq_true rfl) ?_
  intro p e s m args below meth c A F hP hD hS ls hl
  obtain ⟨hx, hb, hml, hr, hown, hts, hlk, hK, hA⟩ := F
  have hown : s.vm.findClass RX1 = some m.cls := hown
  have hl : lv_has ls 3 [(0, .ref a0), (1, .int x1), (2, .int x2)] := hl
  have hinX1 : ∀ w ∈ wsX10, w ∈ wsX1_lastOf := by decide +kernel
  have hfl11 := hts (.fieldLink RX1 11 "CraneGuard$Site" "row" "[I") (by decide +kernel)
  unfold fX1_lastOf at hf
  refine lv_aload_n hx hb dX1_lastOf_0 rfl (lv_at hl 0 rfl) ?_
  refine va_get (D := D) (ci := 1) (v := .ref a1) (C := RX1) (T := TX1) (N := 1) hx hb hts hinX1 hown hK.1 hP 0 rfl rfl 0 (by decide) hfl11 (fun _ h9 => h9) rfl dX1_lastOf_1 ?_
  refine lv_bipush (v := (68 : Int32)) hx hb dX1_lastOf_4 (by decide) ?_
  refine lv_iload_n hx hb dX1_lastOf_6 rfl (lv_at hl 1 rfl) ?_
  refine lv_bipush (v := (6 : Int32)) hx hb dX1_lastOf_7 (by decide) ?_
  refine lv_imul hx hb dX1_lastOf_9 ?_
  refine lv_iadd hx hb dX1_lastOf_10 ?_
  refine lv_iload_n hx hb dX1_lastOf_11 rfl (lv_at hl 2 rfl) ?_
  refine lv_iadd hx hb dX1_lastOf_12 ?_
  obtain ⟨v3, h4, hf⟩ := kBind hf
  refine krd hx hb hK hP 1 rfl h4 dX1_lastOf_13 ?_
  have he := Option.some.inj hf
  subst he
  exact kreti hx hb hr hlk hP hD hS dX1_lastOf_14
set_option maxHeartbeats 4000000 in
set_option maxRecDepth 100000 in
theorem kX1_hashWithCrane (l : Launch) (D : va_G) (cI : ClassId) (fu : Nat) (a0 a1 : Nat) (R : (Nat → Int32)) (x1 : Int64) (x3 : Int32) (o : Int64) (hf : fX1_hashWithCrane fu R x1 x3 = some o) : Ct l yX1_hashWithCrane wsX1_hashWithCrane { frames := 3, cells := 0, slots := 0, locals := 71 } D cI [.ref a0, .long x1, .int x3] (wX1 cI a0 a1 R) (wX1 cI a0 a1 R) (some (.long o)) := by
  refine Ct.of (cc := cX1_hashWithCrane) (maxL := 7) (ret := (some .long)) (by decide) rfl (Nat.le_of_ble_eq_true rfl) ?_
  intro p e s m args below meth c A F hP hD hS ls hl
  obtain ⟨hx, hb, hml, hr, hown, hts, hlk, hK, hA⟩ := F
  have hown : s.vm.findClass RX1 = some m.cls := hown
  have hl : lv_has ls 7 [(0, .ref a0), (1, .long x1), (3, .int x3)] := hl
  unfold fX1_hashWithCrane at hf
  refine lv_lload_n hx hb dX1_hashWithCrane_0 rfl (lv_at hl 1 rfl) ?_
  refine lv_lstore (lv' := [(4, .long x1), (0, .ref a0), (1, .long x1), (3, .int x3)]) hx hb dX1_hashWithCrane_1 hl (by decide) rfl (fun ls hl => ?_)
  refine lv_iconst (v := (0 : Int32)) hx hb dX1_hashWithCrane_3 (by decide) ?_
  refine lv_istore (lv' := [(6, .int (0 : Int32)), (4, .long x1), (0, .ref a0), (1, .long x1), (3, .int x3)]) hx hb dX1_hashWithCrane_4 hl (by decide) rfl (fun ls hl => ?_)
  have hl : lv_has ls 7 [(6, .int (0 : Int32)), (4, .long x1), (0, .ref a0), (1, .long x1), (3, .int x3)] := hl
  refine klp hf (fun t6 : Int64 × Int32 => (wX1 cI a0 a1 R)) 7 (fun t6 : Int64 × Int32 => [(6, .int t6.2), (4, .long t6.1), (0, .ref a0), (1, .long x1), (3, .int x3)]) ?_ hP hD hS hl
  intro t6 x6_ hf hI1 hO1 H locs ls hP hD hS hl
  unfold fX1_hashWithCrane_L6 at hf
  have hP : va_P D vwCl (wX1 cI a0 a1 R) H := hP
  have hD : va_D A (wX1 cI a0 a1 R) := hD
  have hl : lv_has ls 7 [(6, .int t6.2), (4, .long t6.1), (0, .ref a0), (1, .long x1), (3, .int x3)] := hl
  refine lv_iload hx hb dX1_hashWithCrane_6 (lv_at hl 0 rfl) ?_
  refine lv_bipush (v := (10 : Int32)) hx hb dX1_hashWithCrane_8 (by decide) ?_
  refine lv_icmp_ge (tgt := 36) hx hb dX1_hashWithCrane_10 (by decide) (fun c32 => ?_) (fun c32 => ?_)
  · have hf := kIfT c32 hf
    refine lv_iconst (v := (0 : Int32)) hx hb dX1_hashWithCrane_36 (by decide) ?_
    refine lv_istore (lv' := [(6, .int (0 : Int32)), (4, .long t6.1), (0, .ref a0), (1, .long x1), (3, .int x3)]) hx hb dX1_hashWithCrane_37 hl (by decide) rfl (fun ls hl => ?_)
    have hl : lv_has ls 7 [(6, .int (0 : Int32)), (4, .long t6.1), (0, .ref a0), (1, .long x1), (3, .int x3)] := hl
    refine klp hf (fun t39 : Int64 × Int32 => (wX1 cI a0 a1 R)) 7 (fun t39 : Int64 × Int32 => [(6, .int t39.2), (4, .long t39.1), (0, .ref a0), (1, .long x1), (3, .int x3)]) ?_ hP hD hS hl
    intro t39 x39_ hf hI2 hO2 H locs ls hP hD hS hl
    unfold fX1_hashWithCrane_L39 at hf
    have hP : va_P D vwCl (wX1 cI a0 a1 R) H := hP
    have hD : va_D A (wX1 cI a0 a1 R) := hD
    have hl : lv_has ls 7 [(6, .int t39.2), (4, .long t39.1), (0, .ref a0), (1, .long x1), (3, .int x3)] := hl
    refine lv_iload hx hb dX1_hashWithCrane_39 (lv_at hl 0 rfl) ?_
    refine lv_bipush (v := (6 : Int32)) hx hb dX1_hashWithCrane_41 (by decide) ?_
    refine lv_icmp_ge (tgt := 86) hx hb dX1_hashWithCrane_43 (by decide) (fun c33 => ?_) (fun c33 => ?_)
    · have hf := kIfT c33 hf
      refine lv_lload hx hb dX1_hashWithCrane_86 (lv_at hl 1 rfl) ?_
      have he := Option.some.inj hf
      have he := hO2 _ he.symm
      have he := hO1 _ he.symm
      subst he
      exact kretl hx hb hr hlk hP hD hS dX1_hashWithCrane_88
    · have hf := kIfF c33 hf
      refine lv_ldc2 (v := (31 : Int64)) hx hb hown (hts (.constantLong RX1 89 (31)) (by decide +kernel)) dX1_hashWithCrane_46 ?_
      refine lv_lload hx hb dX1_hashWithCrane_49 (lv_at hl 1 rfl) ?_
      refine lv_lmul hx hb dX1_hashWithCrane_51 ?_
      refine lv_aload_n hx hb dX1_hashWithCrane_52 rfl (lv_at hl 2 rfl) ?_
      refine lv_iload_n hx hb dX1_hashWithCrane_53 rfl (lv_at hl 4 rfl) ?_
      refine lv_iload hx hb dX1_hashWithCrane_54 (lv_at hl 0 rfl) ?_
      obtain ⟨v34, h35, hf⟩ := kBind hf
      refine kgoR (krunV (wc := (wX1 cI a0 a1 R)) (As := [.int x3, .int t39.2]) (rest := [.long ((31 : Int64) * t39.1)]) (ci := 1) hx hb hml hown hts hK (kX1_firstOf l D cI a0 a1 R x3 t39.2 v34 h35) gX1_hashWithCrane_X1_firstOf rfl rfl rfl hdX1_firstOf ⟨Nat.le_of_ble_eq_true rfl, Nat.le_of_ble_eq_true rfl⟩ hP hD rfl rfl rfl rfl hl.1 rfl (Nat.le_of_ble_eq_true rfl) dX1_hashWithCrane_56 ⟨Nat.zero_le _, Nat.zero_le _⟩) hP hD hS hA [0, 1] rfl (fun H locs hP hS => ?_)
      refine lv_i2l hx hb dX1_hashWithCrane_59 rfl ?_
      refine lv_ladd hx hb dX1_hashWithCrane_60 ?_
      refine lv_lstore (lv' := [(4, .long (((31 : Int64) * t39.1) + (Int32.toInt64 v34))), (6, .int t39.2), (0, .ref a0), (1, .long x1), (3, .int x3)]) hx hb dX1_hashWithCrane_61 hl (by decide) rfl (fun ls hl => ?_)
      refine lv_ldc2 (v := (31 : Int64)) hx hb hown (hts (.constantLong RX1 89 (31)) (by decide +kernel)) dX1_hashWithCrane_63 ?_
      refine lv_lload hx hb dX1_hashWithCrane_66 (lv_at hl 0 rfl) ?_
      refine lv_lmul hx hb dX1_hashWithCrane_68 ?_
      refine lv_aload_n hx hb dX1_hashWithCrane_69 rfl (lv_at hl 2 rfl) ?_
      refine lv_iload_n hx hb dX1_hashWithCrane_70 rfl (lv_at hl 4 rfl) ?_
      refine lv_iload hx hb dX1_hashWithCrane_71 (lv_at hl 1 rfl) ?_
      obtain ⟨v36, h37, hf⟩ := kBind hf
      refine kgoR (krunV (wc := (wX1 cI a0 a1 R)) (As := [.int x3, .int t39.2]) (rest := [.long ((31 : Int64) * (((31 : Int64) * t39.1) + (Int32.toInt64 v34)))]) (ci := 1) hx hb hml hown hts hK (kX1_lastOf l D cI a0 a1 R x3 t39.2 v36 h37) gX1_hashWithCrane_X1_lastOf rfl rfl rfl hdX1_lastOf ⟨Nat.le_of_ble_eq_true rfl, Nat.le_of_ble_eq_true rfl⟩ hP hD rfl rfl rfl rfl hl.1 rfl (Nat.le_of_ble_eq_true rfl) dX1_hashWithCrane_73 ⟨Nat.zero_le _, Nat.zero_le _⟩) hP hD hS hA [0, 1] rfl (fun H locs hP hS => ?_)
      refine lv_i2l hx hb dX1_hashWithCrane_76 rfl ?_
      refine lv_ladd hx hb dX1_hashWithCrane_77 ?_
      refine lv_lstore (lv' := [(4, .long (((31 : Int64) * (((31 : Int64) * t39.1) + (Int32.toInt64 v34))) + (Int32.toInt64 v36))), (6, .int t39.2), (0, .ref a0), (1, .long x1), (3, .int x3)]) hx hb dX1_hashWithCrane_78 hl (by decide) rfl (fun ls hl => ?_)
      refine lv_iinc (v := t39.2 + (1 : Int32)) (lv' := [(6, .int (t39.2 + (1 : Int32))), (4, .long (((31 : Int64) * (((31 : Int64) * t39.1) + (Int32.toInt64 v34))) + (Int32.toInt64 v36))), (0, .ref a0), (1, .long x1), (3, .int x3)]) hx hb dX1_hashWithCrane_80 hl (k := 1) rfl rfl (by decide) rfl (fun ls hl => ?_)
      refine lv_goto (tgt := 39) hx hb dX1_hashWithCrane_83 (by decide) ?_
      obtain ⟨z38, hz38⟩ : ∃ z : Int64, z = ((31 : Int64) * (((31 : Int64) * t39.1) + (Int32.toInt64 v34))) + (Int32.toInt64 v36) := ⟨_, rfl⟩
      rw [← hz38] at hf
      obtain ⟨z39, hz39⟩ : ∃ z : Int32, z = t39.2 + (1 : Int32) := ⟨_, rfl⟩
      rw [← hz39] at hf
      have he := (Option.some.inj hf).symm
      have hl : lv_has ls 7 [(6, .int z39), (4, .long z38), (0, .ref a0), (1, .long x1), (3, .int x3)] := by rw [hz38, hz39]; exact lv_sub hl [0, 1, 2, 3, 4] rfl
      exact hI2 _ he H locs ls hP hD hS hl
  · have hf := kIfF c32 hf
    refine lv_ldc2 (v := (31 : Int64)) hx hb hown (hts (.constantLong RX1 89 (31)) (by decide +kernel)) dX1_hashWithCrane_13 ?_
    refine lv_lload hx hb dX1_hashWithCrane_16 (lv_at hl 1 rfl) ?_
    refine lv_lmul hx hb dX1_hashWithCrane_18 ?_
    refine lv_aload_n hx hb dX1_hashWithCrane_19 rfl (lv_at hl 2 rfl) ?_
    refine lv_iload_n hx hb dX1_hashWithCrane_20 rfl (lv_at hl 4 rfl) ?_
    refine lv_iload hx hb dX1_hashWithCrane_21 (lv_at hl 0 rfl) ?_
    obtain ⟨v40, h41, hf⟩ := kBind hf
    refine kgoR (krunV (wc := (wX1 cI a0 a1 R)) (As := [.int x3, .int t6.2]) (rest := [.long ((31 : Int64) * t6.1)]) (ci := 1) hx hb hml hown hts hK (kX1_property l D cI fu a0 a1 R x3 t6.2 v40 h41) gX1_hashWithCrane_X1_property rfl rfl rfl hdX1_property ⟨Nat.le_of_ble_eq_true rfl, Nat.le_of_ble_eq_true rfl⟩ hP hD rfl rfl rfl rfl hl.1 rfl (Nat.le_of_ble_eq_true rfl) dX1_hashWithCrane_23 ⟨Nat.zero_le _, Nat.zero_le _⟩) hP hD hS hA [0, 1] rfl (fun H locs hP hS => ?_)
    refine lv_i2l hx hb dX1_hashWithCrane_26 rfl ?_
    refine lv_ladd hx hb dX1_hashWithCrane_27 ?_
    refine lv_lstore (lv' := [(4, .long (((31 : Int64) * t6.1) + (Int32.toInt64 v40))), (6, .int t6.2), (0, .ref a0), (1, .long x1), (3, .int x3)]) hx hb dX1_hashWithCrane_28 hl (by decide) rfl (fun ls hl => ?_)
    refine lv_iinc (v := t6.2 + (1 : Int32)) (lv' := [(6, .int (t6.2 + (1 : Int32))), (4, .long (((31 : Int64) * t6.1) + (Int32.toInt64 v40))), (0, .ref a0), (1, .long x1), (3, .int x3)]) hx hb dX1_hashWithCrane_30 hl (k := 1) rfl rfl (by decide) rfl (fun ls hl => ?_)
    refine lv_goto (tgt := 6) hx hb dX1_hashWithCrane_33 (by decide) ?_
    obtain ⟨z42, hz42⟩ : ∃ z : Int64, z = ((31 : Int64) * t6.1) + (Int32.toInt64 v40) := ⟨_, rfl⟩
    rw [← hz42] at hf
    obtain ⟨z43, hz43⟩ : ∃ z : Int32, z = t6.2 + (1 : Int32) := ⟨_, rfl⟩
    rw [← hz43] at hf
    have he := (Option.some.inj hf).symm
    have hl : lv_has ls 7 [(6, .int z43), (4, .long z42), (0, .ref a0), (1, .long x1), (3, .int x3)] := by rw [hz42, hz43]; exact lv_sub hl [0, 1, 2, 3, 4] rfl
    exact hI1 _ he H locs ls hP hD hS hl
set_option maxHeartbeats 4000000 in
set_option maxRecDepth 100000 in
theorem kX1_hash (l : Launch) (D : va_G) (cI : ClassId) (fu : Nat) (a0 a1 : Nat) (R : (Nat → Int32)) (o : Int64) (hf : fX1_hash fu R = some o) : Ct l yX1_hash wsX1_hash { frames := 4, cells := 0, slots := 0, locals := 97 } D cI [.ref a0] (wX1 cI a0 a1 R) (wX1 cI a0 a1 R) (some (.long o)) := by
  refine Ct.of (cc := cX1_hash) (maxL := 4) (ret := (some .long)) (by decide) rfl (Nat.le_of_ble_eq_true rfl) ?_
  intro p e s m args below meth c A F hP hD hS ls hl
  obtain ⟨hx, hb, hml, hr, hown, hts, hlk, hK, hA⟩ := F
  have hown : s.vm.findClass RX1 = some m.cls := hown
  have hl : lv_has ls 4 [(0, .ref a0)] := hl
  have hinX1 : ∀ w ∈ wsX10, w ∈ wsX1_hash := by decide +kernel
  have hfl11 := hts (.fieldLink RX1 11 "CraneGuard$Site" "row" "[I") (by decide +kernel)
  unfold fX1_hash at hf
  refine lv_ldc2 (v := (17 : Int64)) hx hb hown (hts (.constantLong RX1 87 (17)) (by decide +kernel)) dX1_hash_0 ?_
  refine lv_lstore_n (lv' := [(1, .long (17 : Int64)), (0, .ref a0)]) hx hb dX1_hash_3 rfl hl (by decide) rfl (fun ls hl => ?_)
  refine lv_ldc2 (v := (31 : Int64)) hx hb hown (hts (.constantLong RX1 89 (31)) (by decide +kernel)) dX1_hash_4 ?_
  refine lv_lload_n hx hb dX1_hash_7 rfl (lv_at hl 0 rfl) ?_
  refine lv_lmul hx hb dX1_hash_8 ?_
  refine lv_aload_n hx hb dX1_hash_9 rfl (lv_at hl 1 rfl) ?_
  refine va_get (D := D) (ci := 1) (v := .ref a1) (C := RX1) (T := TX1) (N := 1) hx hb hts hinX1 hown hK.1 hP 0 rfl rfl 0 (by decide) hfl11 (fun _ h9 => h9) rfl dX1_hash_10 ?_
  refine lv_iconst (v := (0 : Int32)) hx hb dX1_hash_13 (by decide) ?_
  obtain ⟨v47, h48, hf⟩ := kBind hf
  refine krd hx hb hK hP 1 rfl h48 dX1_hash_14 ?_
  refine lv_i2l hx hb dX1_hash_15 rfl ?_
  refine lv_ladd hx hb dX1_hash_16 ?_
  refine lv_lstore_n (lv' := [(1, .long (((31 : Int64) * (17 : Int64)) + (Int32.toInt64 v47))), (0, .ref a0)]) hx hb dX1_hash_17 rfl hl (by decide) rfl (fun ls hl => ?_)
  refine lv_ldc2 (v := (31 : Int64)) hx hb hown (hts (.constantLong RX1 89 (31)) (by decide +kernel)) dX1_hash_18 ?_
  refine lv_lload_n hx hb dX1_hash_21 rfl (lv_at hl 0 rfl) ?_
  refine lv_lmul hx hb dX1_hash_22 ?_
  refine lv_aload_n hx hb dX1_hash_23 rfl (lv_at hl 1 rfl) ?_
  refine va_get (D := D) (ci := 1) (v := .ref a1) (C := RX1) (T := TX1) (N := 1) hx hb hts hinX1 hown hK.1 hP 0 rfl rfl 0 (by decide) hfl11 (fun _ h9 => h9) rfl dX1_hash_24 ?_
  refine lv_iconst (v := (1 : Int32)) hx hb dX1_hash_27 (by decide) ?_
  obtain ⟨v49, h50, hf⟩ := kBind hf
  refine krd hx hb hK hP 1 rfl h50 dX1_hash_28 ?_
  refine lv_i2l hx hb dX1_hash_29 rfl ?_
  refine lv_ladd hx hb dX1_hash_30 ?_
  refine lv_lstore_n (lv' := [(1, .long (((31 : Int64) * (((31 : Int64) * (17 : Int64)) + (Int32.toInt64 v47))) + (Int32.toInt64 v49))), (0, .ref a0)]) hx hb dX1_hash_31 rfl hl (by decide) rfl (fun ls hl => ?_)
  refine lv_ldc2 (v := (31 : Int64)) hx hb hown (hts (.constantLong RX1 89 (31)) (by decide +kernel)) dX1_hash_32 ?_
  refine lv_lload_n hx hb dX1_hash_35 rfl (lv_at hl 0 rfl) ?_
  refine lv_lmul hx hb dX1_hash_36 ?_
  refine lv_aload_n hx hb dX1_hash_37 rfl (lv_at hl 1 rfl) ?_
  refine va_get (D := D) (ci := 1) (v := .ref a1) (C := RX1) (T := TX1) (N := 1) hx hb hts hinX1 hown hK.1 hP 0 rfl rfl 0 (by decide) hfl11 (fun _ h9 => h9) rfl dX1_hash_38 ?_
  refine lv_iconst (v := (2 : Int32)) hx hb dX1_hash_41 (by decide) ?_
  obtain ⟨v51, h52, hf⟩ := kBind hf
  refine krd hx hb hK hP 1 rfl h52 dX1_hash_42 ?_
  refine lv_i2l hx hb dX1_hash_43 rfl ?_
  refine lv_ladd hx hb dX1_hash_44 ?_
  refine lv_lstore_n (lv' := [(1, .long (((31 : Int64) * (((31 : Int64) * (((31 : Int64) * (17 : Int64)) + (Int32.toInt64 v47))) + (Int32.toInt64 v49))) + (Int32.toInt64 v51))), (0, .ref a0)]) hx hb dX1_hash_45 rfl hl (by decide) rfl (fun ls hl => ?_)
  refine lv_iconst (v := (0 : Int32)) hx hb dX1_hash_46 (by decide) ?_
  refine lv_istore_n (lv' := [(3, .int (0 : Int32)), (1, .long (((31 : Int64) * (((31 : Int64) * (((31 : Int64) * (17 : Int64)) + (Int32.toInt64 v47))) + (Int32.toInt64 v49))) + (Int32.toInt64 v51))), (0, .ref a0)]) hx hb dX1_hash_47 rfl hl (by decide) rfl (fun ls hl => ?_)
  obtain ⟨z53, hz53⟩ : ∃ z : Int64, z = ((31 : Int64) * (((31 : Int64) * (((31 : Int64) * (17 : Int64)) + (Int32.toInt64 v47))) + (Int32.toInt64 v49))) + (Int32.toInt64 v51) := ⟨_, rfl⟩
  rw [← hz53] at hf
  have hl : lv_has ls 4 [(3, .int (0 : Int32)), (1, .long z53), (0, .ref a0)] := by rw [hz53]; exact hl
  refine klp hf (fun t48 : Int64 × Int32 => (wX1 cI a0 a1 R)) 4 (fun t48 : Int64 × Int32 => [(3, .int t48.2), (1, .long t48.1), (0, .ref a0)]) ?_ hP hD hS hl
  intro t48 x48_ hf hI1 hO1 H locs ls hP hD hS hl
  unfold fX1_hash_L48 at hf
  have hP : va_P D vwCl (wX1 cI a0 a1 R) H := hP
  have hD : va_D A (wX1 cI a0 a1 R) := hD
  have hl : lv_has ls 4 [(3, .int t48.2), (1, .long t48.1), (0, .ref a0)] := hl
  refine lv_iload_n hx hb dX1_hash_48 rfl (lv_at hl 0 rfl) ?_
  refine lv_aload_n hx hb dX1_hash_49 rfl (lv_at hl 2 rfl) ?_
  refine va_get (D := D) (ci := 1) (v := .ref a1) (C := RX1) (T := TX1) (N := 1) hx hb hts hinX1 hown hK.1 hP 0 rfl rfl 0 (by decide) hfl11 (fun _ h9 => h9) rfl dX1_hash_50 ?_
  refine lv_iconst (v := (2 : Int32)) hx hb dX1_hash_53 (by decide) ?_
  obtain ⟨v54, h55, hf⟩ := kBind hf
  refine krd hx hb hK hP 1 rfl h55 dX1_hash_54 ?_
  refine lv_icmp_ge (tgt := 71) hx hb dX1_hash_55 (by decide) (fun c56 => ?_) (fun c56 => ?_)
  · have hf := kIfT c56 hf
    refine lv_ldc2 (v := (31 : Int64)) hx hb hown (hts (.constantLong RX1 89 (31)) (by decide +kernel)) dX1_hash_71 ?_
    refine lv_lload_n hx hb dX1_hash_74 rfl (lv_at hl 1 rfl) ?_
    refine lv_lmul hx hb dX1_hash_75 ?_
    refine lv_aload_n hx hb dX1_hash_76 rfl (lv_at hl 2 rfl) ?_
    refine va_get (D := D) (ci := 1) (v := .ref a1) (C := RX1) (T := TX1) (N := 1) hx hb hts hinX1 hown hK.1 hP 0 rfl rfl 0 (by decide) hfl11 (fun _ h9 => h9) rfl dX1_hash_77 ?_
    refine lv_iconst (v := (3 : Int32)) hx hb dX1_hash_80 (by decide) ?_
    obtain ⟨v57, h58, hf⟩ := kBind hf
    refine krd hx hb hK hP 1 rfl h58 dX1_hash_81 ?_
    refine lv_i2l hx hb dX1_hash_82 rfl ?_
    refine lv_ladd hx hb dX1_hash_83 ?_
    refine lv_lstore_n (lv' := [(1, .long (((31 : Int64) * t48.1) + (Int32.toInt64 v57))), (3, .int t48.2), (0, .ref a0)]) hx hb dX1_hash_84 rfl hl (by decide) rfl (fun ls hl => ?_)
    refine lv_bipush (v := (92 : Int32)) hx hb dX1_hash_85 (by decide) ?_
    refine lv_istore_n (lv' := [(3, .int (92 : Int32)), (1, .long (((31 : Int64) * t48.1) + (Int32.toInt64 v57))), (0, .ref a0)]) hx hb dX1_hash_87 rfl hl (by decide) rfl (fun ls hl => ?_)
    obtain ⟨z59, hz59⟩ : ∃ z : Int64, z = ((31 : Int64) * t48.1) + (Int32.toInt64 v57) := ⟨_, rfl⟩
    rw [← hz59] at hf
    have hl : lv_has ls 4 [(3, .int (92 : Int32)), (1, .long z59), (0, .ref a0)] := by rw [hz59]; exact hl
    refine klp hf (fun t88 : Int64 × Int32 => (wX1 cI a0 a1 R)) 4 (fun t88 : Int64 × Int32 => [(3, .int t88.2), (1, .long t88.1), (0, .ref a0)]) ?_ hP hD hS hl
    intro t88 x88_ hf hI2 hO2 H locs ls hP hD hS hl
    unfold fX1_hash_L88 at hf
    have hP : va_P D vwCl (wX1 cI a0 a1 R) H := hP
    have hD : va_D A (wX1 cI a0 a1 R) := hD
    have hl : lv_has ls 4 [(3, .int t88.2), (1, .long t88.1), (0, .ref a0)] := hl
    refine lv_iload_n hx hb dX1_hash_88 rfl (lv_at hl 0 rfl) ?_
    refine lv_bipush (v := (92 : Int32)) hx hb dX1_hash_89 (by decide) ?_
    refine lv_aload_n hx hb dX1_hash_91 rfl (lv_at hl 2 rfl) ?_
    refine va_get (D := D) (ci := 1) (v := .ref a1) (C := RX1) (T := TX1) (N := 1) hx hb hts hinX1 hown hK.1 hP 0 rfl rfl 0 (by decide) hfl11 (fun _ h9 => h9) rfl dX1_hash_92 ?_
    refine lv_iconst (v := (3 : Int32)) hx hb dX1_hash_95 (by decide) ?_
    obtain ⟨v60, h61, hf⟩ := kBind hf
    refine krd hx hb hK hP 1 rfl h61 dX1_hash_96 ?_
    refine lv_iconst (v := (4 : Int32)) hx hb dX1_hash_97 (by decide) ?_
    refine lv_imul hx hb dX1_hash_98 ?_
    refine lv_iadd hx hb dX1_hash_99 ?_
    refine lv_icmp_ge (tgt := 123) hx hb dX1_hash_100 (by decide) (fun c62 => ?_) (fun c62 => ?_)
    · have hf := kIfT c62 hf
      refine lv_lload_n hx hb dX1_hash_123 rfl (lv_at hl 1 rfl) ?_
      have he := Option.some.inj hf
      have he := hO2 _ he.symm
      have he := hO1 _ he.symm
      subst he
      exact kretl hx hb hr hlk hP hD hS dX1_hash_124
    · have hf := kIfF c62 hf
      refine lv_ldc2 (v := (31 : Int64)) hx hb hown (hts (.constantLong RX1 89 (31)) (by decide +kernel)) dX1_hash_103 ?_
      refine lv_lload_n hx hb dX1_hash_106 rfl (lv_at hl 1 rfl) ?_
      refine lv_lmul hx hb dX1_hash_107 ?_
      refine lv_aload_n hx hb dX1_hash_108 rfl (lv_at hl 2 rfl) ?_
      refine va_get (D := D) (ci := 1) (v := .ref a1) (C := RX1) (T := TX1) (N := 1) hx hb hts hinX1 hown hK.1 hP 0 rfl rfl 0 (by decide) hfl11 (fun _ h9 => h9) rfl dX1_hash_109 ?_
      refine lv_iload_n hx hb dX1_hash_112 rfl (lv_at hl 0 rfl) ?_
      obtain ⟨v63, h64, hf⟩ := kBind hf
      refine krd hx hb hK hP 1 rfl h64 dX1_hash_113 ?_
      refine lv_i2l hx hb dX1_hash_114 rfl ?_
      refine lv_ladd hx hb dX1_hash_115 ?_
      refine lv_lstore_n (lv' := [(1, .long (((31 : Int64) * t88.1) + (Int32.toInt64 v63))), (3, .int t88.2), (0, .ref a0)]) hx hb dX1_hash_116 rfl hl (by decide) rfl (fun ls hl => ?_)
      refine lv_iinc (v := t88.2 + (1 : Int32)) (lv' := [(3, .int (t88.2 + (1 : Int32))), (1, .long (((31 : Int64) * t88.1) + (Int32.toInt64 v63))), (0, .ref a0)]) hx hb dX1_hash_117 hl (k := 1) rfl rfl (by decide) rfl (fun ls hl => ?_)
      refine lv_goto (tgt := 88) hx hb dX1_hash_120 (by decide) ?_
      obtain ⟨z65, hz65⟩ : ∃ z : Int64, z = ((31 : Int64) * t88.1) + (Int32.toInt64 v63) := ⟨_, rfl⟩
      rw [← hz65] at hf
      obtain ⟨z66, hz66⟩ : ∃ z : Int32, z = t88.2 + (1 : Int32) := ⟨_, rfl⟩
      rw [← hz66] at hf
      have he := (Option.some.inj hf).symm
      have hl : lv_has ls 4 [(3, .int z66), (1, .long z65), (0, .ref a0)] := by rw [hz65, hz66]; exact lv_sub hl [0, 1, 2] rfl
      exact hI2 _ he H locs ls hP hD hS hl
  · have hf := kIfF c56 hf
    refine lv_aload_n hx hb dX1_hash_58 rfl (lv_at hl 2 rfl) ?_
    refine lv_lload_n hx hb dX1_hash_59 rfl (lv_at hl 1 rfl) ?_
    refine lv_iload_n hx hb dX1_hash_60 rfl (lv_at hl 0 rfl) ?_
    obtain ⟨v67, h68, hf⟩ := kBind hf
    refine kgoR (krunV (wc := (wX1 cI a0 a1 R)) (As := [.long t48.1, .int t48.2]) (rest := []) (ci := 1) hx hb hml hown hts hK (kX1_hashWithCrane l D cI fu a0 a1 R t48.1 t48.2 v67 h68) gX1_hash_X1_hashWithCrane rfl rfl rfl hdX1_hashWithCrane ⟨Nat.le_of_ble_eq_true rfl, Nat.le_of_ble_eq_true rfl⟩ hP hD rfl rfl rfl rfl hl.1 rfl (Nat.le_of_ble_eq_true rfl) dX1_hash_61 ⟨Nat.zero_le _, Nat.zero_le _⟩) hP hD hS hA [0, 1] rfl (fun H locs hP hS => ?_)
    refine lv_lstore_n (lv' := [(1, .long v67), (3, .int t48.2), (0, .ref a0)]) hx hb dX1_hash_64 rfl hl (by decide) rfl (fun ls hl => ?_)
    refine lv_iinc (v := t48.2 + (1 : Int32)) (lv' := [(3, .int (t48.2 + (1 : Int32))), (1, .long v67), (0, .ref a0)]) hx hb dX1_hash_65 hl (k := 1) rfl rfl (by decide) rfl (fun ls hl => ?_)
    refine lv_goto (tgt := 48) hx hb dX1_hash_68 (by decide) ?_
    obtain ⟨z69, hz69⟩ : ∃ z : Int32, z = t48.2 + (1 : Int32) := ⟨_, rfl⟩
    rw [← hz69] at hf
    have he := (Option.some.inj hf).symm
    have hl : lv_has ls 4 [(3, .int z69), (1, .long v67), (0, .ref a0)] := by rw [hz69]; exact lv_sub hl [0, 1, 2] rfl
    exact hI1 _ he H locs ls hP hD hS hl
set_option maxHeartbeats 4000000 in
set_option maxRecDepth 100000 in
theorem kX3_digest (l : Launch) (D : va_G) (cI : ClassId) (fu : Nat) (a0 a1 a2 a3 a4 a5 a6 a7 a8 a9 a10 a11 : Nat) (R : (Nat → Int32)) (R2 : (Nat → Int32)) (HR : (Nat → Int32)) (HS : Int32) (HN : Int32) (TB : (Nat → Int32)) (LN : Int32) (PS : Int32) (TC : (Nat → Int32)) (TW : (Nat → Int32)) (TG : (Nat → Int32)) (CM : Int32) (o : Int64) (hf : fX3_digest fu R = some o) : Ct l yX3_digest wsX3_digest { frames := 5, cells := 0, slots := 0, locals := 120 } D cI [.ref a0] (wX3 cI a0 a1 a2 a3 a4 a5 a6 a7 a8 a9 a10 a11 R R2 HR HS HN TB LN PS TC TW TG CM) (wX3 cI a0 a1 a2 a3 a4 a5 a6 a7 a8 a9 a10 a11 R R2 HR HS HN TB LN PS TC TW TG CM) (some (.long o)) := by
  refine Ct.of (cc := cX3_digest) (maxL := 1) (ret := (some .long)) (by decide) rfl (Nat.le_of_ble_eq_true rfl) ?_
  intro p e s m args below meth c A F hP hD hS ls hl
  obtain ⟨hx, hb, hml, hr, hown, hts, hlk, hK, hA⟩ := F
  have hown : s.vm.findClass RX3 = some m.cls := hown
  have hl : lv_has ls 1 [(0, .ref a0)] := hl
  have hinX3 : ∀ w ∈ wsX30, w ∈ wsX3_digest := by decide +kernel
  have hfl10 := hts (.fieldLink RX3 10 "CraneGuard" "site" "LCraneGuard$Site;") (by decide +kernel)
  unfold fX3_digest at hf
  refine lv_aload_n hx hb dX3_digest_0 rfl (lv_at hl 0 rfl) ?_
  refine va_get (D := D) (ci := 3) (v := .ref a1) (C := RX3) (T := TX3) (N := 4) hx hb hts hinX3 hown hK.1 hP 0 rfl rfl 0 (by decide) hfl10 (fun _ h9 => h9) rfl dX3_digest_1 ?_
  obtain ⟨v3, h4, hf⟩ := kBind hf
  refine kgoR (krunV (wc := (wX1 cI a1 a2 R)) (As := []) (rest := []) (ci := 1) hx hb hml hown hts hK (kX1_hash l D cI fu a1 a2 R v3 h4) gX3_digest_X1_hash rfl rfl rfl hdX1_hash ⟨Nat.le_of_ble_eq_true rfl, Nat.le_of_ble_eq_true rfl⟩ (hP.sub [1, 2] rfl) (hD.sub [1, 2] (by decide) rfl) rfl rfl rfl rfl hl.1 rfl (Nat.le_of_ble_eq_true rfl) dX3_digest_4 ⟨Nat.zero_le _, Nat.zero_le _⟩) hP hD hS hA [1, 2] rfl (fun H locs hP hS => ?_)
  have he := Option.some.inj hf
  subst he
  exact kretl hx hb hr hlk hP hD hS dX3_digest_7
set_option maxHeartbeats 4000000 in
set_option maxRecDepth 100000 in
theorem kX1_craneCount (l : Launch) (D : va_G) (cI : ClassId) (a0 a1 : Nat) (R : (Nat → Int32)) (o : Int32) (hf : fX1_craneCount R = some o) : Ct l yX1_craneCount wsX1_craneCount { frames := 0, cells := 0, slots := 0, locals := 0 } D cI [.ref a0] (wX1 cI a0 a1 R) (wX1 cI a0 a1 R) (some (.int o)) := by
  refine Ct.of (cc := cX1_craneCount) (maxL := 1) (ret := (some .int)) (by decide) rfl (Nat.le_of_ble_eq_true rfl) ?_
  intro p e s m args below meth c A F hP hD hS ls hl
  obtain ⟨hx, hb, hml, hr, hown, hts, hlk, hK, hA⟩ := F
  have hown : s.vm.findClass RX1 = some m.cls := hown
  have hl : lv_has ls 1 [(0, .ref a0)] := hl
  have hinX1 : ∀ w ∈ wsX10, w ∈ wsX1_craneCount := by decide +kernel
  have hfl11 := hts (.fieldLink RX1 11 "CraneGuard$Site" "row" "[I") (by decide +kernel)
  unfold fX1_craneCount at hf
  refine lv_aload_n hx hb dX1_craneCount_0 rfl (lv_at hl 0 rfl) ?_
  refine va_get (D := D) (ci := 1) (v := .ref a1) (C := RX1) (T := TX1) (N := 1) hx hb hts hinX1 hown hK.1 hP 0 rfl rfl 0 (by decide) hfl11 (fun _ h9 => h9) rfl dX1_craneCount_1 ?_
  refine lv_iconst (v := (2 : Int32)) hx hb dX1_craneCount_4 (by decide) ?_
  obtain ⟨v3, h4, hf⟩ := kBind hf
  refine krd hx hb hK hP 1 rfl h4 dX1_craneCount_5 ?_
  have he := Option.some.inj hf
  subst he
  exact kreti hx hb hr hlk hP hD hS dX1_craneCount_6
set_option maxHeartbeats 4000000 in
set_option maxRecDepth 100000 in
theorem kX3_cranes (l : Launch) (D : va_G) (cI : ClassId) (a0 a1 a2 a3 a4 a5 a6 a7 a8 a9 a10 a11 : Nat) (R : (Nat → Int32)) (R2 : (Nat → Int32)) (HR : (Nat → Int32)) (HS : Int32) (HN : Int32) (TB : (Nat → Int32)) (LN : Int32) (PS : Int32) (TC : (Nat → Int32)) (TW : (Nat → Int32)) (TG : (Nat → Int32)) (CM : Int32) (o : Int32) (hf : fX3_cranes R = some o) : Ct l yX3_cranes wsX3_cranes { frames := 1, cells := 0, slots := 0, locals := 20 } D cI [.ref a0] (wX3 cI a0 a1 a2 a3 a4 a5 a6 a7 a8 a9 a10 a11 R R2 HR HS HN TB LN PS TC TW TG CM) (wX3 cI a0 a1 a2 a3 a4 a5 a6 a7 a8 a9 a10 a11 R R2 HR HS HN TB LN PS TC TW TG CM) (some (.int o)) := by
  refine Ct.of (cc := cX3_cranes) (maxL := 1) (ret := (some .int)) (by decide) rfl (Nat.le_of_ble_eq_true rfl) ?_
  intro p e s m args below meth c A F hP hD hS ls hl
  obtain ⟨hx, hb, hml, hr, hown, hts, hlk, hK, hA⟩ := F
  have hown : s.vm.findClass RX3 = some m.cls := hown
  have hl : lv_has ls 1 [(0, .ref a0)] := hl
  have hinX3 : ∀ w ∈ wsX30, w ∈ wsX3_cranes := by decide +kernel
  have hfl10 := hts (.fieldLink RX3 10 "CraneGuard" "site" "LCraneGuard$Site;") (by decide +kernel)
  unfold fX3_cranes at hf
  refine lv_aload_n hx hb dX3_cranes_0 rfl (lv_at hl 0 rfl) ?_
  refine va_get (D := D) (ci := 3) (v := .ref a1) (C := RX3) (T := TX3) (N := 4) hx hb hts hinX3 hown hK.1 hP 0 rfl rfl 0 (by decide) hfl10 (fun _ h9 => h9) rfl dX3_cranes_1 ?_
  obtain ⟨v3, h4, hf⟩ := kBind hf
  refine kgoR (krunV (wc := (wX1 cI a1 a2 R)) (As := []) (rest := []) (ci := 1) hx hb hml hown hts hK (kX1_craneCount l D cI a1 a2 R v3 h4) gX3_cranes_X1_craneCount rfl rfl rfl hdX1_craneCount ⟨Nat.le_of_ble_eq_true rfl, Nat.le_of_ble_eq_true rfl⟩ (hP.sub [1, 2] rfl) (hD.sub [1, 2] (by decide) rfl) rfl rfl rfl rfl hl.1 rfl (Nat.le_of_ble_eq_true rfl) dX3_cranes_4 ⟨Nat.zero_le _, Nat.zero_le _⟩) hP hD hS hA [1, 2] rfl (fun H locs hP hS => ?_)
  have he := Option.some.inj hf
  subst he
  exact kreti hx hb hr hlk hP hD hS dX3_cranes_7
set_option maxHeartbeats 4000000 in
set_option maxRecDepth 100000 in
theorem kX1_cranesWithTarget (l : Launch) (D : va_G) (cI : ClassId) (fu : Nat) (a0 a1 : Nat) (R : (Nat → Int32)) (o : Int32) (hf : fX1_cranesWithTarget fu R = some o) : Ct l yX1_cranesWithTarget wsX1_cranesWithTarget { frames := 1, cells := 0, slots := 0, locals := 21 } D cI [.ref a0] (wX1 cI a0 a1 R) (wX1 cI a0 a1 R) (some (.int o)) := by
  refine Ct.of (cc := cX1_cranesWithTarget) (maxL := 3) (ret := (some .int)) (by decide) rfl (Nat.le_of_ble_eq_true rfl) ?_
  intro p e s m args below meth c A F hP hD hS ls hl
  obtain ⟨hx, hb, hml, hr, hown, hts, hlk, hK, hA⟩ := F
  have hown : s.vm.findClass RX1 = some m.cls := hown
  have hl : lv_has ls 3 [(0, .ref a0)] := hl
  have hinX1 : ∀ w ∈ wsX10, w ∈ wsX1_cranesWithTarget := by decide +kernel
  have hfl11 := hts (.fieldLink RX1 11 "CraneGuard$Site" "row" "[I") (by decide +kernel)
  unfold fX1_cranesWithTarget at hf
  refine lv_iconst (v := (0 : Int32)) hx hb dX1_cranesWithTarget_0 (by decide) ?_
  refine lv_istore_n (lv' := [(1, .int (0 : Int32)), (0, .ref a0)]) hx hb dX1_cranesWithTarget_1 rfl hl (by decide) rfl (fun ls hl => ?_)
  refine lv_iconst (v := (0 : Int32)) hx hb dX1_cranesWithTarget_2 (by decide) ?_
  refine lv_istore_n (lv' := [(2, .int (0 : Int32)), (1, .int (0 : Int32)), (0, .ref a0)]) hx hb dX1_cranesWithTarget_3 rfl hl (by decide) rfl (fun ls hl => ?_)
  have hl : lv_has ls 3 [(2, .int (0 : Int32)), (1, .int (0 : Int32)), (0, .ref a0)] := hl
  refine klp hf (fun t4 : Int32 × Int32 => (wX1 cI a0 a1 R)) 3 (fun t4 : Int32 × Int32 => [(2, .int t4.2), (1, .int t4.1), (0, .ref a0)]) ?_ hP hD hS hl
  intro t4 x4_ hf hI1 hO1 H locs ls hP hD hS hl
  unfold fX1_cranesWithTarget_L4 at hf
  have hP : va_P D vwCl (wX1 cI a0 a1 R) H := hP
  have hD : va_D A (wX1 cI a0 a1 R) := hD
  have hl : lv_has ls 3 [(2, .int t4.2), (1, .int t4.1), (0, .ref a0)] := hl
  refine lv_iload_n hx hb dX1_cranesWithTarget_4 rfl (lv_at hl 0 rfl) ?_
  refine lv_aload_n hx hb dX1_cranesWithTarget_5 rfl (lv_at hl 2 rfl) ?_
  refine va_get (D := D) (ci := 1) (v := .ref a1) (C := RX1) (T := TX1) (N := 1) hx hb hts hinX1 hown hK.1 hP 0 rfl rfl 0 (by decide) hfl11 (fun _ h9 => h9) rfl dX1_cranesWithTarget_6 ?_
  refine lv_iconst (v := (2 : Int32)) hx hb dX1_cranesWithTarget_9 (by decide) ?_
  obtain ⟨v19, h20, hf⟩ := kBind hf
  refine krd hx hb hK hP 1 rfl h20 dX1_cranesWithTarget_10 ?_
  refine lv_icmp_ge (tgt := 34) hx hb dX1_cranesWithTarget_11 (by decide) (fun c21 => ?_) (fun c21 => ?_)
  · have hf := kIfT c21 hf
    refine lv_iload_n hx hb dX1_cranesWithTarget_34 rfl (lv_at hl 1 rfl) ?_
    have he := Option.some.inj hf
    have he := hO1 _ he.symm
    subst he
    exact kreti hx hb hr hlk hP hD hS dX1_cranesWithTarget_35
  · have hf := kIfF c21 hf
    refine lv_aload_n hx hb dX1_cranesWithTarget_14 rfl (lv_at hl 2 rfl) ?_
    refine lv_iload_n hx hb dX1_cranesWithTarget_15 rfl (lv_at hl 0 rfl) ?_
    obtain ⟨v22, h23, hf⟩ := kBind hf
    refine kgoR (krunV (wc := (wX1 cI a0 a1 R)) (As := [.int t4.2]) (rest := []) (ci := 1) hx hb hml hown hts hK (kX1_hasTarget l D cI a0 a1 R t4.2 v22 h23) gX1_cranesWithTarget_X1_hasTarget rfl rfl rfl hdX1_hasTarget ⟨Nat.le_of_ble_eq_true rfl, Nat.le_of_ble_eq_true rfl⟩ hP hD rfl rfl rfl rfl hl.1 rfl (Nat.le_of_ble_eq_true rfl) dX1_cranesWithTarget_16 ⟨Nat.zero_le _, Nat.zero_le _⟩) hP hD hS hA [0, 1] rfl (fun H locs hP hS => ?_)
    refine kif_eqb (tgt := 28) hx hb dX1_cranesWithTarget_19 (by decide) (fun c24 => ?_) (fun c24 => ?_)
    · have hf := kIfF c24 hf
      refine lv_iinc (v := t4.2 + (1 : Int32)) (lv' := [(2, .int (t4.2 + (1 : Int32))), (1, .int t4.1), (0, .ref a0)]) hx hb dX1_cranesWithTarget_28 hl (k := 0) rfl rfl (by decide) rfl (fun ls hl => ?_)
      refine lv_goto (tgt := 4) hx hb dX1_cranesWithTarget_31 (by decide) ?_
      obtain ⟨z25, hz25⟩ : ∃ z : Int32, z = t4.2 + (1 : Int32) := ⟨_, rfl⟩
      rw [← hz25] at hf
      have he := (Option.some.inj hf).symm
      have hl : lv_has ls 3 [(2, .int z25), (1, .int t4.1), (0, .ref a0)] := by rw [hz25]; exact lv_sub hl [0, 1, 2] rfl
      exact hI1 _ he H locs ls hP hD hS hl
    · have hf := kIfT c24 hf
      refine lv_iload_n hx hb dX1_cranesWithTarget_22 rfl (lv_at hl 1 rfl) ?_
      refine lv_iconst (v := (1 : Int32)) hx hb dX1_cranesWithTarget_23 (by decide) ?_
      refine lv_iload_n hx hb dX1_cranesWithTarget_24 rfl (lv_at hl 0 rfl) ?_
      refine kishl hx hb dX1_cranesWithTarget_25 ?_
      refine lv_ior hx hb dX1_cranesWithTarget_26 ?_
      refine lv_istore_n (lv' := [(1, .int (t4.1 ||| (jshl (1 : Int32) t4.2))), (2, .int t4.2), (0, .ref a0)]) hx hb dX1_cranesWithTarget_27 rfl hl (by decide) rfl (fun ls hl => ?_)
      refine lv_iinc (v := t4.2 + (1 : Int32)) (lv' := [(2, .int (t4.2 + (1 : Int32))), (1, .int (t4.1 ||| (jshl (1 : Int32) t4.2))), (0, .ref a0)]) hx hb dX1_cranesWithTarget_28 hl (k := 1) rfl rfl (by decide) rfl (fun ls hl => ?_)
      refine lv_goto (tgt := 4) hx hb dX1_cranesWithTarget_31 (by decide) ?_
      obtain ⟨z26, hz26⟩ : ∃ z : Int32, z = t4.1 ||| (jshl (1 : Int32) t4.2) := ⟨_, rfl⟩
      rw [← hz26] at hf
      obtain ⟨z27, hz27⟩ : ∃ z : Int32, z = t4.2 + (1 : Int32) := ⟨_, rfl⟩
      rw [← hz27] at hf
      have he := (Option.some.inj hf).symm
      have hl : lv_has ls 3 [(2, .int z27), (1, .int z26), (0, .ref a0)] := by rw [hz26, hz27]; exact lv_sub hl [0, 1, 2] rfl
      exact hI1 _ he H locs ls hP hD hS hl
set_option maxHeartbeats 4000000 in
set_option maxRecDepth 100000 in
theorem kX3_ticksUntilDone (l : Launch) (D : va_G) (cI : ClassId) (fu : Nat) (a0 a1 a2 a3 a4 a5 a6 a7 a8 a9 a10 a11 : Nat) (R : (Nat → Int32)) (R2 : (Nat → Int32)) (HR : (Nat → Int32)) (HS : Int32) (HN : Int32) (TB : (Nat → Int32)) (LN : Int32) (PS : Int32) (TC : (Nat → Int32)) (TW : (Nat → Int32)) (TG : (Nat → Int32)) (CM : Int32) (x1 : Int32) (o : Int32 × (Nat → Int32)) (hf : fX3_ticksUntilDone fu R R2 x1 = some o) : Ct l yX3_ticksUntilDone wsX3_ticksUntilDone { frames := 5, cells := 0, slots := 0, locals := 115 } D cI [.ref a0, .int x1] (wX3 cI a0 a1 a2 a3 a4 a5 a6 a7 a8 a9 a10 a11 R R2 HR HS HN TB LN PS TC TW TG CM) (wX3 cI a0 a1 a2 a3 a4 a5 a6 a7 a8 a9 a10 a11 R o.2 HR HS HN TB LN PS TC TW TG CM) (some (.int o.1)) := by
  refine Ct.of (cc := cX3_ticksUntilDone) (maxL := 3) (ret := (some .int)) (by decide) rfl (Nat.le_of_ble_eq_true rfl) ?_
  intro p e s m args below meth c A F hP hD hS ls hl
  obtain ⟨hx, hb, hml, hr, hown, hts, hlk, hK, hA⟩ := F
  have hown : s.vm.findClass RX3 = some m.cls := hown
  have hl : lv_has ls 3 [(0, .ref a0), (1, .int x1)] := hl
  have hinX3 : ∀ w ∈ wsX30, w ∈ wsX3_ticksUntilDone := by decide +kernel
  have hfl10 := hts (.fieldLink RX3 10 "CraneGuard" "site" "LCraneGuard$Site;") (by decide +kernel)
  have hfl16 := hts (.fieldLink RX3 16 "CraneGuard" "trial" "LCraneGuard$Site;") (by decide +kernel)
  unfold fX3_ticksUntilDone at hf
  refine lv_aload_n hx hb dX3_ticksUntilDone_0 rfl (lv_at hl 0 rfl) ?_
  refine va_get (D := D) (ci := 3) (v := .ref a3) (C := RX3) (T := TX3) (N := 4) hx hb hts hinX3 hown hK.1 hP 0 rfl rfl 1 (by decide) hfl16 (fun _ h9 => h9) rfl dX3_ticksUntilDone_1 ?_
  refine lv_aload_n hx hb dX3_ticksUntilDone_4 rfl (lv_at hl 0 rfl) ?_
  refine va_get (D := D) (ci := 3) (v := .ref a1) (C := RX3) (T := TX3) (N := 4) hx hb hts hinX3 hown hK.1 hP 0 rfl rfl 0 (by decide) hfl10 (fun _ h9 => h9) rfl dX3_ticksUntilDone_5 ?_
  obtain ⟨v19, h20, hf⟩ := kBind hf
  refine kgoJ (wr := [(a0, .inr (3, [.ref a1, .ref a3, .ref a5, .ref a7])), (a5, .inr (0, [.ref a6, .int HS, .int HN])), (a6, .inl (cI, 660, .inl HR)), (a7, .inr (2, [.ref a8, .int LN, .int PS, .ref a9, .ref a10, .ref a11, .int CM])), (a8, .inl (cI, 80, .inl TB)), (a9, .inl (cI, 20, .inl TC)), (a10, .inl (cI, 20, .inl TW)), (a11, .inl (cI, 20, .inl TG))]) (w2 := (wX3 cI a0 a1 a2 a3 a4 a5 a6 a7 a8 a9 a10 a11 R v19 HR HS HN TB LN PS TC TW TG CM)) (krunV (wc := (wX1_X1 cI a3 a4 a1 a2 R2 R)) (As := [.ref a1]) (rest := []) (ci := 1) hx hb hml hown hts hK (kX1_copyFrom l D cI a3 a4 a1 a2 R2 R v19 h20) gX3_ticksUntilDone_X1_copyFrom rfl rfl rfl hdX1_copyFrom ⟨Nat.le_of_ble_eq_true rfl, Nat.le_of_ble_eq_true rfl⟩ (hP.sub [3, 4, 1, 2] rfl) (hD.sub [3, 4, 1, 2] (by decide) rfl) rfl rfl rfl rfl hl.1 rfl (Nat.le_of_ble_eq_true rfl) dX3_ticksUntilDone_8 ⟨Nat.zero_le _, Nat.zero_le _⟩) hP hD hS hA [3, 4, 1, 2] [0, 5, 6, 7, 8, 9, 10, 11] [0, 10, 11, 8, 9, 1, 2, 3, 4, 5, 6, 7] rfl rfl (by decide) (by decide) (by decide) rfl (fun H locs hP hD hS => ?_)
  refine lv_iconst (v := (0 : Int32)) hx hb dX3_ticksUntilDone_11 (by decide) ?_
  refine lv_istore_n (lv' := [(2, .int (0 : Int32)), (0, .ref a0), (1, .int x1)]) hx hb dX3_ticksUntilDone_12 rfl hl (by decide) rfl (fun ls hl => ?_)
  have hl : lv_has ls 3 [(2, .int (0 : Int32)), (0, .ref a0), (1, .int x1)] := hl
  refine klp hf (fun t13 : (Nat → Int32) × Int32 => (wX3 cI a0 a1 a2 a3 a4 a5 a6 a7 a8 a9 a10 a11 R t13.1 HR HS HN TB LN PS TC TW TG CM)) 3 (fun t13 : (Nat → Int32) × Int32 => [(2, .int t13.2), (0, .ref a0), (1, .int x1)]) ?_ hP hD hS hl
  intro t13 x13_ hf hI1 hO1 H locs ls hP hD hS hl
  unfold fX3_ticksUntilDone_L13 at hf
  have hP : va_P D vwCl (wX3 cI a0 a1 a2 a3 a4 a5 a6 a7 a8 a9 a10 a11 R t13.1 HR HS HN TB LN PS TC TW TG CM) H := hP
  have hD : va_D A (wX3 cI a0 a1 a2 a3 a4 a5 a6 a7 a8 a9 a10 a11 R t13.1 HR HS HN TB LN PS TC TW TG CM) := hD
  have hl : lv_has ls 3 [(2, .int t13.2), (0, .ref a0), (1, .int x1)] := hl
  refine lv_iload_n hx hb dX3_ticksUntilDone_13 rfl (lv_at hl 0 rfl) ?_
  refine lv_sipush (v := (1000 : Int32)) hx hb dX3_ticksUntilDone_14 (by decide) ?_
  refine lv_icmp_gt (tgt := 53) hx hb dX3_ticksUntilDone_17 (by decide) (fun c21 => ?_) (fun c21 => ?_)
  · have hf := kIfT c21 hf
    refine lv_bipush (v := (-100 : Int32)) hx hb dX3_ticksUntilDone_53 (by decide) ?_
    have he := Option.some.inj hf
    have he := hO1 _ he.symm
    subst he
    exact kreti hx hb hr hlk hP hD hS dX3_ticksUntilDone_55
  · have hf := kIfF c21 hf
    refine lv_aload_n hx hb dX3_ticksUntilDone_20 rfl (lv_at hl 1 rfl) ?_
    refine va_get (D := D) (ci := 3) (v := .ref a3) (C := RX3) (T := TX3) (N := 4) hx hb hts hinX3 hown hK.1 hP 0 rfl rfl 1 (by decide) hfl16 (fun _ h9 => h9) rfl dX3_ticksUntilDone_21 ?_
    obtain ⟨v22, h23, hf⟩ := kBind hf
    refine kgoR (krunV (wc := (wX1 cI a3 a4 t13.1)) (As := []) (rest := []) (ci := 1) hx hb hml hown hts hK (kX1_cranesWithTarget l D cI fu a3 a4 t13.1 v22 h23) gX3_ticksUntilDone_X1_cranesWithTarget rfl rfl rfl hdX1_cranesWithTarget ⟨Nat.le_of_ble_eq_true rfl, Nat.le_of_ble_eq_true rfl⟩ (hP.sub [3, 4] rfl) (hD.sub [3, 4] (by decide) rfl) rfl rfl rfl rfl hl.1 rfl (Nat.le_of_ble_eq_true rfl) dX3_ticksUntilDone_24 ⟨Nat.zero_le _, Nat.zero_le _⟩) hP hD hS hA [3, 4] rfl (fun H locs hP hS => ?_)
    refine lv_iload_n hx hb dX3_ticksUntilDone_27 rfl (lv_at hl 2 rfl) ?_
    refine lv_iand hx hb dX3_ticksUntilDone_28 ?_
    refine lv_if_ne (tgt := 34) hx hb dX3_ticksUntilDone_29 (by decide) (fun c24 => ?_) (fun c24 => ?_)
    · have hf := kIfF c24 hf
      refine lv_aload_n hx hb dX3_ticksUntilDone_34 rfl (lv_at hl 1 rfl) ?_
      refine va_get (D := D) (ci := 3) (v := .ref a3) (C := RX3) (T := TX3) (N := 4) hx hb hts hinX3 hown hK.1 hP 0 rfl rfl 1 (by decide) hfl16 (fun _ h9 => h9) rfl dX3_ticksUntilDone_35 ?_
      obtain ⟨v25, h26, hf⟩ := kBind hf
      refine kgoJ (wr := [(a0, .inr (3, [.ref a1, .ref a3, .ref a5, .ref a7])), (a1, .inr (1, [.ref a2])), (a2, .inl (cI, 132, .inl R)), (a5, .inr (0, [.ref a6, .int HS, .int HN])), (a6, .inl (cI, 660, .inl HR)), (a7, .inr (2, [.ref a8, .int LN, .int PS, .ref a9, .ref a10, .ref a11, .int CM])), (a8, .inl (cI, 80, .inl TB)), (a9, .inl (cI, 20, .inl TC)), (a10, .inl (cI, 20, .inl TW)), (a11, .inl (cI, 20, .inl TG))]) (w2 := (wX3 cI a0 a1 a2 a3 a4 a5 a6 a7 a8 a9 a10 a11 R v25.2 HR HS HN TB LN PS TC TW TG CM)) (krunV (wc := (wX1 cI a3 a4 t13.1)) (As := []) (rest := []) (ci := 1) hx hb hml hown hts hK (kX1_passTick l D cI fu a3 a4 t13.1 v25 h26) gX3_ticksUntilDone_X1_passTick rfl rfl rfl hdX1_passTick ⟨Nat.le_of_ble_eq_true rfl, Nat.le_of_ble_eq_true rfl⟩ (hP.sub [3, 4] rfl) (hD.sub [3, 4] (by decide) rfl) rfl rfl rfl rfl hl.1 rfl (Nat.le_of_ble_eq_true rfl) dX3_ticksUntilDone_38 ⟨Nat.zero_le _, Nat.zero_le _⟩) hP hD hS hA [3, 4] [0, 1, 2, 5, 6, 7, 8, 9, 10, 11] [0, 1, 2, 10, 11, 3, 4, 5, 6, 7, 8, 9] rfl rfl (by decide) (by decide) (by decide) rfl (fun H locs hP hD hS => ?_)
      refine kif_neb (tgt := 47) hx hb dX3_ticksUntilDone_41 (by decide) (fun c27 => ?_) (fun c27 => ?_)
      · have hf := kIfT c27 hf
        refine lv_iinc (v := t13.2 + (1 : Int32)) (lv' := [(2, .int (t13.2 + (1 : Int32))), (0, .ref a0), (1, .int x1)]) hx hb dX3_ticksUntilDone_47 hl (k := 0) rfl rfl (by decide) rfl (fun ls hl => ?_)
        refine lv_goto (tgt := 13) hx hb dX3_ticksUntilDone_50 (by decide) ?_
        obtain ⟨z28, hz28⟩ : ∃ z : Int32, z = t13.2 + (1 : Int32) := ⟨_, rfl⟩
        rw [← hz28] at hf
        have he := (Option.some.inj hf).symm
        have hl : lv_has ls 3 [(2, .int z28), (0, .ref a0), (1, .int x1)] := by rw [hz28]; exact lv_sub hl [0, 1, 2] rfl
        exact hI1 _ he H locs ls hP hD hS hl
      · have hf := kIfF c27 hf
        refine lv_bipush (v := (-100 : Int32)) hx hb dX3_ticksUntilDone_44 (by decide) ?_
        have he := Option.some.inj hf
        have he := hO1 _ he.symm
        subst he
        exact kreti hx hb hr hlk hP hD hS dX3_ticksUntilDone_46
    · have hf := kIfT c24 hf
      refine lv_iload_n hx hb dX3_ticksUntilDone_32 rfl (lv_at hl 0 rfl) ?_
      have he := Option.some.inj hf
      have he := hO1 _ he.symm
      subst he
      exact kreti hx hb hr hlk hP hD hS dX3_ticksUntilDone_33
set_option maxHeartbeats 4000000 in
set_option maxRecDepth 100000 in
theorem kX3_done (l : Launch) (D : va_G) (cI : ClassId) (fu : Nat) (a0 a1 a2 a3 a4 a5 a6 a7 a8 a9 a10 a11 : Nat) (R : (Nat → Int32)) (R2 : (Nat → Int32)) (HR : (Nat → Int32)) (HS : Int32) (HN : Int32) (TB : (Nat → Int32)) (LN : Int32) (PS : Int32) (TC : (Nat → Int32)) (TW : (Nat → Int32)) (TG : (Nat → Int32)) (CM : Int32) (x1 : Int32) (o : Int32 × (Nat → Int32)) (hf : fX3_done fu R R2 x1 = some o) : Ct l yX3_done wsX3_done { frames := 6, cells := 0, slots := 0, locals := 137 } D cI [.ref a0, .int x1] (wX3 cI a0 a1 a2 a3 a4 a5 a6 a7 a8 a9 a10 a11 R R2 HR HS HN TB LN PS TC TW TG CM) (wX3 cI a0 a1 a2 a3 a4 a5 a6 a7 a8 a9 a10 a11 R o.2 HR HS HN TB LN PS TC TW TG CM) (some (.int o.1)) := by
  refine Ct.of (cc := cX3_done) (maxL := 2) (ret := (some .int)) (by decide) rfl (Nat.le_of_ble_eq_true rfl) ?_
  intro p e s m args below meth c A F hP hD hS ls hl
  obtain ⟨hx, hb, hml, hr, hown, hts, hlk, hK, hA⟩ := F
  have hown : s.vm.findClass RX3 = some m.cls := hown
  have hl : lv_has ls 2 [(0, .ref a0), (1, .int x1)] := hl
  have hinX3 : ∀ w ∈ wsX30, w ∈ wsX3_done := by decide +kernel
  have hfl10 := hts (.fieldLink RX3 10 "CraneGuard" "site" "LCraneGuard$Site;") (by decide +kernel)
  unfold fX3_done at hf
  refine lv_aload_n hx hb dX3_done_0 rfl (lv_at hl 0 rfl) ?_
  refine va_get (D := D) (ci := 3) (v := .ref a1) (C := RX3) (T := TX3) (N := 4) hx hb hts hinX3 hown hK.1 hP 0 rfl rfl 0 (by decide) hfl10 (fun _ h9 => h9) rfl dX3_done_1 ?_
  refine lv_iload_n hx hb dX3_done_4 rfl (lv_at hl 1 rfl) ?_
  obtain ⟨v6, h7, hf⟩ := kBind hf
  refine kgoR (krunV (wc := (wX1 cI a1 a2 R)) (As := [.int x1]) (rest := []) (ci := 1) hx hb hml hown hts hK (kX1_hasCrane l D cI a1 a2 R x1 v6 h7) gX3_done_X1_hasCrane rfl rfl rfl hdX1_hasCrane ⟨Nat.le_of_ble_eq_true rfl, Nat.le_of_ble_eq_true rfl⟩ (hP.sub [1, 2] rfl) (hD.sub [1, 2] (by decide) rfl) rfl rfl rfl rfl hl.1 rfl (Nat.le_of_ble_eq_true rfl) dX3_done_5 ⟨Nat.zero_le _, Nat.zero_le _⟩) hP hD hS hA [1, 2] rfl (fun H locs hP hS => ?_)
  refine kif_neb (tgt := 14) hx hb dX3_done_8 (by decide) (fun c8 => ?_) (fun c8 => ?_)
  · have hf := kIfT c8 hf
    refine lv_aload_n hx hb dX3_done_14 rfl (lv_at hl 0 rfl) ?_
    refine lv_iconst (v := (1 : Int32)) hx hb dX3_done_15 (by decide) ?_
    refine lv_iload_n hx hb dX3_done_16 rfl (lv_at hl 1 rfl) ?_
    refine kishl hx hb dX3_done_17 ?_
    obtain ⟨v9, h10, hf⟩ := kBind hf
    refine kgoA (krunV (wc := (wX3 cI a0 a1 a2 a3 a4 a5 a6 a7 a8 a9 a10 a11 R R2 HR HS HN TB LN PS TC TW TG CM)) (As := [.int (jshl (1 : Int32) x1)]) (rest := []) (ci := 3) hx hb hml hown hts hK (kX3_ticksUntilDone l D cI fu a0 a1 a2 a3 a4 a5 a6 a7 a8 a9 a10 a11 R R2 HR HS HN TB LN PS TC TW TG CM (jshl (1 : Int32) x1) v9 h10) gX3_done_X3_ticksUntilDone rfl rfl rfl hdX3_ticksUntilDone ⟨Nat.le_of_ble_eq_true rfl, Nat.le_of_ble_eq_true rfl⟩ hP hD rfl rfl rfl rfl hl.1 rfl (Nat.le_of_ble_eq_true rfl) dX3_done_18 ⟨Nat.zero_le _, Nat.zero_le _⟩) hD hS hA (fun H locs hP hD hS => ?_)
    have he := Option.some.inj hf
    subst he
    exact kreti hx hb hr hlk hP hD hS dX3_done_21
  · have hf := kIfF c8 hf
    refine lv_bipush (v := (-101 : Int32)) hx hb dX3_done_11 (by decide) ?_
    have he := Option.some.inj hf
    subst he
    exact kreti hx hb hr hlk hP hD hS dX3_done_13
set_option maxHeartbeats 4000000 in
set_option maxRecDepth 100000 in
theorem kX1_ticksToTarget (l : Launch) (D : va_G) (cI : ClassId) (a0 a1 : Nat) (R : (Nat → Int32)) (x1 : Int32) (o : Int32) (hf : fX1_ticksToTarget R x1 = some o) : Ct l yX1_ticksToTarget wsX1_ticksToTarget { frames := 2, cells := 0, slots := 0, locals := 44 } D cI [.ref a0, .int x1] (wX1 cI a0 a1 R) (wX1 cI a0 a1 R) (some (.int o)) := by
  refine Ct.of (cc := cX1_ticksToTarget) (maxL := 2) (ret := (some .int)) (by decide) rfl (Nat.le_of_ble_eq_true rfl) ?_
  intro p e s m args below meth c A F hP hD hS ls hl
  obtain ⟨hx, hb, hml, hr, hown, hts, hlk, hK, hA⟩ := F
  have hown : s.vm.findClass RX1 = some m.cls := hown
  have hl : lv_has ls 2 [(0, .ref a0), (1, .int x1)] := hl
  have hinX1 : ∀ w ∈ wsX10, w ∈ wsX1_ticksToTarget := by decide +kernel
  have hfl11 := hts (.fieldLink RX1 11 "CraneGuard$Site" "row" "[I") (by decide +kernel)
  unfold fX1_ticksToTarget at hf
  refine lv_aload_n hx hb dX1_ticksToTarget_0 rfl (lv_at hl 0 rfl) ?_
  refine lv_iload_n hx hb dX1_ticksToTarget_1 rfl (lv_at hl 1 rfl) ?_
  obtain ⟨v8, h9, hf⟩ := kBind hf
  refine kgoR (krunV (wc := (wX1 cI a0 a1 R)) (As := [.int x1]) (rest := []) (ci := 1) hx hb hml hown hts hK (kX1_stepsToTarget l D cI a0 a1 R x1 v8 h9) gX1_ticksToTarget_X1_stepsToTarget rfl rfl rfl hdX1_stepsToTarget ⟨Nat.le_of_ble_eq_true rfl, Nat.le_of_ble_eq_true rfl⟩ hP hD rfl rfl rfl rfl hl.1 rfl (Nat.le_of_ble_eq_true rfl) dX1_ticksToTarget_2 ⟨Nat.zero_le _, Nat.zero_le _⟩) hP hD hS hA [0, 1] rfl (fun H locs hP hS => ?_)
  refine lv_aload_n hx hb dX1_ticksToTarget_5 rfl (lv_at hl 0 rfl) ?_
  refine va_get (D := D) (ci := 1) (v := .ref a1) (C := RX1) (T := TX1) (N := 1) hx hb hts hinX1 hown hK.1 hP 0 rfl rfl 0 (by decide) hfl11 (fun _ h9 => h9) rfl dX1_ticksToTarget_6 ?_
  refine lv_bipush (v := (8 : Int32)) hx hb dX1_ticksToTarget_9 (by decide) ?_
  refine lv_iload_n hx hb dX1_ticksToTarget_11 rfl (lv_at hl 1 rfl) ?_
  refine lv_iadd hx hb dX1_ticksToTarget_12 ?_
  obtain ⟨v10, h11, hf⟩ := kBind hf
  refine krd hx hb hK hP 1 rfl h11 dX1_ticksToTarget_13 ?_
  refine lv_imul hx hb dX1_ticksToTarget_14 ?_
  refine lv_aload_n hx hb dX1_ticksToTarget_15 rfl (lv_at hl 0 rfl) ?_
  refine va_get (D := D) (ci := 1) (v := .ref a1) (C := RX1) (T := TX1) (N := 1) hx hb hts hinX1 hown hK.1 hP 0 rfl rfl 0 (by decide) hfl11 (fun _ h9 => h9) rfl dX1_ticksToTarget_16 ?_
  refine lv_bipush (v := (24 : Int32)) hx hb dX1_ticksToTarget_19 (by decide) ?_
  refine lv_iload_n hx hb dX1_ticksToTarget_21 rfl (lv_at hl 1 rfl) ?_
  refine lv_iadd hx hb dX1_ticksToTarget_22 ?_
  obtain ⟨v12, h13, hf⟩ := kBind hf
  refine krd hx hb hK hP 1 rfl h13 dX1_ticksToTarget_23 ?_
  refine lv_isub hx hb dX1_ticksToTarget_24 ?_
  obtain ⟨z14, hz14⟩ : ∃ z : Int32, z = (v8 * v10) - v12 := ⟨_, rfl⟩
  rw [← hz14] at hf
  rw [← hz14]
  have he := Option.some.inj hf
  subst he
  exact kreti hx hb hr hlk hP hD hS dX1_ticksToTarget_25
set_option maxHeartbeats 4000000 in
set_option maxRecDepth 100000 in
theorem kX3_needs (l : Launch) (D : va_G) (cI : ClassId) (a0 a1 a2 a3 a4 a5 a6 a7 a8 a9 a10 a11 : Nat) (R : (Nat → Int32)) (R2 : (Nat → Int32)) (HR : (Nat → Int32)) (HS : Int32) (HN : Int32) (TB : (Nat → Int32)) (LN : Int32) (PS : Int32) (TC : (Nat → Int32)) (TW : (Nat → Int32)) (TG : (Nat → Int32)) (CM : Int32) (x1 : Int32) (o : Int32) (hf : fX3_needs R x1 = some o) : Ct l yX3_needs wsX3_needs { frames := 3, cells := 0, slots := 0, locals := 65 } D cI [.ref a0, .int x1] (wX3 cI a0 a1 a2 a3 a4 a5 a6 a7 a8 a9 a10 a11 R R2 HR HS HN TB LN PS TC TW TG CM) (wX3 cI a0 a1 a2 a3 a4 a5 a6 a7 a8 a9 a10 a11 R R2 HR HS HN TB LN PS TC TW TG CM) (some (.int o)) := by
  refine Ct.of (cc := cX3_needs) (maxL := 2) (ret := (some .int)) (by decide) rfl (Nat.le_of_ble_eq_true rfl) ?_
  intro p e s m args below meth c A F hP hD hS ls hl
  obtain ⟨hx, hb, hml, hr, hown, hts, hlk, hK, hA⟩ := F
  have hown : s.vm.findClass RX3 = some m.cls := hown
  have hl : lv_has ls 2 [(0, .ref a0), (1, .int x1)] := hl
  have hinX3 : ∀ w ∈ wsX30, w ∈ wsX3_needs := by decide +kernel
  have hfl10 := hts (.fieldLink RX3 10 "CraneGuard" "site" "LCraneGuard$Site;") (by decide +kernel)
  unfold fX3_needs at hf
  refine lv_aload_n hx hb dX3_needs_0 rfl (lv_at hl 0 rfl) ?_
  refine va_get (D := D) (ci := 3) (v := .ref a1) (C := RX3) (T := TX3) (N := 4) hx hb hts hinX3 hown hK.1 hP 0 rfl rfl 0 (by decide) hfl10 (fun _ h9 => h9) rfl dX3_needs_1 ?_
  refine lv_iload_n hx hb dX3_needs_4 rfl (lv_at hl 1 rfl) ?_
  obtain ⟨v9, h10, hf⟩ := kBind hf
  refine kgoR (krunV (wc := (wX1 cI a1 a2 R)) (As := [.int x1]) (rest := []) (ci := 1) hx hb hml hown hts hK (kX1_hasCrane l D cI a1 a2 R x1 v9 h10) gX3_needs_X1_hasCrane rfl rfl rfl hdX1_hasCrane ⟨Nat.le_of_ble_eq_true rfl, Nat.le_of_ble_eq_true rfl⟩ (hP.sub [1, 2] rfl) (hD.sub [1, 2] (by decide) rfl) rfl rfl rfl rfl hl.1 rfl (Nat.le_of_ble_eq_true rfl) dX3_needs_5 ⟨Nat.zero_le _, Nat.zero_le _⟩) hP hD hS hA [1, 2] rfl (fun H locs hP hS => ?_)
  refine kif_neb (tgt := 14) hx hb dX3_needs_8 (by decide) (fun c11 => ?_) (fun c11 => ?_)
  · have hf := kIfT c11 hf
    refine lv_aload_n hx hb dX3_needs_14 rfl (lv_at hl 0 rfl) ?_
    refine va_get (D := D) (ci := 3) (v := .ref a1) (C := RX3) (T := TX3) (N := 4) hx hb hts hinX3 hown hK.1 hP 0 rfl rfl 0 (by decide) hfl10 (fun _ h9 => h9) rfl dX3_needs_15 ?_
    refine lv_iload_n hx hb dX3_needs_18 rfl (lv_at hl 1 rfl) ?_
    obtain ⟨v12, h13, hf⟩ := kBind hf
    refine kgoR (krunV (wc := (wX1 cI a1 a2 R)) (As := [.int x1]) (rest := []) (ci := 1) hx hb hml hown hts hK (kX1_hasTarget l D cI a1 a2 R x1 v12 h13) gX3_needs_X1_hasTarget rfl rfl rfl hdX1_hasTarget ⟨Nat.le_of_ble_eq_true rfl, Nat.le_of_ble_eq_true rfl⟩ (hP.sub [1, 2] rfl) (hD.sub [1, 2] (by decide) rfl) rfl rfl rfl rfl hl.1 rfl (Nat.le_of_ble_eq_true rfl) dX3_needs_19 ⟨Nat.zero_le _, Nat.zero_le _⟩) hP hD hS hA [1, 2] rfl (fun H locs hP hS => ?_)
    refine kif_eqb (tgt := 36) hx hb dX3_needs_22 (by decide) (fun c14 => ?_) (fun c14 => ?_)
    · have hf := kIfF c14 hf
      refine lv_iconst (v := (0 : Int32)) hx hb dX3_needs_36 (by decide) ?_
      have he := Option.some.inj hf
      subst he
      exact kreti hx hb hr hlk hP hD hS dX3_needs_37
    · have hf := kIfT c14 hf
      refine lv_aload_n hx hb dX3_needs_25 rfl (lv_at hl 0 rfl) ?_
      refine va_get (D := D) (ci := 3) (v := .ref a1) (C := RX3) (T := TX3) (N := 4) hx hb hts hinX3 hown hK.1 hP 0 rfl rfl 0 (by decide) hfl10 (fun _ h9 => h9) rfl dX3_needs_26 ?_
      refine lv_iload_n hx hb dX3_needs_29 rfl (lv_at hl 1 rfl) ?_
      obtain ⟨v15, h16, hf⟩ := kBind hf
      refine kgoR (krunV (wc := (wX1 cI a1 a2 R)) (As := [.int x1]) (rest := []) (ci := 1) hx hb hml hown hts hK (kX1_ticksToTarget l D cI a1 a2 R x1 v15 h16) gX3_needs_X1_ticksToTarget rfl rfl rfl hdX1_ticksToTarget ⟨Nat.le_of_ble_eq_true rfl, Nat.le_of_ble_eq_true rfl⟩ (hP.sub [1, 2] rfl) (hD.sub [1, 2] (by decide) rfl) rfl rfl rfl rfl hl.1 rfl (Nat.le_of_ble_eq_true rfl) dX3_needs_30 ⟨Nat.zero_le _, Nat.zero_le _⟩) hP hD hS hA [1, 2] rfl (fun H locs hP hS => ?_)
      refine lv_goto (tgt := 37) hx hb dX3_needs_33 (by decide) ?_
      have he := Option.some.inj hf
      subst he
      exact kreti hx hb hr hlk hP hD hS dX3_needs_37
  · have hf := kIfF c11 hf
    refine lv_bipush (v := (-101 : Int32)) hx hb dX3_needs_11 (by decide) ?_
    have he := Option.some.inj hf
    subst he
    exact kreti hx hb hr hlk hP hD hS dX3_needs_13
set_option maxHeartbeats 4000000 in
set_option maxRecDepth 100000 in
theorem kX1_waitOf (l : Launch) (D : va_G) (cI : ClassId) (a0 a1 : Nat) (R : (Nat → Int32)) (x1 : Int32) (o : Int32) (hf : fX1_waitOf R x1 = some o) : Ct l yX1_waitOf wsX1_waitOf { frames := 0, cells := 0, slots := 0, locals := 0 } D cI [.ref a0, .int x1] (wX1 cI a0 a1 R) (wX1 cI a0 a1 R) (some (.int o)) := by
  refine Ct.of (cc := cX1_waitOf) (maxL := 2) (ret := (some .int)) (by decide) rfl (Nat.le_of_ble_eq_true rfl) ?_
  intro p e s m args below meth c A F hP hD hS ls hl
  obtain ⟨hx, hb, hml, hr, hown, hts, hlk, hK, hA⟩ := F
  have hown : s.vm.findClass RX1 = some m.cls := hown
  have hl : lv_has ls 2 [(0, .ref a0), (1, .int x1)] := hl
  have hinX1 : ∀ w ∈ wsX10, w ∈ wsX1_waitOf := by decide +kernel
  have hfl11 := hts (.fieldLink RX1 11 "CraneGuard$Site" "row" "[I") (by decide +kernel)
  unfold fX1_waitOf at hf
  refine lv_aload_n hx hb dX1_waitOf_0 rfl (lv_at hl 0 rfl) ?_
  refine va_get (D := D) (ci := 1) (v := .ref a1) (C := RX1) (T := TX1) (N := 1) hx hb hts hinX1 hown hK.1 hP 0 rfl rfl 0 (by decide) hfl11 (fun _ h9 => h9) rfl dX1_waitOf_1 ?_
  refine lv_bipush (v := (28 : Int32)) hx hb dX1_waitOf_4 (by decide) ?_
  refine lv_iload_n hx hb dX1_waitOf_6 rfl (lv_at hl 1 rfl) ?_
  refine lv_iadd hx hb dX1_waitOf_7 ?_
  obtain ⟨v3, h4, hf⟩ := kBind hf
  refine krd hx hb hK hP 1 rfl h4 dX1_waitOf_8 ?_
  have he := Option.some.inj hf
  subst he
  exact kreti hx hb hr hlk hP hD hS dX1_waitOf_9
set_option maxHeartbeats 4000000 in
set_option maxRecDepth 100000 in
theorem kX3_foretoldWaits (l : Launch) (D : va_G) (cI : ClassId) (fu : Nat) (a0 a1 a2 a3 a4 a5 a6 a7 a8 a9 a10 a11 : Nat) (R : (Nat → Int32)) (R2 : (Nat → Int32)) (HR : (Nat → Int32)) (HS : Int32) (HN : Int32) (TB : (Nat → Int32)) (LN : Int32) (PS : Int32) (TC : (Nat → Int32)) (TW : (Nat → Int32)) (TG : (Nat → Int32)) (CM : Int32) (x1 : Int32) (x2 : Int32) (o : Int32 × (Nat → Int32)) (hf : fX3_foretoldWaits fu R R2 x1 x2 = some o) : Ct l yX3_foretoldWaits wsX3_foretoldWaits { frames := 5, cells := 0, slots := 0, locals := 115 } D cI [.ref a0, .int x1, .int x2] (wX3 cI a0 a1 a2 a3 a4 a5 a6 a7 a8 a9 a10 a11 R R2 HR HS HN TB LN PS TC TW TG CM) (wX3 cI a0 a1 a2 a3 a4 a5 a6 a7 a8 a9 a10 a11 R o.2 HR HS HN TB LN PS TC TW TG CM) (some (.int o.1)) := by
  refine Ct.of (cc := cX3_foretoldWaits) (maxL := 6) (ret := (some .int)) (by decide) rfl (Nat.le_of_ble_eq_true rfl) ?_
  intro p e s m args below meth c A F hP hD hS ls hl
  obtain ⟨hx, hb, hml, hr, hown, hts, hlk, hK, hA⟩ := F
  have hown : s.vm.findClass RX3 = some m.cls := hown
  have hl : lv_has ls 6 [(0, .ref a0), (1, .int x1), (2, .int x2)] := hl
  have hinX3 : ∀ w ∈ wsX30, w ∈ wsX3_foretoldWaits := by decide +kernel
  have hfl10 := hts (.fieldLink RX3 10 "CraneGuard" "site" "LCraneGuard$Site;") (by decide +kernel)
  have hfl16 := hts (.fieldLink RX3 16 "CraneGuard" "trial" "LCraneGuard$Site;") (by decide +kernel)
  unfold fX3_foretoldWaits at hf
  refine lv_aload_n hx hb dX3_foretoldWaits_0 rfl (lv_at hl 0 rfl) ?_
  refine va_get (D := D) (ci := 3) (v := .ref a3) (C := RX3) (T := TX3) (N := 4) hx hb hts hinX3 hown hK.1 hP 0 rfl rfl 1 (by decide) hfl16 (fun _ h9 => h9) rfl dX3_foretoldWaits_1 ?_
  refine lv_aload_n hx hb dX3_foretoldWaits_4 rfl (lv_at hl 0 rfl) ?_
  refine va_get (D := D) (ci := 3) (v := .ref a1) (C := RX3) (T := TX3) (N := 4) hx hb hts hinX3 hown hK.1 hP 0 rfl rfl 0 (by decide) hfl10 (fun _ h9 => h9) rfl dX3_foretoldWaits_5 ?_
  obtain ⟨v31, h32, hf⟩ := kBind hf
  refine kgoJ (wr := [(a0, .inr (3, [.ref a1, .ref a3, .ref a5, .ref a7])), (a5, .inr (0, [.ref a6, .int HS, .int HN])), (a6, .inl (cI, 660, .inl HR)), (a7, .inr (2, [.ref a8, .int LN, .int PS, .ref a9, .ref a10, .ref a11, .int CM])), (a8, .inl (cI, 80, .inl TB)), (a9, .inl (cI, 20, .inl TC)), (a10, .inl (cI, 20, .inl TW)), (a11, .inl (cI, 20, .inl TG))]) (w2 := (wX3 cI a0 a1 a2 a3 a4 a5 a6 a7 a8 a9 a10 a11 R v31 HR HS HN TB LN PS TC TW TG CM)) (krunV (wc := (wX1_X1 cI a3 a4 a1 a2 R2 R)) (As := [.ref a1]) (rest := []) (ci := 1) hx hb hml hown hts hK (kX1_copyFrom l D cI a3 a4 a1 a2 R2 R v31 h32) gX3_foretoldWaits_X1_copyFrom rfl rfl rfl hdX1_copyFrom ⟨Nat.le_of_ble_eq_true rfl, Nat.le_of_ble_eq_true rfl⟩ (hP.sub [3, 4, 1, 2] rfl) (hD.sub [3, 4, 1, 2] (by decide) rfl) rfl rfl rfl rfl hl.1 rfl (Nat.le_of_ble_eq_true rfl) dX3_foretoldWaits_8 ⟨Nat.zero_le _, Nat.zero_le _⟩) hP hD hS hA [3, 4, 1, 2] [0, 5, 6, 7, 8, 9, 10, 11] [0, 10, 11, 8, 9, 1, 2, 3, 4, 5, 6, 7] rfl rfl (by decide) (by decide) (by decide) rfl (fun H locs hP hD hS => ?_)
  refine lv_aload_n hx hb dX3_foretoldWaits_11 rfl (lv_at hl 0 rfl) ?_
  refine va_get (D := D) (ci := 3) (v := .ref a3) (C := RX3) (T := TX3) (N := 4) hx hb hts hinX3 hown hK.1 hP 0 rfl rfl 1 (by decide) hfl16 (fun _ h9 => h9) rfl dX3_foretoldWaits_12 ?_
  refine lv_iload_n hx hb dX3_foretoldWaits_15 rfl (lv_at hl 1 rfl) ?_
  obtain ⟨v33, h34, hf⟩ := kBind hf
  refine kgoR (krunV (wc := (wX1 cI a3 a4 v31)) (As := [.int x1]) (rest := []) (ci := 1) hx hb hml hown hts hK (kX1_waitOf l D cI a3 a4 v31 x1 v33 h34) gX3_foretoldWaits_X1_waitOf rfl rfl rfl hdX1_waitOf ⟨Nat.le_of_ble_eq_true rfl, Nat.le_of_ble_eq_true rfl⟩ (hP.sub [3, 4] rfl) (hD.sub [3, 4] (by decide) rfl) rfl rfl rfl rfl hl.1 rfl (Nat.le_of_ble_eq_true rfl) dX3_foretoldWaits_16 ⟨Nat.zero_le _, Nat.zero_le _⟩) hP hD hS hA [3, 4] rfl (fun H locs hP hS => ?_)
  refine lv_istore_n (lv' := [(3, .int v33), (0, .ref a0), (1, .int x1), (2, .int x2)]) hx hb dX3_foretoldWaits_19 rfl hl (by decide) rfl (fun ls hl => ?_)
  refine lv_iconst (v := (0 : Int32)) hx hb dX3_foretoldWaits_20 (by decide) ?_
  refine lv_istore (lv' := [(4, .int (0 : Int32)), (3, .int v33), (0, .ref a0), (1, .int x1), (2, .int x2)]) hx hb dX3_foretoldWaits_21 hl (by decide) rfl (fun ls hl => ?_)
  have hl : lv_has ls 6 [(4, .int (0 : Int32)), (3, .int v33), (0, .ref a0), (1, .int x1), (2, .int x2)] := hl
  refine klp hf (fun t23 : (Nat → Int32) × Int32 => (wX3 cI a0 a1 a2 a3 a4 a5 a6 a7 a8 a9 a10 a11 R t23.1 HR HS HN TB LN PS TC TW TG CM)) 6 (fun t23 : (Nat → Int32) × Int32 => [(4, .int t23.2), (3, .int v33), (0, .ref a0), (1, .int x1), (2, .int x2)]) ?_ hP hD hS hl
  intro t23 x23_ hf hI1 hO1 H locs ls hP hD hS hl
  unfold fX3_foretoldWaits_L23 at hf
  have hP : va_P D vwCl (wX3 cI a0 a1 a2 a3 a4 a5 a6 a7 a8 a9 a10 a11 R t23.1 HR HS HN TB LN PS TC TW TG CM) H := hP
  have hD : va_D A (wX3 cI a0 a1 a2 a3 a4 a5 a6 a7 a8 a9 a10 a11 R t23.1 HR HS HN TB LN PS TC TW TG CM) := hD
  have hl : lv_has ls 6 [(4, .int t23.2), (3, .int v33), (0, .ref a0), (1, .int x1), (2, .int x2)] := hl
  refine lv_iload hx hb dX3_foretoldWaits_23 (lv_at hl 0 rfl) ?_
  refine lv_iload_n hx hb dX3_foretoldWaits_25 rfl (lv_at hl 4 rfl) ?_
  refine lv_icmp_ge (tgt := 77) hx hb dX3_foretoldWaits_26 (by decide) (fun c35 => ?_) (fun c35 => ?_)
  · have hf := kIfT c35 hf
    refine lv_aload_n hx hb dX3_foretoldWaits_77 rfl (lv_at hl 2 rfl) ?_
    refine va_get (D := D) (ci := 3) (v := .ref a3) (C := RX3) (T := TX3) (N := 4) hx hb hts hinX3 hown hK.1 hP 0 rfl rfl 1 (by decide) hfl16 (fun _ h9 => h9) rfl dX3_foretoldWaits_78 ?_
    refine lv_iload_n hx hb dX3_foretoldWaits_81 rfl (lv_at hl 3 rfl) ?_
    obtain ⟨v36, h37, hf⟩ := kBind hf
    refine kgoR (krunV (wc := (wX1 cI a3 a4 t23.1)) (As := [.int x1]) (rest := []) (ci := 1) hx hb hml hown hts hK (kX1_waitOf l D cI a3 a4 t23.1 x1 v36 h37) gX3_foretoldWaits_X1_waitOf rfl rfl rfl hdX1_waitOf ⟨Nat.le_of_ble_eq_true rfl, Nat.le_of_ble_eq_true rfl⟩ (hP.sub [3, 4] rfl) (hD.sub [3, 4] (by decide) rfl) rfl rfl rfl rfl hl.1 rfl (Nat.le_of_ble_eq_true rfl) dX3_foretoldWaits_82 ⟨Nat.zero_le _, Nat.zero_le _⟩) hP hD hS hA [3, 4] rfl (fun H locs hP hS => ?_)
    refine lv_iload_n hx hb dX3_foretoldWaits_85 rfl (lv_at hl 1 rfl) ?_
    refine lv_isub hx hb dX3_foretoldWaits_86 ?_
    obtain ⟨z38, hz38⟩ : ∃ z : Int32, z = v36 - v33 := ⟨_, rfl⟩
    rw [← hz38] at hf
    rw [← hz38]
    have he := Option.some.inj hf
    have he := hO1 _ he.symm
    subst he
    exact kreti hx hb hr hlk hP hD hS dX3_foretoldWaits_87
  · have hf := kIfF c35 hf
    refine lv_aload_n hx hb dX3_foretoldWaits_29 rfl (lv_at hl 2 rfl) ?_
    refine va_get (D := D) (ci := 3) (v := .ref a3) (C := RX3) (T := TX3) (N := 4) hx hb hts hinX3 hown hK.1 hP 0 rfl rfl 1 (by decide) hfl16 (fun _ h9 => h9) rfl dX3_foretoldWaits_30 ?_
    refine lv_iload_n hx hb dX3_foretoldWaits_33 rfl (lv_at hl 3 rfl) ?_
    obtain ⟨v39, h40, hf⟩ := kBind hf
    refine kgoR (krunV (wc := (wX1 cI a3 a4 t23.1)) (As := [.int x1]) (rest := []) (ci := 1) hx hb hml hown hts hK (kX1_waitOf l D cI a3 a4 t23.1 x1 v39 h40) gX3_foretoldWaits_X1_waitOf rfl rfl rfl hdX1_waitOf ⟨Nat.le_of_ble_eq_true rfl, Nat.le_of_ble_eq_true rfl⟩ (hP.sub [3, 4] rfl) (hD.sub [3, 4] (by decide) rfl) rfl rfl rfl rfl hl.1 rfl (Nat.le_of_ble_eq_true rfl) dX3_foretoldWaits_34 ⟨Nat.zero_le _, Nat.zero_le _⟩) hP hD hS hA [3, 4] rfl (fun H locs hP hS => ?_)
    refine lv_istore (lv' := [(5, .int v39), (4, .int t23.2), (3, .int v33), (0, .ref a0), (1, .int x1), (2, .int x2)]) hx hb dX3_foretoldWaits_37 hl (by decide) rfl (fun ls hl => ?_)
    refine lv_aload_n hx hb dX3_foretoldWaits_39 rfl (lv_at hl 3 rfl) ?_
    refine va_get (D := D) (ci := 3) (v := .ref a3) (C := RX3) (T := TX3) (N := 4) hx hb hts hinX3 hown hK.1 hP 0 rfl rfl 1 (by decide) hfl16 (fun _ h9 => h9) rfl dX3_foretoldWaits_40 ?_
    obtain ⟨v41, h42, hf⟩ := kBind hf
    refine kgoJ (wr := [(a0, .inr (3, [.ref a1, .ref a3, .ref a5, .ref a7])), (a1, .inr (1, [.ref a2])), (a2, .inl (cI, 132, .inl R)), (a5, .inr (0, [.ref a6, .int HS, .int HN])), (a6, .inl (cI, 660, .inl HR)), (a7, .inr (2, [.ref a8, .int LN, .int PS, .ref a9, .ref a10, .ref a11, .int CM])), (a8, .inl (cI, 80, .inl TB)), (a9, .inl (cI, 20, .inl TC)), (a10, .inl (cI, 20, .inl TW)), (a11, .inl (cI, 20, .inl TG))]) (w2 := (wX3 cI a0 a1 a2 a3 a4 a5 a6 a7 a8 a9 a10 a11 R v41.2 HR HS HN TB LN PS TC TW TG CM)) (krunV (wc := (wX1 cI a3 a4 t23.1)) (As := []) (rest := []) (ci := 1) hx hb hml hown hts hK (kX1_passTick l D cI fu a3 a4 t23.1 v41 h42) gX3_foretoldWaits_X1_passTick rfl rfl rfl hdX1_passTick ⟨Nat.le_of_ble_eq_true rfl, Nat.le_of_ble_eq_true rfl⟩ (hP.sub [3, 4] rfl) (hD.sub [3, 4] (by decide) rfl) rfl rfl rfl rfl hl.1 rfl (Nat.le_of_ble_eq_true rfl) dX3_foretoldWaits_43 ⟨Nat.zero_le _, Nat.zero_le _⟩) hP hD hS hA [3, 4] [0, 1, 2, 5, 6, 7, 8, 9, 10, 11] [0, 1, 2, 10, 11, 3, 4, 5, 6, 7, 8, 9] rfl rfl (by decide) (by decide) (by decide) rfl (fun H locs hP hD hS => ?_)
    refine kif_neb (tgt := 71) hx hb dX3_foretoldWaits_46 (by decide) (fun c43 => ?_) (fun c43 => ?_)
    · have hf := kIfT c43 hf
      refine lv_iinc (v := t23.2 + (1 : Int32)) (lv' := [(4, .int (t23.2 + (1 : Int32))), (5, .int v39), (3, .int v33), (0, .ref a0), (1, .int x1), (2, .int x2)]) hx hb dX3_foretoldWaits_71 hl (k := 1) rfl rfl (by decide) rfl (fun ls hl => ?_)
      refine lv_goto (tgt := 23) hx hb dX3_foretoldWaits_74 (by decide) ?_
      obtain ⟨z44, hz44⟩ : ∃ z : Int32, z = t23.2 + (1 : Int32) := ⟨_, rfl⟩
      rw [← hz44] at hf
      have he := (Option.some.inj hf).symm
      have hl : lv_has ls 6 [(4, .int z44), (3, .int v33), (0, .ref a0), (1, .int x1), (2, .int x2)] := by rw [hz44]; exact lv_sub hl [0, 2, 3, 4, 5] rfl
      exact hI1 _ he H locs ls hP hD hS hl
    · have hf := kIfF c43 hf
      refine lv_iload hx hb dX3_foretoldWaits_49 (lv_at hl 0 rfl) ?_
      refine lv_iload_n hx hb dX3_foretoldWaits_51 rfl (lv_at hl 2 rfl) ?_
      refine lv_isub hx hb dX3_foretoldWaits_52 ?_
      refine lv_iload_n hx hb dX3_foretoldWaits_53 rfl (lv_at hl 5 rfl) ?_
      refine lv_iload hx hb dX3_foretoldWaits_54 (lv_at hl 1 rfl) ?_
      refine lv_isub hx hb dX3_foretoldWaits_56 ?_
      refine lv_aload_n hx hb dX3_foretoldWaits_57 rfl (lv_at hl 3 rfl) ?_
      refine va_get (D := D) (ci := 3) (v := .ref a3) (C := RX3) (T := TX3) (N := 4) hx hb hts hinX3 hown hK.1 hP 0 rfl rfl 1 (by decide) hfl16 (fun _ h9 => h9) rfl dX3_foretoldWaits_58 ?_
      refine lv_iload_n hx hb dX3_foretoldWaits_61 rfl (lv_at hl 4 rfl) ?_
      obtain ⟨v45, h46, hf⟩ := kBind hf
      refine kgoR (krunV (wc := (wX1 cI a3 a4 v41.2)) (As := [.int x1]) (rest := [.int (x2 - t23.2), .int (v39 - v33)]) (ci := 1) hx hb hml hown hts hK (kX1_waitOf l D cI a3 a4 v41.2 x1 v45 h46) gX3_foretoldWaits_X1_waitOf rfl rfl rfl hdX1_waitOf ⟨Nat.le_of_ble_eq_true rfl, Nat.le_of_ble_eq_true rfl⟩ (hP.sub [3, 4] rfl) (hD.sub [3, 4] (by decide) rfl) rfl rfl rfl rfl hl.1 rfl (Nat.le_of_ble_eq_true rfl) dX3_foretoldWaits_62 ⟨Nat.zero_le _, Nat.zero_le _⟩) hP hD hS hA [3, 4] rfl (fun H locs hP hS => ?_)
      refine lv_iload hx hb dX3_foretoldWaits_65 (lv_at hl 0 rfl) ?_
      refine lv_isub hx hb dX3_foretoldWaits_67 ?_
      refine lv_imul hx hb dX3_foretoldWaits_68 ?_
      refine lv_iadd hx hb dX3_foretoldWaits_69 ?_
      obtain ⟨z47, hz47⟩ : ∃ z : Int32, z = (v39 - v33) + ((x2 - t23.2) * (v45 - v39)) := ⟨_, rfl⟩
      rw [← hz47] at hf
      rw [← hz47]
      have he := Option.some.inj hf
      have he := hO1 _ he.symm
      subst he
      exact kreti hx hb hr hlk hP hD hS dX3_foretoldWaits_70
set_option maxHeartbeats 4000000 in
set_option maxRecDepth 100000 in
theorem kX3_waits (l : Launch) (D : va_G) (cI : ClassId) (fu : Nat) (a0 a1 a2 a3 a4 a5 a6 a7 a8 a9 a10 a11 : Nat) (R : (Nat → Int32)) (R2 : (Nat → Int32)) (HR : (Nat → Int32)) (HS : Int32) (HN : Int32) (TB : (Nat → Int32)) (LN : Int32) (PS : Int32) (TC : (Nat → Int32)) (TW : (Nat → Int32)) (TG : (Nat → Int32)) (CM : Int32) (x1 : Int32) (x2 : Int32) (o : Int32 × (Nat → Int32)) (hf : fX3_waits fu R R2 x1 x2 = some o) : Ct l yX3_waits wsX3_waits { frames := 6, cells := 0, slots := 0, locals := 140 } D cI [.ref a0, .int x1, .int x2] (wX3 cI a0 a1 a2 a3 a4 a5 a6 a7 a8 a9 a10 a11 R R2 HR HS HN TB LN PS TC TW TG CM) (wX3 cI a0 a1 a2 a3 a4 a5 a6 a7 a8 a9 a10 a11 R o.2 HR HS HN TB LN PS TC TW TG CM) (some (.int o.1)) := by
  refine Ct.of (cc := cX3_waits) (maxL := 3) (ret := (some .int)) (by decide) rfl (Nat.le_of_ble_eq_true rfl) ?_
  intro p e s m args below meth c A F hP hD hS ls hl
  obtain ⟨hx, hb, hml, hr, hown, hts, hlk, hK, hA⟩ := F
  have hown : s.vm.findClass RX3 = some m.cls := hown
  have hl : lv_has ls 3 [(0, .ref a0), (1, .int x1), (2, .int x2)] := hl
  have hinX3 : ∀ w ∈ wsX30, w ∈ wsX3_waits := by decide +kernel
  have hfl10 := hts (.fieldLink RX3 10 "CraneGuard" "site" "LCraneGuard$Site;") (by decide +kernel)
  unfold fX3_waits at hf
  refine lv_aload_n hx hb dX3_waits_0 rfl (lv_at hl 0 rfl) ?_
  refine va_get (D := D) (ci := 3) (v := .ref a1) (C := RX3) (T := TX3) (N := 4) hx hb hts hinX3 hown hK.1 hP 0 rfl rfl 0 (by decide) hfl10 (fun _ h9 => h9) rfl dX3_waits_1 ?_
  refine lv_iload_n hx hb dX3_waits_4 rfl (lv_at hl 1 rfl) ?_
  obtain ⟨v8, h9, hf⟩ := kBind hf
  refine kgoR (krunV (wc := (wX1 cI a1 a2 R)) (As := [.int x1]) (rest := []) (ci := 1) hx hb hml hown hts hK (kX1_hasCrane l D cI a1 a2 R x1 v8 h9) gX3_waits_X1_hasCrane rfl rfl rfl hdX1_hasCrane ⟨Nat.le_of_ble_eq_true rfl, Nat.le_of_ble_eq_true rfl⟩ (hP.sub [1, 2] rfl) (hD.sub [1, 2] (by decide) rfl) rfl rfl rfl rfl hl.1 rfl (Nat.le_of_ble_eq_true rfl) dX3_waits_5 ⟨Nat.zero_le _, Nat.zero_le _⟩) hP hD hS hA [1, 2] rfl (fun H locs hP hS => ?_)
  refine kif_neb (tgt := 14) hx hb dX3_waits_8 (by decide) (fun c10 => ?_) (fun c10 => ?_)
  · have hf := kIfT c10 hf
    refine lv_iload_n hx hb dX3_waits_14 rfl (lv_at hl 2 rfl) ?_
    refine lv_iconst (v := (1 : Int32)) hx hb dX3_waits_15 (by decide) ?_
    refine lv_icmp_lt (tgt := 26) hx hb dX3_waits_16 (by decide) (fun c11 => ?_) (fun c11 => ?_)
    · have hf := kIfT c11 hf
      refine lv_bipush (v := (-102 : Int32)) hx hb dX3_waits_26 (by decide) ?_
      have he := Option.some.inj hf
      subst he
      exact kreti hx hb hr hlk hP hD hS dX3_waits_28
    · have hf := kIfF c11 hf
      refine lv_iload_n hx hb dX3_waits_19 rfl (lv_at hl 2 rfl) ?_
      refine lv_sipush (v := (1000 : Int32)) hx hb dX3_waits_20 (by decide) ?_
      refine lv_icmp_le (tgt := 29) hx hb dX3_waits_23 (by decide) (fun c12 => ?_) (fun c12 => ?_)
      · have hf := kIfT c12 hf
        refine lv_aload_n hx hb dX3_waits_29 rfl (lv_at hl 0 rfl) ?_
        refine lv_iload_n hx hb dX3_waits_30 rfl (lv_at hl 1 rfl) ?_
        refine lv_iload_n hx hb dX3_waits_31 rfl (lv_at hl 2 rfl) ?_
        obtain ⟨v13, h14, hf⟩ := kBind hf
        refine kgoA (krunV (wc := (wX3 cI a0 a1 a2 a3 a4 a5 a6 a7 a8 a9 a10 a11 R R2 HR HS HN TB LN PS TC TW TG CM)) (As := [.int x1, .int x2]) (rest := []) (ci := 3) hx hb hml hown hts hK (kX3_foretoldWaits l D cI fu a0 a1 a2 a3 a4 a5 a6 a7 a8 a9 a10 a11 R R2 HR HS HN TB LN PS TC TW TG CM x1 x2 v13 h14) gX3_waits_X3_foretoldWaits rfl rfl rfl hdX3_foretoldWaits ⟨Nat.le_of_ble_eq_true rfl, Nat.le_of_ble_eq_true rfl⟩ hP hD rfl rfl rfl rfl hl.1 rfl (Nat.le_of_ble_eq_true rfl) dX3_waits_32 ⟨Nat.zero_le _, Nat.zero_le _⟩) hD hS hA (fun H locs hP hD hS => ?_)
        have he := Option.some.inj hf
        subst he
        exact kreti hx hb hr hlk hP hD hS dX3_waits_35
      · have hf := kIfF c12 hf
        refine lv_bipush (v := (-102 : Int32)) hx hb dX3_waits_26 (by decide) ?_
        have he := Option.some.inj hf
        subst he
        exact kreti hx hb hr hlk hP hD hS dX3_waits_28
  · have hf := kIfF c10 hf
    refine lv_bipush (v := (-101 : Int32)) hx hb dX3_waits_11 (by decide) ?_
    have he := Option.some.inj hf
    subst he
    exact kreti hx hb hr hlk hP hD hS dX3_waits_13
set_option maxHeartbeats 4000000 in
set_option maxRecDepth 100000 in
theorem kX3_allDone (l : Launch) (D : va_G) (cI : ClassId) (fu : Nat) (a0 a1 a2 a3 a4 a5 a6 a7 a8 a9 a10 a11 : Nat) (R : (Nat → Int32)) (R2 : (Nat → Int32)) (HR : (Nat → Int32)) (HS : Int32) (HN : Int32) (TB : (Nat → Int32)) (LN : Int32) (PS : Int32) (TC : (Nat → Int32)) (TW : (Nat → Int32)) (TG : (Nat → Int32)) (CM : Int32) (o : Int32 × (Nat → Int32)) (hf : fX3_allDone fu R R2 = some o) : Ct l yX3_allDone wsX3_allDone { frames := 6, cells := 0, slots := 0, locals := 137 } D cI [.ref a0] (wX3 cI a0 a1 a2 a3 a4 a5 a6 a7 a8 a9 a10 a11 R R2 HR HS HN TB LN PS TC TW TG CM) (wX3 cI a0 a1 a2 a3 a4 a5 a6 a7 a8 a9 a10 a11 R o.2 HR HS HN TB LN PS TC TW TG CM) (some (.int o.1)) := by
  refine Ct.of (cc := cX3_allDone) (maxL := 1) (ret := (some .int)) (by decide) rfl (Nat.le_of_ble_eq_true rfl) ?_
  intro p e s m args below meth c A F hP hD hS ls hl
  obtain ⟨hx, hb, hml, hr, hown, hts, hlk, hK, hA⟩ := F
  have hown : s.vm.findClass RX3 = some m.cls := hown
  have hl : lv_has ls 1 [(0, .ref a0)] := hl
  unfold fX3_allDone at hf
  refine lv_aload_n hx hb dX3_allDone_0 rfl (lv_at hl 0 rfl) ?_
  refine lv_bipush (v := (15 : Int32)) hx hb dX3_allDone_1 (by decide) ?_
  obtain ⟨v3, h4, hf⟩ := kBind hf
  refine kgoA (krunV (wc := (wX3 cI a0 a1 a2 a3 a4 a5 a6 a7 a8 a9 a10 a11 R R2 HR HS HN TB LN PS TC TW TG CM)) (As := [.int (15 : Int32)]) (rest := []) (ci := 3) hx hb hml hown hts hK (kX3_ticksUntilDone l D cI fu a0 a1 a2 a3 a4 a5 a6 a7 a8 a9 a10 a11 R R2 HR HS HN TB LN PS TC TW TG CM (15 : Int32) v3 h4) gX3_allDone_X3_ticksUntilDone rfl rfl rfl hdX3_ticksUntilDone ⟨Nat.le_of_ble_eq_true rfl, Nat.le_of_ble_eq_true rfl⟩ hP hD rfl rfl rfl rfl hl.1 rfl (Nat.le_of_ble_eq_true rfl) dX3_allDone_3 ⟨Nat.zero_le _, Nat.zero_le _⟩) hD hS hA (fun H locs hP hD hS => ?_)
  have he := Option.some.inj hf
  subst he
  exact kreti hx hb hr hlk hP hD hS dX3_allDone_6
set_option maxHeartbeats 4000000 in
set_option maxRecDepth 100000 in
theorem kX3_time (l : Launch) (D : va_G) (cI : ClassId) (a0 a1 a2 a3 a4 a5 a6 a7 a8 a9 a10 a11 : Nat) (R : (Nat → Int32)) (R2 : (Nat → Int32)) (HR : (Nat → Int32)) (HS : Int32) (HN : Int32) (TB : (Nat → Int32)) (LN : Int32) (PS : Int32) (TC : (Nat → Int32)) (TW : (Nat → Int32)) (TG : (Nat → Int32)) (CM : Int32) (o : Int32) (hf : fX3_time R = some o) : Ct l yX3_time wsX3_time { frames := 1, cells := 0, slots := 0, locals := 20 } D cI [.ref a0] (wX3 cI a0 a1 a2 a3 a4 a5 a6 a7 a8 a9 a10 a11 R R2 HR HS HN TB LN PS TC TW TG CM) (wX3 cI a0 a1 a2 a3 a4 a5 a6 a7 a8 a9 a10 a11 R R2 HR HS HN TB LN PS TC TW TG CM) (some (.int o)) := by
  refine Ct.of (cc := cX3_time) (maxL := 1) (ret := (some .int)) (by decide) rfl (Nat.le_of_ble_eq_true rfl) ?_
  intro p e s m args below meth c A F hP hD hS ls hl
  obtain ⟨hx, hb, hml, hr, hown, hts, hlk, hK, hA⟩ := F
  have hown : s.vm.findClass RX3 = some m.cls := hown
  have hl : lv_has ls 1 [(0, .ref a0)] := hl
  have hinX3 : ∀ w ∈ wsX30, w ∈ wsX3_time := by decide +kernel
  have hfl10 := hts (.fieldLink RX3 10 "CraneGuard" "site" "LCraneGuard$Site;") (by decide +kernel)
  unfold fX3_time at hf
  refine lv_aload_n hx hb dX3_time_0 rfl (lv_at hl 0 rfl) ?_
  refine va_get (D := D) (ci := 3) (v := .ref a1) (C := RX3) (T := TX3) (N := 4) hx hb hts hinX3 hown hK.1 hP 0 rfl rfl 0 (by decide) hfl10 (fun _ h9 => h9) rfl dX3_time_1 ?_
  obtain ⟨v3, h4, hf⟩ := kBind hf
  refine kgoR (krunV (wc := (wX1 cI a1 a2 R)) (As := []) (rest := []) (ci := 1) hx hb hml hown hts hK (kX1_now l D cI a1 a2 R v3 h4) gX3_time_X1_now rfl rfl rfl hdX1_now ⟨Nat.le_of_ble_eq_true rfl, Nat.le_of_ble_eq_true rfl⟩ (hP.sub [1, 2] rfl) (hD.sub [1, 2] (by decide) rfl) rfl rfl rfl rfl hl.1 rfl (Nat.le_of_ble_eq_true rfl) dX3_time_4 ⟨Nat.zero_le _, Nat.zero_le _⟩) hP hD hS hA [1, 2] rfl (fun H locs hP hS => ?_)
  have he := Option.some.inj hf
  subst he
  exact kreti hx hb hr hlk hP hD hS dX3_time_7
set_option maxHeartbeats 4000000 in
set_option maxRecDepth 100000 in
theorem kX0_isEmpty (l : Launch) (D : va_G) (cI : ClassId) (a0 a1 : Nat) (HR : (Nat → Int32)) (HS : Int32) (HN : Int32) (o : Bool) (hf : fX0_isEmpty HS = some o) : Ct l yX0_isEmpty wsX0_isEmpty { frames := 0, cells := 0, slots := 0, locals := 0 } D cI [.ref a0] (wX0 cI a0 a1 HR HS HN) (wX0 cI a0 a1 HR HS HN) (some (.int (bI o))) := by
  refine Ct.of (cc := cX0_isEmpty) (maxL := 1) (ret := (some .boolean)) (by decide) rfl (Nat.le_of_ble_eq_true rfl) ?_
  intro p e s m args below meth c A F hP hD hS ls hl
  obtain ⟨hx, hb, hml, hr, hown, hts, hlk, hK, hA⟩ := F
  have hown : s.vm.findClass RX0 = some m.cls := hown
  have hl : lv_has ls 1 [(0, .ref a0)] := hl
  have hinX0 : ∀ w ∈ wsX00, w ∈ wsX0_isEmpty := by decide +kernel
  have hfl15 := hts (.fieldLink RX0 15 "CraneGuard$History" "size" "I") (by decide +kernel)
  unfold fX0_isEmpty at hf
  refine lv_aload_n hx hb dX0_isEmpty_0 rfl (lv_at hl 0 rfl) ?_
  refine va_get (D := D) (ci := 0) (v := .int HS) (C := RX0) (T := TX0) (N := 3) hx hb hts hinX0 hown hK.1 hP 0 rfl rfl 1 (by decide) hfl15 (fun _ h9 => h9) rfl dX0_isEmpty_1 ?_
  refine lv_if_ne (tgt := 11) hx hb dX0_isEmpty_4 (by decide) (fun c2 => ?_) (fun c2 => ?_)
  · have hf := kIfF c2 hf
    refine lv_iconst (v := (0 : Int32)) hx hb dX0_isEmpty_11 (by decide) ?_
    have he := Option.some.inj hf
    subst he
    exact kretz hx hb hr hlk hP hD hS dX0_isEmpty_12
  · have hf := kIfT c2 hf
    refine lv_iconst (v := (1 : Int32)) hx hb dX0_isEmpty_7 (by decide) ?_
    refine lv_goto (tgt := 12) hx hb dX0_isEmpty_8 (by decide) ?_
    have he := Option.some.inj hf
    subst he
    exact kretz hx hb hr hlk hP hD hS dX0_isEmpty_12
