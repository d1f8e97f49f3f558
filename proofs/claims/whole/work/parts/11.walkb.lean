set_option maxHeartbeats 4000000 in
set_option maxRecDepth 100000 in
theorem kX1_blockersLeadBackTo (l : Launch) (D : va_G) (cI : ClassId) (fu : Nat) (a0 a1 : Nat) (R : (Nat → Int32)) (x1 : Int32) (o : Bool) (hf : fX1_blockersLeadBackTo fu R x1 = some o) : Ct l yX1_blockersLeadBackTo wsX1_blockersLeadBackTo { frames := 3, cells := 0, slots := 0, locals := 71 } D cI [.ref a0, .int x1] (wX1 cI a0 a1 R) (wX1 cI a0 a1 R) (some (.int (bI o))) := by
  refine Ct.of (cc := cX1_blockersLeadBackTo) (maxL := 4) (ret := (some .boolean)) (by decide) rfl (Nat.le_of_ble_eq_true rfl) ?_
  intro p e s m args below meth c A F hP hD hS ls hl
  obtain ⟨hx, hb, hml, hr, hown, hts, hlk, hK, hA⟩ := F
  have hown : s.vm.findClass RX1 = some m.cls := hown
  have hl : lv_has ls 4 [(0, .ref a0), (1, .int x1)] := hl
  unfold fX1_blockersLeadBackTo at hf
  refine lv_iload_n hx hb dX1_blockersLeadBackTo_0 rfl (lv_at hl 1 rfl) ?_
  refine lv_istore_n (lv' := [(2, .int x1), (0, .ref a0), (1, .int x1)]) hx hb dX1_blockersLeadBackTo_1 rfl hl (by decide) rfl (fun ls hl => ?_)
  refine lv_iconst (v := (0 : Int32)) hx hb dX1_blockersLeadBackTo_2 (by decide) ?_
  refine lv_istore_n (lv' := [(3, .int (0 : Int32)), (2, .int x1), (0, .ref a0), (1, .int x1)]) hx hb dX1_blockersLeadBackTo_3 rfl hl (by decide) rfl (fun ls hl => ?_)
  have hl : lv_has ls 4 [(3, .int (0 : Int32)), (2, .int x1), (0, .ref a0), (1, .int x1)] := hl
  refine klp hf (fun t4 : Int32 × Int32 => (wX1 cI a0 a1 R)) 4 (fun t4 : Int32 × Int32 => [(3, .int t4.2), (2, .int t4.1), (0, .ref a0), (1, .int x1)]) ?_ hP hD hS hl
  intro t4 x4_ hf hI1 hO1 H locs ls hP hD hS hl
  unfold fX1_blockersLeadBackTo_L4 at hf
  have hP : va_P D vwCl (wX1 cI a0 a1 R) H := hP
  have hD : va_D A (wX1 cI a0 a1 R) := hD
  have hl : lv_has ls 4 [(3, .int t4.2), (2, .int t4.1), (0, .ref a0), (1, .int x1)] := hl
  refine lv_iload_n hx hb dX1_blockersLeadBackTo_4 rfl (lv_at hl 0 rfl) ?_
  refine lv_iconst (v := (4 : Int32)) hx hb dX1_blockersLeadBackTo_5 (by decide) ?_
  refine lv_icmp_ge (tgt := 43) hx hb dX1_blockersLeadBackTo_6 (by decide) (fun c9 => ?_) (fun c9 => ?_)
  · have hf := kIfT c9 hf
    refine lv_iconst (v := (0 : Int32)) hx hb dX1_blockersLeadBackTo_43 (by decide) ?_
    have he := Option.some.inj hf
    have he := hO1 _ he.symm
    subst he
    exact kretz hx hb hr hlk hP hD hS dX1_blockersLeadBackTo_44
  · have hf := kIfF c9 hf
    refine lv_aload_n hx hb dX1_blockersLeadBackTo_9 rfl (lv_at hl 2 rfl) ?_
    refine lv_iload_n hx hb dX1_blockersLeadBackTo_10 rfl (lv_at hl 1 rfl) ?_
    obtain ⟨v10, h11, hf⟩ := kBind hf
    refine kgoR (krunV (wc := (wX1 cI a0 a1 R)) (As := [.int t4.1]) (rest := []) (ci := 1) hx hb hml hown hts hK (kX1_blockerOf l D cI fu a0 a1 R t4.1 v10 h11) gX1_blockersLeadBackTo_X1_blockerOf rfl rfl rfl hdX1_blockerOf ⟨Nat.le_of_ble_eq_true rfl, Nat.le_of_ble_eq_true rfl⟩ hP hD rfl rfl rfl rfl hl.1 rfl (Nat.le_of_ble_eq_true rfl) dX1_blockersLeadBackTo_11 ⟨Nat.zero_le _, Nat.zero_le _⟩) hP hD hS hA [0, 1] rfl (fun H locs hP hS => ?_)
    refine lv_istore_n (lv' := [(2, .int v10), (3, .int t4.2), (0, .ref a0), (1, .int x1)]) hx hb dX1_blockersLeadBackTo_14 rfl hl (by decide) rfl (fun ls hl => ?_)
    refine lv_iload_n hx hb dX1_blockersLeadBackTo_15 rfl (lv_at hl 0 rfl) ?_
    refine lv_bipush (v := (-100 : Int32)) hx hb dX1_blockersLeadBackTo_16 (by decide) ?_
    refine lv_icmp_eq (tgt := 26) hx hb dX1_blockersLeadBackTo_18 (by decide) (fun c12 => ?_) (fun c12 => ?_)
    · have hf := kIfT c12 hf
      refine lv_iload_n hx hb dX1_blockersLeadBackTo_26 rfl (lv_at hl 0 rfl) ?_
      refine lv_iload_n hx hb dX1_blockersLeadBackTo_27 rfl (lv_at hl 3 rfl) ?_
      refine lv_icmp_ne (tgt := 35) hx hb dX1_blockersLeadBackTo_28 (by decide) (fun c13 => ?_) (fun c13 => ?_)
      · have hf := kIfF c13 hf
        refine lv_iconst (v := (0 : Int32)) hx hb dX1_blockersLeadBackTo_35 (by decide) ?_
        have he := Option.some.inj hf
        have he := hO1 _ he.symm
        subst he
        exact kretz hx hb hr hlk hP hD hS dX1_blockersLeadBackTo_36
      · have hf := kIfT c13 hf
        refine lv_iconst (v := (1 : Int32)) hx hb dX1_blockersLeadBackTo_31 (by decide) ?_
        refine lv_goto (tgt := 36) hx hb dX1_blockersLeadBackTo_32 (by decide) ?_
        have he := Option.some.inj hf
        have he := hO1 _ he.symm
        subst he
        exact kretz hx hb hr hlk hP hD hS dX1_blockersLeadBackTo_36
    · have hf := kIfF c12 hf
      refine lv_iload_n hx hb dX1_blockersLeadBackTo_21 rfl (lv_at hl 0 rfl) ?_
      refine lv_iload_n hx hb dX1_blockersLeadBackTo_22 rfl (lv_at hl 3 rfl) ?_
      refine lv_icmp_ne (tgt := 37) hx hb dX1_blockersLeadBackTo_23 (by decide) (fun c14 => ?_) (fun c14 => ?_)
      · have hf := kIfF c14 hf
        refine lv_iinc (v := t4.2 + (1 : Int32)) (lv' := [(3, .int (t4.2 + (1 : Int32))), (2, .int v10), (0, .ref a0), (1, .int x1)]) hx hb dX1_blockersLeadBackTo_37 hl (k := 1) rfl rfl (by decide) rfl (fun ls hl => ?_)
        refine lv_goto (tgt := 4) hx hb dX1_blockersLeadBackTo_40 (by decide) ?_
        obtain ⟨z15, hz15⟩ : ∃ z : Int32, z = t4.2 + (1 : Int32) := ⟨_, rfl⟩
        rw [← hz15] at hf
        have he := (Option.some.inj hf).symm
        have hl : lv_has ls 4 [(3, .int z15), (2, .int v10), (0, .ref a0), (1, .int x1)] := by rw [hz15]; exact lv_sub hl [0, 1, 2, 3] rfl
        exact hI1 _ he H locs ls hP hD hS hl
      · have hf := kIfT c14 hf
        refine lv_iload_n hx hb dX1_blockersLeadBackTo_26 rfl (lv_at hl 0 rfl) ?_
        refine lv_iload_n hx hb dX1_blockersLeadBackTo_27 rfl (lv_at hl 3 rfl) ?_
        refine lv_icmp_ne (tgt := 35) hx hb dX1_blockersLeadBackTo_28 (by decide) (fun c16 => ?_) (fun c16 => ?_)
        · have hf := kIfF c16 hf
          refine lv_iconst (v := (0 : Int32)) hx hb dX1_blockersLeadBackTo_35 (by decide) ?_
          have he := Option.some.inj hf
          have he := hO1 _ he.symm
          subst he
          exact kretz hx hb hr hlk hP hD hS dX1_blockersLeadBackTo_36
        · have hf := kIfT c16 hf
          refine lv_iconst (v := (1 : Int32)) hx hb dX1_blockersLeadBackTo_31 (by decide) ?_
          refine lv_goto (tgt := 36) hx hb dX1_blockersLeadBackTo_32 (by decide) ?_
          have he := Option.some.inj hf
          have he := hO1 _ he.symm
          subst he
          exact kretz hx hb hr hlk hP hD hS dX1_blockersLeadBackTo_36
set_option maxHeartbeats 4000000 in
set_option maxRecDepth 100000 in
theorem kX1_canAim (l : Launch) (D : va_G) (cI : ClassId) (a0 a1 : Nat) (R : (Nat → Int32)) (x1 : Int32) (o : Bool) (hf : fX1_canAim R x1 = some o) : Ct l yX1_canAim wsX1_canAim { frames := 1, cells := 0, slots := 0, locals := 21 } D cI [.ref a0, .int x1] (wX1 cI a0 a1 R) (wX1 cI a0 a1 R) (some (.int (bI o))) := by
  refine Ct.of (cc := cX1_canAim) (maxL := 2) (ret := (some .boolean)) (by decide) rfl (Nat.le_of_ble_eq_true rfl) ?_
  intro p e s m args below meth c A F hP hD hS ls hl
  obtain ⟨hx, hb, hml, hr, hown, hts, hlk, hK, hA⟩ := F
  have hown : s.vm.findClass RX1 = some m.cls := hown
  have hl : lv_has ls 2 [(0, .ref a0), (1, .int x1)] := hl
  unfold fX1_canAim at hf
  refine lv_aload_n hx hb dX1_canAim_0 rfl (lv_at hl 0 rfl) ?_
  refine lv_iload_n hx hb dX1_canAim_1 rfl (lv_at hl 1 rfl) ?_
  obtain ⟨v1, h2, hf⟩ := kBind hf
  refine kgoR (krunV (wc := (wX1 cI a0 a1 R)) (As := [.int x1]) (rest := []) (ci := 1) hx hb hml hown hts hK (kX1_isOnStep l D cI a0 a1 R x1 v1 h2) gX1_canAim_X1_isOnStep rfl rfl rfl hdX1_isOnStep ⟨Nat.le_of_ble_eq_true rfl, Nat.le_of_ble_eq_true rfl⟩ hP hD rfl rfl rfl rfl hl.1 rfl (Nat.le_of_ble_eq_true rfl) dX1_canAim_2 ⟨Nat.zero_le _, Nat.zero_le _⟩) hP hD hS hA [0, 1] rfl (fun H locs hP hS => ?_)
  refine kif_neb (tgt := 20) hx hb dX1_canAim_5 (by decide) (fun c3 => ?_) (fun c3 => ?_)
  · have hf := kIfT c3 hf
    refine lv_iconst (v := (0 : Int32)) hx hb dX1_canAim_20 (by decide) ?_
    have he := Option.some.inj hf
    subst he
    exact kretz hx hb hr hlk hP hD hS dX1_canAim_21
  · have hf := kIfF c3 hf
    refine lv_aload_n hx hb dX1_canAim_8 rfl (lv_at hl 0 rfl) ?_
    refine lv_iload_n hx hb dX1_canAim_9 rfl (lv_at hl 1 rfl) ?_
    obtain ⟨v4, h5, hf⟩ := kBind hf
    refine kgoR (krunV (wc := (wX1 cI a0 a1 R)) (As := [.int x1]) (rest := []) (ci := 1) hx hb hml hown hts hK (kX1_isLeft l D cI a0 a1 R x1 v4 h5) gX1_canAim_X1_isLeft rfl rfl rfl hdX1_isLeft ⟨Nat.le_of_ble_eq_true rfl, Nat.le_of_ble_eq_true rfl⟩ hP hD rfl rfl rfl rfl hl.1 rfl (Nat.le_of_ble_eq_true rfl) dX1_canAim_10 ⟨Nat.zero_le _, Nat.zero_le _⟩) hP hD hS hA [0, 1] rfl (fun H locs hP hS => ?_)
    refine kif_neb (tgt := 20) hx hb dX1_canAim_13 (by decide) (fun c6 => ?_) (fun c6 => ?_)
    · have hf := kIfT c6 hf
      refine lv_iconst (v := (0 : Int32)) hx hb dX1_canAim_20 (by decide) ?_
      have he := Option.some.inj hf
      subst he
      exact kretz hx hb hr hlk hP hD hS dX1_canAim_21
    · have hf := kIfF c6 hf
      refine lv_iconst (v := (1 : Int32)) hx hb dX1_canAim_16 (by decide) ?_
      refine lv_goto (tgt := 21) hx hb dX1_canAim_17 (by decide) ?_
      have he := Option.some.inj hf
      subst he
      exact kretz hx hb hr hlk hP hD hS dX1_canAim_21
set_option maxHeartbeats 4000000 in
set_option maxRecDepth 100000 in
theorem kX1_canBeLeft (l : Launch) (D : va_G) (cI : ClassId) (fu : Nat) (a0 a1 : Nat) (R : (Nat → Int32)) (x1 : Int32) (o : Bool) (hf : fX1_canBeLeft fu R x1 = some o) : Ct l yX1_canBeLeft wsX1_canBeLeft { frames := 2, cells := 0, slots := 0, locals := 48 } D cI [.ref a0, .int x1] (wX1 cI a0 a1 R) (wX1 cI a0 a1 R) (some (.int (bI o))) := by
  refine Ct.of (cc := cX1_canBeLeft) (maxL := 4) (ret := (some .boolean)) (by decide) rfl (Nat.le_of_ble_eq_true rfl) ?_
  intro p e s m args below meth c A F hP hD hS ls hl
  obtain ⟨hx, hb, hml, hr, hown, hts, hlk, hK, hA⟩ := F
  have hown : s.vm.findClass RX1 = some m.cls := hown
  have hl : lv_has ls 4 [(0, .ref a0), (1, .int x1)] := hl
  have hinX1 : ∀ w ∈ wsX10, w ∈ wsX1_canBeLeft := by decide +kernel
  have hfl11 := hts (.fieldLink RX1 11 "CraneGuard$Site" "row" "[I") (by decide +kernel)
  unfold fX1_canBeLeft at hf
  refine lv_aload_n hx hb dX1_canBeLeft_0 rfl (lv_at hl 0 rfl) ?_
  refine lv_iload_n hx hb dX1_canBeLeft_1 rfl (lv_at hl 1 rfl) ?_
  obtain ⟨v1, h2, hf⟩ := kBind hf
  refine kgoR (krunV (wc := (wX1 cI a0 a1 R)) (As := [.int x1]) (rest := []) (ci := 1) hx hb hml hown hts hK (kX1_zonesWithArc l D cI fu a0 a1 R x1 v1 h2) gX1_canBeLeft_X1_zonesWithArc rfl rfl rfl hdX1_zonesWithArc ⟨Nat.le_of_ble_eq_true rfl, Nat.le_of_ble_eq_true rfl⟩ hP hD rfl rfl rfl rfl hl.1 rfl (Nat.le_of_ble_eq_true rfl) dX1_canBeLeft_2 ⟨Nat.zero_le _, Nat.zero_le _⟩) hP hD hS hA [0, 1] rfl (fun H locs hP hS => ?_)
  refine lv_istore_n (lv' := [(2, .int v1), (0, .ref a0), (1, .int x1)]) hx hb dX1_canBeLeft_5 rfl hl (by decide) rfl (fun ls hl => ?_)
  refine lv_iconst (v := (0 : Int32)) hx hb dX1_canBeLeft_6 (by decide) ?_
  refine lv_istore_n (lv' := [(3, .int (0 : Int32)), (2, .int v1), (0, .ref a0), (1, .int x1)]) hx hb dX1_canBeLeft_7 rfl hl (by decide) rfl (fun ls hl => ?_)
  have hl : lv_has ls 4 [(3, .int (0 : Int32)), (2, .int v1), (0, .ref a0), (1, .int x1)] := hl
  refine klp hf (fun t8 : Int32 => (wX1 cI a0 a1 R)) 4 (fun t8 : Int32 => [(3, .int t8), (2, .int v1), (0, .ref a0), (1, .int x1)]) ?_ hP hD hS hl
  intro t8 x8_ hf hI1 hO1 H locs ls hP hD hS hl
  unfold fX1_canBeLeft_L8 at hf
  have hP : va_P D vwCl (wX1 cI a0 a1 R) H := hP
  have hD : va_D A (wX1 cI a0 a1 R) := hD
  have hl : lv_has ls 4 [(3, .int t8), (2, .int v1), (0, .ref a0), (1, .int x1)] := hl
  refine lv_iload_n hx hb dX1_canBeLeft_8 rfl (lv_at hl 0 rfl) ?_
  refine lv_aload_n hx hb dX1_canBeLeft_9 rfl (lv_at hl 2 rfl) ?_
  refine va_get (D := D) (ci := 1) (v := .ref a1) (C := RX1) (T := TX1) (N := 1) hx hb hts hinX1 hown hK.1 hP 0 rfl rfl 0 (by decide) hfl11 (fun _ h9 => h9) rfl dX1_canBeLeft_10 ?_
  refine lv_iconst (v := (2 : Int32)) hx hb dX1_canBeLeft_13 (by decide) ?_
  obtain ⟨v15, h16, hf⟩ := kBind hf
  refine krd hx hb hK hP 1 rfl h16 dX1_canBeLeft_14 ?_
  refine lv_icmp_ge (tgt := 41) hx hb dX1_canBeLeft_15 (by decide) (fun c17 => ?_) (fun c17 => ?_)
  · have hf := kIfT c17 hf
    refine lv_aload_n hx hb dX1_canBeLeft_41 rfl (lv_at hl 2 rfl) ?_
    refine lv_iload_n hx hb dX1_canBeLeft_42 rfl (lv_at hl 3 rfl) ?_
    obtain ⟨v18, h19, hf⟩ := kBind hf
    refine kgoR (krunV (wc := (wX1 cI a0 a1 R)) (As := [.int x1]) (rest := []) (ci := 1) hx hb hml hown hts hK (kX1_isOnStep l D cI a0 a1 R x1 v18 h19) gX1_canBeLeft_X1_isOnStep rfl rfl rfl hdX1_isOnStep ⟨Nat.le_of_ble_eq_true rfl, Nat.le_of_ble_eq_true rfl⟩ hP hD rfl rfl rfl rfl hl.1 rfl (Nat.le_of_ble_eq_true rfl) dX1_canBeLeft_43 ⟨Nat.zero_le _, Nat.zero_le _⟩) hP hD hS hA [0, 1] rfl (fun H locs hP hS => ?_)
    refine kif_neb (tgt := 53) hx hb dX1_canBeLeft_46 (by decide) (fun c20 => ?_) (fun c20 => ?_)
    · have hf := kIfT c20 hf
      refine lv_iconst (v := (0 : Int32)) hx hb dX1_canBeLeft_53 (by decide) ?_
      have he := Option.some.inj hf
      have he := hO1 _ he.symm
      subst he
      exact kretz hx hb hr hlk hP hD hS dX1_canBeLeft_54
    · have hf := kIfF c20 hf
      refine lv_iconst (v := (1 : Int32)) hx hb dX1_canBeLeft_49 (by decide) ?_
      refine lv_goto (tgt := 54) hx hb dX1_canBeLeft_50 (by decide) ?_
      have he := Option.some.inj hf
      have he := hO1 _ he.symm
      subst he
      exact kretz hx hb hr hlk hP hD hS dX1_canBeLeft_54
  · have hf := kIfF c17 hf
    refine lv_iload_n hx hb dX1_canBeLeft_18 rfl (lv_at hl 0 rfl) ?_
    refine lv_iload_n hx hb dX1_canBeLeft_19 rfl (lv_at hl 3 rfl) ?_
    refine lv_icmp_eq (tgt := 35) hx hb dX1_canBeLeft_20 (by decide) (fun c21 => ?_) (fun c21 => ?_)
    · have hf := kIfT c21 hf
      refine lv_iinc (v := t8 + (1 : Int32)) (lv' := [(3, .int (t8 + (1 : Int32))), (2, .int v1), (0, .ref a0), (1, .int x1)]) hx hb dX1_canBeLeft_35 hl (k := 0) rfl rfl (by decide) rfl (fun ls hl => ?_)
      refine lv_goto (tgt := 8) hx hb dX1_canBeLeft_38 (by decide) ?_
      obtain ⟨z22, hz22⟩ : ∃ z : Int32, z = t8 + (1 : Int32) := ⟨_, rfl⟩
      rw [← hz22] at hf
      have he := (Option.some.inj hf).symm
      have hl : lv_has ls 4 [(3, .int z22), (2, .int v1), (0, .ref a0), (1, .int x1)] := by rw [hz22]; exact lv_sub hl [0, 1, 2, 3] rfl
      exact hI1 _ he H locs ls hP hD hS hl
    · have hf := kIfF c21 hf
      refine lv_aload_n hx hb dX1_canBeLeft_23 rfl (lv_at hl 2 rfl) ?_
      refine lv_iload_n hx hb dX1_canBeLeft_24 rfl (lv_at hl 0 rfl) ?_
      obtain ⟨v23, h24, hf⟩ := kBind hf
      refine kgoR (krunV (wc := (wX1 cI a0 a1 R)) (As := [.int t8]) (rest := []) (ci := 1) hx hb hml hown hts hK (kX1_zonesOccupiedBy l D cI fu a0 a1 R t8 v23 h24) gX1_canBeLeft_X1_zonesOccupiedBy rfl rfl rfl hdX1_zonesOccupiedBy ⟨Nat.le_of_ble_eq_true rfl, Nat.le_of_ble_eq_true rfl⟩ hP hD rfl rfl rfl rfl hl.1 rfl (Nat.le_of_ble_eq_true rfl) dX1_canBeLeft_25 ⟨Nat.zero_le _, Nat.zero_le _⟩) hP hD hS hA [0, 1] rfl (fun H locs hP hS => ?_)
      refine lv_iload_n hx hb dX1_canBeLeft_28 rfl (lv_at hl 1 rfl) ?_
      refine lv_iand hx hb dX1_canBeLeft_29 ?_
      refine lv_if_eq (tgt := 35) hx hb dX1_canBeLeft_30 (by decide) (fun c25 => ?_) (fun c25 => ?_)
      · have hf := kIfT c25 hf
        refine lv_iinc (v := t8 + (1 : Int32)) (lv' := [(3, .int (t8 + (1 : Int32))), (2, .int v1), (0, .ref a0), (1, .int x1)]) hx hb dX1_canBeLeft_35 hl (k := 0) rfl rfl (by decide) rfl (fun ls hl => ?_)
        refine lv_goto (tgt := 8) hx hb dX1_canBeLeft_38 (by decide) ?_
        obtain ⟨z26, hz26⟩ : ∃ z : Int32, z = t8 + (1 : Int32) := ⟨_, rfl⟩
        rw [← hz26] at hf
        have he := (Option.some.inj hf).symm
        have hl : lv_has ls 4 [(3, .int z26), (2, .int v1), (0, .ref a0), (1, .int x1)] := by rw [hz26]; exact lv_sub hl [0, 1, 2, 3] rfl
        exact hI1 _ he H locs ls hP hD hS hl
      · have hf := kIfF c25 hf
        refine lv_iconst (v := (0 : Int32)) hx hb dX1_canBeLeft_33 (by decide) ?_
        have he := Option.some.inj hf
        have he := hO1 _ he.symm
        subst he
        exact kretz hx hb hr hlk hP hD hS dX1_canBeLeft_34
set_option maxHeartbeats 4000000 in
set_option maxRecDepth 100000 in
theorem kX1_changePriority (l : Launch) (D : va_G) (cI : ClassId) (a0 a1 : Nat) (R : (Nat → Int32)) (x1 : Int32) (x2 : Int32) (o : Int32 × (Nat → Int32)) (hf : fX1_changePriority R x1 x2 = some o) : Ct l yX1_changePriority wsX1_changePriority { frames := 0, cells := 0, slots := 0, locals := 0 } D cI [.ref a0, .int x1, .int x2] (wX1 cI a0 a1 R) (wX1 cI a0 a1 o.2) (some (.int o.1)) := by
  refine Ct.of (cc := cX1_changePriority) (maxL := 4) (ret := (some .int)) (by decide) rfl (Nat.le_of_ble_eq_true rfl) ?_
  intro p e s m args below meth c A F hP hD hS ls hl
  obtain ⟨hx, hb, hml, hr, hown, hts, hlk, hK, hA⟩ := F
  have hown : s.vm.findClass RX1 = some m.cls := hown
  have hl : lv_has ls 4 [(0, .ref a0), (1, .int x1), (2, .int x2)] := hl
  have hinX1 : ∀ w ∈ wsX10, w ∈ wsX1_changePriority := by decide +kernel
  have hfl11 := hts (.fieldLink RX1 11 "CraneGuard$Site" "row" "[I") (by decide +kernel)
  unfold fX1_changePriority at hf
  refine lv_aload_n hx hb dX1_changePriority_0 rfl (lv_at hl 0 rfl) ?_
  refine va_get (D := D) (ci := 1) (v := .ref a1) (C := RX1) (T := TX1) (N := 1) hx hb hts hinX1 hown hK.1 hP 0 rfl rfl 0 (by decide) hfl11 (fun _ h9 => h9) rfl dX1_changePriority_1 ?_
  refine lv_bipush (v := (12 : Int32)) hx hb dX1_changePriority_4 (by decide) ?_
  refine lv_iload_n hx hb dX1_changePriority_6 rfl (lv_at hl 1 rfl) ?_
  refine lv_iadd hx hb dX1_changePriority_7 ?_
  obtain ⟨v1, h2, hf⟩ := kBind hf
  refine krd hx hb hK hP 1 rfl h2 dX1_changePriority_8 ?_
  refine lv_istore_n (lv' := [(3, .int v1), (0, .ref a0), (1, .int x1), (2, .int x2)]) hx hb dX1_changePriority_9 rfl hl (by decide) rfl (fun ls hl => ?_)
  refine lv_aload_n hx hb dX1_changePriority_10 rfl (lv_at hl 1 rfl) ?_
  refine va_get (D := D) (ci := 1) (v := .ref a1) (C := RX1) (T := TX1) (N := 1) hx hb hts hinX1 hown hK.1 hP 0 rfl rfl 0 (by decide) hfl11 (fun _ h9 => h9) rfl dX1_changePriority_11 ?_
  refine lv_bipush (v := (12 : Int32)) hx hb dX1_changePriority_14 (by decide) ?_
  refine lv_iload_n hx hb dX1_changePriority_16 rfl (lv_at hl 2 rfl) ?_
  refine lv_iadd hx hb dX1_changePriority_17 ?_
  refine lv_iload_n hx hb dX1_changePriority_18 rfl (lv_at hl 3 rfl) ?_
  obtain ⟨v3, h4, hf⟩ := kBind hf
  refine kwr hx hb hK hP hD hS 1 rfl h4 (wX1 cI a0 a1 v3) rfl dX1_changePriority_19 (fun H locs hP hD hS => ?_)
  refine lv_iload_n hx hb dX1_changePriority_20 rfl (lv_at hl 0 rfl) ?_
  have he := Option.some.inj hf
  subst he
  exact kreti hx hb hr hlk hP hD hS dX1_changePriority_21
set_option maxHeartbeats 4000000 in
set_option maxRecDepth 100000 in
theorem kX1_changeWay (l : Launch) (D : va_G) (cI : ClassId) (a0 a1 : Nat) (R : (Nat → Int32)) (x1 : Int32) (o : Int32 × (Nat → Int32)) (hf : fX1_changeWay R x1 = some o) : Ct l yX1_changeWay wsX1_changeWay { frames := 2, cells := 0, slots := 0, locals := 44 } D cI [.ref a0, .int x1] (wX1 cI a0 a1 R) (wX1 cI a0 a1 o.2) (some (.int o.1)) := by
  refine Ct.of (cc := cX1_changeWay) (maxL := 2) (ret := (some .int)) (by decide) rfl (Nat.le_of_ble_eq_true rfl) ?_
  intro p e s m args below meth c A F hP hD hS ls hl
  obtain ⟨hx, hb, hml, hr, hown, hts, hlk, hK, hA⟩ := F
  have hown : s.vm.findClass RX1 = some m.cls := hown
  have hl : lv_has ls 2 [(0, .ref a0), (1, .int x1)] := hl
  have hinX1 : ∀ w ∈ wsX10, w ∈ wsX1_changeWay := by decide +kernel
  have hfl11 := hts (.fieldLink RX1 11 "CraneGuard$Site" "row" "[I") (by decide +kernel)
  unfold fX1_changeWay at hf
  refine lv_aload_n hx hb dX1_changeWay_0 rfl (lv_at hl 0 rfl) ?_
  refine va_get (D := D) (ci := 1) (v := .ref a1) (C := RX1) (T := TX1) (N := 1) hx hb hts hinX1 hown hK.1 hP 0 rfl rfl 0 (by decide) hfl11 (fun _ h9 => h9) rfl dX1_changeWay_1 ?_
  refine lv_bipush (v := (20 : Int32)) hx hb dX1_changeWay_4 (by decide) ?_
  refine lv_iload_n hx hb dX1_changeWay_6 rfl (lv_at hl 1 rfl) ?_
  refine lv_iadd hx hb dX1_changeWay_7 ?_
  refine lv_aload_n hx hb dX1_changeWay_8 rfl (lv_at hl 0 rfl) ?_
  refine va_get (D := D) (ci := 1) (v := .ref a1) (C := RX1) (T := TX1) (N := 1) hx hb hts hinX1 hown hK.1 hP 0 rfl rfl 0 (by decide) hfl11 (fun _ h9 => h9) rfl dX1_changeWay_9 ?_
  refine lv_bipush (v := (20 : Int32)) hx hb dX1_changeWay_12 (by decide) ?_
  refine lv_iload_n hx hb dX1_changeWay_14 rfl (lv_at hl 1 rfl) ?_
  refine lv_iadd hx hb dX1_changeWay_15 ?_
  obtain ⟨v1, h2, hf⟩ := kBind hf
  refine krd hx hb hK hP 1 rfl h2 dX1_changeWay_16 ?_
  refine lv_ineg hx hb dX1_changeWay_17 ?_
  obtain ⟨v3, h4, hf⟩ := kBind hf
  refine kwr hx hb hK hP hD hS 1 rfl h4 (wX1 cI a0 a1 v3) rfl dX1_changeWay_18 (fun H locs hP hD hS => ?_)
  refine lv_aload_n hx hb dX1_changeWay_19 rfl (lv_at hl 0 rfl) ?_
  refine lv_iload_n hx hb dX1_changeWay_20 rfl (lv_at hl 1 rfl) ?_
  obtain ⟨v5, h6, hf⟩ := kBind hf
  refine kgoR (krunV (wc := (wX1 cI a0 a1 v3)) (As := [.int x1]) (rest := []) (ci := 1) hx hb hml hown hts hK (kX1_stepsToTarget l D cI a0 a1 v3 x1 v5 h6) gX1_changeWay_X1_stepsToTarget rfl rfl rfl hdX1_stepsToTarget ⟨Nat.le_of_ble_eq_true rfl, Nat.le_of_ble_eq_true rfl⟩ hP hD rfl rfl rfl rfl hl.1 rfl (Nat.le_of_ble_eq_true rfl) dX1_changeWay_21 ⟨Nat.zero_le _, Nat.zero_le _⟩) hP hD hS hA [0, 1] rfl (fun H locs hP hS => ?_)
  have he := Option.some.inj hf
  subst he
  exact kreti hx hb hr hlk hP hD hS dX1_changeWay_24
set_option maxHeartbeats 4000000 in
set_option maxRecDepth 100000 in
theorem kX1_changeWind (l : Launch) (D : va_G) (cI : ClassId) (a0 a1 : Nat) (R : (Nat → Int32)) (x1 : Int32) (o : Int32 × (Nat → Int32)) (hf : fX1_changeWind R x1 = some o) : Ct l yX1_changeWind wsX1_changeWind { frames := 0, cells := 0, slots := 0, locals := 0 } D cI [.ref a0, .int x1] (wX1 cI a0 a1 R) (wX1 cI a0 a1 o.2) (some (.int o.1)) := by
  refine Ct.of (cc := cX1_changeWind) (maxL := 3) (ret := (some .int)) (by decide) rfl (Nat.le_of_ble_eq_true rfl) ?_
  intro p e s m args below meth c A F hP hD hS ls hl
  obtain ⟨hx, hb, hml, hr, hown, hts, hlk, hK, hA⟩ := F
  have hown : s.vm.findClass RX1 = some m.cls := hown
  have hl : lv_has ls 3 [(0, .ref a0), (1, .int x1)] := hl
  have hinX1 : ∀ w ∈ wsX10, w ∈ wsX1_changeWind := by decide +kernel
  have hfl11 := hts (.fieldLink RX1 11 "CraneGuard$Site" "row" "[I") (by decide +kernel)
  unfold fX1_changeWind at hf
  refine lv_aload_n hx hb dX1_changeWind_0 rfl (lv_at hl 0 rfl) ?_
  refine va_get (D := D) (ci := 1) (v := .ref a1) (C := RX1) (T := TX1) (N := 1) hx hb hts hinX1 hown hK.1 hP 0 rfl rfl 0 (by decide) hfl11 (fun _ h9 => h9) rfl dX1_changeWind_1 ?_
  refine lv_iconst (v := (1 : Int32)) hx hb dX1_changeWind_4 (by decide) ?_
  obtain ⟨v1, h2, hf⟩ := kBind hf
  refine krd hx hb hK hP 1 rfl h2 dX1_changeWind_5 ?_
  refine lv_istore_n (lv' := [(2, .int v1), (0, .ref a0), (1, .int x1)]) hx hb dX1_changeWind_6 rfl hl (by decide) rfl (fun ls hl => ?_)
  refine lv_aload_n hx hb dX1_changeWind_7 rfl (lv_at hl 1 rfl) ?_
  refine va_get (D := D) (ci := 1) (v := .ref a1) (C := RX1) (T := TX1) (N := 1) hx hb hts hinX1 hown hK.1 hP 0 rfl rfl 0 (by decide) hfl11 (fun _ h9 => h9) rfl dX1_changeWind_8 ?_
  refine lv_iconst (v := (1 : Int32)) hx hb dX1_changeWind_11 (by decide) ?_
  refine lv_iload_n hx hb dX1_changeWind_12 rfl (lv_at hl 2 rfl) ?_
  obtain ⟨v3, h4, hf⟩ := kBind hf
  refine kwr hx hb hK hP hD hS 1 rfl h4 (wX1 cI a0 a1 v3) rfl dX1_changeWind_13 (fun H locs hP hD hS => ?_)
  refine lv_iload_n hx hb dX1_changeWind_14 rfl (lv_at hl 0 rfl) ?_
  have he := Option.some.inj hf
  subst he
  exact kreti hx hb hr hlk hP hD hS dX1_changeWind_15
set_option maxHeartbeats 4000000 in
set_option maxRecDepth 100000 in
theorem kX1_occupantsOf (l : Launch) (D : va_G) (cI : ClassId) (fu : Nat) (a0 a1 : Nat) (R : (Nat → Int32)) (x1 : Int32) (o : Int32) (hf : fX1_occupantsOf fu R x1 = some o) : Ct l yX1_occupantsOf wsX1_occupantsOf { frames := 2, cells := 0, slots := 0, locals := 48 } D cI [.ref a0, .int x1] (wX1 cI a0 a1 R) (wX1 cI a0 a1 R) (some (.int o)) := by
  refine Ct.of (cc := cX1_occupantsOf) (maxL := 4) (ret := (some .int)) (by decide) rfl (Nat.le_of_ble_eq_true rfl) ?_
  intro p e s m args below meth c A F hP hD hS ls hl
  obtain ⟨hx, hb, hml, hr, hown, hts, hlk, hK, hA⟩ := F
  have hown : s.vm.findClass RX1 = some m.cls := hown
  have hl : lv_has ls 4 [(0, .ref a0), (1, .int x1)] := hl
  have hinX1 : ∀ w ∈ wsX10, w ∈ wsX1_occupantsOf := by decide +kernel
  have hfl11 := hts (.fieldLink RX1 11 "CraneGuard$Site" "row" "[I") (by decide +kernel)
  unfold fX1_occupantsOf at hf
  refine lv_iconst (v := (0 : Int32)) hx hb dX1_occupantsOf_0 (by decide) ?_
  refine lv_istore_n (lv' := [(2, .int (0 : Int32)), (0, .ref a0), (1, .int x1)]) hx hb dX1_occupantsOf_1 rfl hl (by decide) rfl (fun ls hl => ?_)
  refine lv_iconst (v := (0 : Int32)) hx hb dX1_occupantsOf_2 (by decide) ?_
  refine lv_istore_n (lv' := [(3, .int (0 : Int32)), (2, .int (0 : Int32)), (0, .ref a0), (1, .int x1)]) hx hb dX1_occupantsOf_3 rfl hl (by decide) rfl (fun ls hl => ?_)
  have hl : lv_has ls 4 [(3, .int (0 : Int32)), (2, .int (0 : Int32)), (0, .ref a0), (1, .int x1)] := hl
  refine klp hf (fun t4 : Int32 × Int32 => (wX1 cI a0 a1 R)) 4 (fun t4 : Int32 × Int32 => [(3, .int t4.2), (2, .int t4.1), (0, .ref a0), (1, .int x1)]) ?_ hP hD hS hl
  intro t4 x4_ hf hI1 hO1 H locs ls hP hD hS hl
  unfold fX1_occupantsOf_L4 at hf
  have hP : va_P D vwCl (wX1 cI a0 a1 R) H := hP
  have hD : va_D A (wX1 cI a0 a1 R) := hD
  have hl : lv_has ls 4 [(3, .int t4.2), (2, .int t4.1), (0, .ref a0), (1, .int x1)] := hl
  refine lv_iload_n hx hb dX1_occupantsOf_4 rfl (lv_at hl 0 rfl) ?_
  refine lv_aload_n hx hb dX1_occupantsOf_5 rfl (lv_at hl 2 rfl) ?_
  refine va_get (D := D) (ci := 1) (v := .ref a1) (C := RX1) (T := TX1) (N := 1) hx hb hts hinX1 hown hK.1 hP 0 rfl rfl 0 (by decide) hfl11 (fun _ h9 => h9) rfl dX1_occupantsOf_6 ?_
  refine lv_iconst (v := (2 : Int32)) hx hb dX1_occupantsOf_9 (by decide) ?_
  obtain ⟨v10, h11, hf⟩ := kBind hf
  refine krd hx hb hK hP 1 rfl h11 dX1_occupantsOf_10 ?_
  refine lv_icmp_ge (tgt := 38) hx hb dX1_occupantsOf_11 (by decide) (fun c12 => ?_) (fun c12 => ?_)
  · have hf := kIfT c12 hf
    refine lv_iload_n hx hb dX1_occupantsOf_38 rfl (lv_at hl 1 rfl) ?_
    have he := Option.some.inj hf
    have he := hO1 _ he.symm
    subst he
    exact kreti hx hb hr hlk hP hD hS dX1_occupantsOf_39
  · have hf := kIfF c12 hf
    refine lv_aload_n hx hb dX1_occupantsOf_14 rfl (lv_at hl 2 rfl) ?_
    refine lv_iload_n hx hb dX1_occupantsOf_15 rfl (lv_at hl 0 rfl) ?_
    obtain ⟨v13, h14, hf⟩ := kBind hf
    refine kgoR (krunV (wc := (wX1 cI a0 a1 R)) (As := [.int t4.2]) (rest := []) (ci := 1) hx hb hml hown hts hK (kX1_zonesOccupiedBy l D cI fu a0 a1 R t4.2 v13 h14) gX1_occupantsOf_X1_zonesOccupiedBy rfl rfl rfl hdX1_zonesOccupiedBy ⟨Nat.le_of_ble_eq_true rfl, Nat.le_of_ble_eq_true rfl⟩ hP hD rfl rfl rfl rfl hl.1 rfl (Nat.le_of_ble_eq_true rfl) dX1_occupantsOf_16 ⟨Nat.zero_le _, Nat.zero_le _⟩) hP hD hS hA [0, 1] rfl (fun H locs hP hS => ?_)
    refine lv_iconst (v := (1 : Int32)) hx hb dX1_occupantsOf_19 (by decide) ?_
    refine lv_iload_n hx hb dX1_occupantsOf_20 rfl (lv_at hl 3 rfl) ?_
    refine kishl hx hb dX1_occupantsOf_21 ?_
    refine lv_iand hx hb dX1_occupantsOf_22 ?_
    refine lv_if_eq (tgt := 32) hx hb dX1_occupantsOf_23 (by decide) (fun c15 => ?_) (fun c15 => ?_)
    · have hf := kIfT c15 hf
      refine lv_iinc (v := t4.2 + (1 : Int32)) (lv' := [(3, .int (t4.2 + (1 : Int32))), (2, .int t4.1), (0, .ref a0), (1, .int x1)]) hx hb dX1_occupantsOf_32 hl (k := 0) rfl rfl (by decide) rfl (fun ls hl => ?_)
      refine lv_goto (tgt := 4) hx hb dX1_occupantsOf_35 (by decide) ?_
      obtain ⟨z16, hz16⟩ : ∃ z : Int32, z = t4.2 + (1 : Int32) := ⟨_, rfl⟩
      rw [← hz16] at hf
      have he := (Option.some.inj hf).symm
      have hl : lv_has ls 4 [(3, .int z16), (2, .int t4.1), (0, .ref a0), (1, .int x1)] := by rw [hz16]; exact lv_sub hl [0, 1, 2, 3] rfl
      exact hI1 _ he H locs ls hP hD hS hl
    · have hf := kIfF c15 hf
      refine lv_iload_n hx hb dX1_occupantsOf_26 rfl (lv_at hl 1 rfl) ?_
      refine lv_iconst (v := (1 : Int32)) hx hb dX1_occupantsOf_27 (by decide) ?_
      refine lv_iload_n hx hb dX1_occupantsOf_28 rfl (lv_at hl 0 rfl) ?_
      refine kishl hx hb dX1_occupantsOf_29 ?_
      refine lv_ior hx hb dX1_occupantsOf_30 ?_
      refine lv_istore_n (lv' := [(2, .int (t4.1 ||| (jshl (1 : Int32) t4.2))), (3, .int t4.2), (0, .ref a0), (1, .int x1)]) hx hb dX1_occupantsOf_31 rfl hl (by decide) rfl (fun ls hl => ?_)
      refine lv_iinc (v := t4.2 + (1 : Int32)) (lv' := [(3, .int (t4.2 + (1 : Int32))), (2, .int (t4.1 ||| (jshl (1 : Int32) t4.2))), (0, .ref a0), (1, .int x1)]) hx hb dX1_occupantsOf_32 hl (k := 1) rfl rfl (by decide) rfl (fun ls hl => ?_)
      refine lv_goto (tgt := 4) hx hb dX1_occupantsOf_35 (by decide) ?_
      obtain ⟨z17, hz17⟩ : ∃ z : Int32, z = t4.1 ||| (jshl (1 : Int32) t4.2) := ⟨_, rfl⟩
      rw [← hz17] at hf
      obtain ⟨z18, hz18⟩ : ∃ z : Int32, z = t4.2 + (1 : Int32) := ⟨_, rfl⟩
      rw [← hz18] at hf
      have he := (Option.some.inj hf).symm
      have hl : lv_has ls 4 [(3, .int z18), (2, .int z17), (0, .ref a0), (1, .int x1)] := by rw [hz17, hz18]; exact lv_sub hl [0, 1, 2, 3] rfl
      exact hI1 _ he H locs ls hP hD hS hl
set_option maxHeartbeats 4000000 in
set_option maxRecDepth 100000 in
theorem kX1_isConflict (l : Launch) (D : va_G) (cI : ClassId) (fu : Nat) (a0 a1 : Nat) (R : (Nat → Int32)) (x1 : Int32) (o : Bool) (hf : fX1_isConflict fu R x1 = some o) : Ct l yX1_isConflict wsX1_isConflict { frames := 3, cells := 0, slots := 0, locals := 71 } D cI [.ref a0, .int x1] (wX1 cI a0 a1 R) (wX1 cI a0 a1 R) (some (.int (bI o))) := by
  refine Ct.of (cc := cX1_isConflict) (maxL := 2) (ret := (some .boolean)) (by decide) rfl (Nat.le_of_ble_eq_true rfl) ?_
  intro p e s m args below meth c A F hP hD hS ls hl
  obtain ⟨hx, hb, hml, hr, hown, hts, hlk, hK, hA⟩ := F
  have hown : s.vm.findClass RX1 = some m.cls := hown
  have hl : lv_has ls 2 [(0, .ref a0), (1, .int x1)] := hl
  unfold fX1_isConflict at hf
  refine lv_aload_n hx hb dX1_isConflict_0 rfl (lv_at hl 0 rfl) ?_
  refine lv_iload_n hx hb dX1_isConflict_1 rfl (lv_at hl 1 rfl) ?_
  obtain ⟨v1, h2, hf⟩ := kBind hf
  refine kgoR (krunV (wc := (wX1 cI a0 a1 R)) (As := [.int x1]) (rest := []) (ci := 1) hx hb hml hown hts hK (kX1_occupantsOf l D cI fu a0 a1 R x1 v1 h2) gX1_isConflict_X1_occupantsOf rfl rfl rfl hdX1_occupantsOf ⟨Nat.le_of_ble_eq_true rfl, Nat.le_of_ble_eq_true rfl⟩ hP hD rfl rfl rfl rfl hl.1 rfl (Nat.le_of_ble_eq_true rfl) dX1_isConflict_2 ⟨Nat.zero_le _, Nat.zero_le _⟩) hP hD hS hA [0, 1] rfl (fun H locs hP hS => ?_)
  obtain ⟨v3, h4, hf⟩ := kBind hf
  refine kgoR (krunS (wc := ([] : va_W)) (As := [.int v1]) (rest := []) hx hb hml hown hts hK (kJ6_bitCount_0f7a4 l D cI v1 v3 h4) gX1_isConflict_J6_bitCount_0f7a4 rfl rfl rfl hdJ6_bitCount_0f7a4 ⟨Nat.le_of_ble_eq_true rfl, Nat.le_of_ble_eq_true rfl⟩ k_P0 (k_D0 A) rfl hl.1 rfl (Nat.le_of_ble_eq_true rfl) dX1_isConflict_5 ⟨Nat.zero_le _, Nat.zero_le _⟩) hP hD hS hA [] rfl (fun H locs hP hS => ?_)
  refine lv_iconst (v := (1 : Int32)) hx hb dX1_isConflict_8 (by decide) ?_
  refine lv_icmp_le (tgt := 16) hx hb dX1_isConflict_9 (by decide) (fun c5 => ?_) (fun c5 => ?_)
  · have hf := kIfT c5 hf
    refine lv_iconst (v := (0 : Int32)) hx hb dX1_isConflict_16 (by decide) ?_
    have he := Option.some.inj hf
    subst he
    exact kretz hx hb hr hlk hP hD hS dX1_isConflict_17
  · have hf := kIfF c5 hf
    refine lv_iconst (v := (1 : Int32)) hx hb dX1_isConflict_12 (by decide) ?_
    refine lv_goto (tgt := 17) hx hb dX1_isConflict_13 (by decide) ?_
    have he := Option.some.inj hf
    subst he
    exact kretz hx hb hr hlk hP hD hS dX1_isConflict_17
set_option maxHeartbeats 4000000 in
set_option maxRecDepth 100000 in
theorem kX1_conflictSet (l : Launch) (D : va_G) (cI : ClassId) (fu : Nat) (a0 a1 : Nat) (R : (Nat → Int32)) (o : Int32) (hf : fX1_conflictSet fu R = some o) : Ct l yX1_conflictSet wsX1_conflictSet { frames := 4, cells := 0, slots := 0, locals := 92 } D cI [.ref a0] (wX1 cI a0 a1 R) (wX1 cI a0 a1 R) (some (.int o)) := by
  refine Ct.of (cc := cX1_conflictSet) (maxL := 3) (ret := (some .int)) (by decide) rfl (Nat.le_of_ble_eq_true rfl) ?_
  intro p e s m args below meth c A F hP hD hS ls hl
  obtain ⟨hx, hb, hml, hr, hown, hts, hlk, hK, hA⟩ := F
  have hown : s.vm.findClass RX1 = some m.cls := hown
  have hl : lv_has ls 3 [(0, .ref a0)] := hl
  unfold fX1_conflictSet at hf
  refine lv_iconst (v := (0 : Int32)) hx hb dX1_conflictSet_0 (by decide) ?_
  refine lv_istore_n (lv' := [(1, .int (0 : Int32)), (0, .ref a0)]) hx hb dX1_conflictSet_1 rfl hl (by decide) rfl (fun ls hl => ?_)
  refine lv_iconst (v := (0 : Int32)) hx hb dX1_conflictSet_2 (by decide) ?_
  refine lv_istore_n (lv' := [(2, .int (0 : Int32)), (1, .int (0 : Int32)), (0, .ref a0)]) hx hb dX1_conflictSet_3 rfl hl (by decide) rfl (fun ls hl => ?_)
  have hl : lv_has ls 3 [(2, .int (0 : Int32)), (1, .int (0 : Int32)), (0, .ref a0)] := hl
  refine klp hf (fun t4 : Int32 × Int32 => (wX1 cI a0 a1 R)) 3 (fun t4 : Int32 × Int32 => [(2, .int t4.2), (1, .int t4.1), (0, .ref a0)]) ?_ hP hD hS hl
  intro t4 x4_ hf hI1 hO1 H locs ls hP hD hS hl
  unfold fX1_conflictSet_L4 at hf
  have hP : va_P D vwCl (wX1 cI a0 a1 R) H := hP
  have hD : va_D A (wX1 cI a0 a1 R) := hD
  have hl : lv_has ls 3 [(2, .int t4.2), (1, .int t4.1), (0, .ref a0)] := hl
  refine lv_iload_n hx hb dX1_conflictSet_4 rfl (lv_at hl 0 rfl) ?_
  refine lv_bipush (v := (6 : Int32)) hx hb dX1_conflictSet_5 (by decide) ?_
  refine lv_icmp_ge (tgt := 30) hx hb dX1_conflictSet_7 (by decide) (fun c8 => ?_) (fun c8 => ?_)
  · have hf := kIfT c8 hf
    refine lv_iload_n hx hb dX1_conflictSet_30 rfl (lv_at hl 1 rfl) ?_
    have he := Option.some.inj hf
    have he := hO1 _ he.symm
    subst he
    exact kreti hx hb hr hlk hP hD hS dX1_conflictSet_31
  · have hf := kIfF c8 hf
    refine lv_aload_n hx hb dX1_conflictSet_10 rfl (lv_at hl 2 rfl) ?_
    refine lv_iload_n hx hb dX1_conflictSet_11 rfl (lv_at hl 0 rfl) ?_
    obtain ⟨v9, h10, hf⟩ := kBind hf
    refine kgoR (krunV (wc := (wX1 cI a0 a1 R)) (As := [.int t4.2]) (rest := []) (ci := 1) hx hb hml hown hts hK (kX1_isConflict l D cI fu a0 a1 R t4.2 v9 h10) gX1_conflictSet_X1_isConflict rfl rfl rfl hdX1_isConflict ⟨Nat.le_of_ble_eq_true rfl, Nat.le_of_ble_eq_true rfl⟩ hP hD rfl rfl rfl rfl hl.1 rfl (Nat.le_of_ble_eq_true rfl) dX1_conflictSet_12 ⟨Nat.zero_le _, Nat.zero_le _⟩) hP hD hS hA [0, 1] rfl (fun H locs hP hS => ?_)
    refine kif_eqb (tgt := 24) hx hb dX1_conflictSet_15 (by decide) (fun c11 => ?_) (fun c11 => ?_)
    · have hf := kIfF c11 hf
      refine lv_iinc (v := t4.2 + (1 : Int32)) (lv' := [(2, .int (t4.2 + (1 : Int32))), (1, .int t4.1), (0, .ref a0)]) hx hb dX1_conflictSet_24 hl (k := 0) rfl rfl (by decide) rfl (fun ls hl => ?_)
      refine lv_goto (tgt := 4) hx hb dX1_conflictSet_27 (by decide) ?_
      obtain ⟨z12, hz12⟩ : ∃ z : Int32, z = t4.2 + (1 : Int32) := ⟨_, rfl⟩
      rw [← hz12] at hf
      have he := (Option.some.inj hf).symm
      have hl : lv_has ls 3 [(2, .int z12), (1, .int t4.1), (0, .ref a0)] := by rw [hz12]; exact lv_sub hl [0, 1, 2] rfl
      exact hI1 _ he H locs ls hP hD hS hl
    · have hf := kIfT c11 hf
      refine lv_iload_n hx hb dX1_conflictSet_18 rfl (lv_at hl 1 rfl) ?_
      refine lv_iconst (v := (1 : Int32)) hx hb dX1_conflictSet_19 (by decide) ?_
      refine lv_iload_n hx hb dX1_conflictSet_20 rfl (lv_at hl 0 rfl) ?_
      refine kishl hx hb dX1_conflictSet_21 ?_
      refine lv_ior hx hb dX1_conflictSet_22 ?_
      refine lv_istore_n (lv' := [(1, .int (t4.1 ||| (jshl (1 : Int32) t4.2))), (2, .int t4.2), (0, .ref a0)]) hx hb dX1_conflictSet_23 rfl hl (by decide) rfl (fun ls hl => ?_)
      refine lv_iinc (v := t4.2 + (1 : Int32)) (lv' := [(2, .int (t4.2 + (1 : Int32))), (1, .int (t4.1 ||| (jshl (1 : Int32) t4.2))), (0, .ref a0)]) hx hb dX1_conflictSet_24 hl (k := 1) rfl rfl (by decide) rfl (fun ls hl => ?_)
      refine lv_goto (tgt := 4) hx hb dX1_conflictSet_27 (by decide) ?_
      obtain ⟨z13, hz13⟩ : ∃ z : Int32, z = t4.1 ||| (jshl (1 : Int32) t4.2) := ⟨_, rfl⟩
      rw [← hz13] at hf
      obtain ⟨z14, hz14⟩ : ∃ z : Int32, z = t4.2 + (1 : Int32) := ⟨_, rfl⟩
      rw [← hz14] at hf
      have he := (Option.some.inj hf).symm
      have hl : lv_has ls 3 [(2, .int z14), (1, .int z13), (0, .ref a0)] := by rw [hz13, hz14]; exact lv_sub hl [0, 1, 2] rfl
      exact hI1 _ he H locs ls hP hD hS hl
set_option maxHeartbeats 4000000 in
set_option maxRecDepth 100000 in
theorem kX1_copyFrom (l : Launch) (D : va_G) (cI : ClassId) (a0 a1 a2 a3 : Nat) (R : (Nat → Int32)) (R2 : (Nat → Int32)) (o : (Nat → Int32)) (hf : fX1_copyFrom R R2 = some o) : Ct l yX1_copyFrom wsX1_copyFrom { frames := 1, cells := 0, slots := 0, locals := 18 } D cI [.ref a0, .ref a2] (wX1_X1 cI a0 a1 a2 a3 R R2) (wX1_X1 cI a0 a1 a2 a3 o R2) none := by
  refine Ct.of (cc := cX1_copyFrom) (maxL := 2) (ret := none) (by decide) rfl (Nat.le_of_ble_eq_true rfl) ?_
  intro p e s m args below meth c A F hP hD hS ls hl
  obtain ⟨hx, hb, hml, hr, hown, hts, hlk, hK, hA⟩ := F
  have hown : s.vm.findClass RX1 = some m.cls := hown
  have hl : lv_has ls 2 [(0, .ref a0), (1, .ref a2)] := hl
  have hinX1 : ∀ w ∈ wsX10, w ∈ wsX1_copyFrom := by decide +kernel
  have hfl11 := hts (.fieldLink RX1 11 "CraneGuard$Site" "row" "[I") (by decide +kernel)
  unfold fX1_copyFrom at hf
  refine lv_aload_n hx hb dX1_copyFrom_0 rfl (lv_at hl 1 rfl) ?_
  refine va_get (D := D) (ci := 1) (v := .ref a3) (C := RX1) (T := TX1) (N := 1) hx hb hts hinX1 hown hK.1 hP 2 rfl rfl 0 (by decide) hfl11 (fun _ h9 => h9) rfl dX1_copyFrom_1 ?_
  refine lv_iconst (v := (0 : Int32)) hx hb dX1_copyFrom_4 (by decide) ?_
  refine lv_aload_n hx hb dX1_copyFrom_5 rfl (lv_at hl 0 rfl) ?_
  refine va_get (D := D) (ci := 1) (v := .ref a1) (C := RX1) (T := TX1) (N := 1) hx hb hts hinX1 hown hK.1 hP 0 rfl rfl 0 (by decide) hfl11 (fun _ h9 => h9) rfl dX1_copyFrom_6 ?_
  refine lv_iconst (v := (0 : Int32)) hx hb dX1_copyFrom_9 (by decide) ?_
  refine lv_sipush (v := (132 : Int32)) hx hb dX1_copyFrom_10 (by decide) ?_
  obtain ⟨v1, h2, hf⟩ := kBind hf
  refine kcp hx hb (hml.trans hl.1.symm) hown (hts (.methodLink RX1 15 arraycopyName) (by decide +kernel)) (hts (.native arraycopyName) (by decide +kernel)) (hts (.static arraycopyName) (by decide +kernel)) (hts (.initialized "java/lang/System") (by decide +kernel)) hK hP hD hS 3 1 rfl rfl h2 (wX1_X1 cI a0 a1 a2 a3 v1 R2) rfl (Nat.le_of_ble_eq_true rfl) (Nat.le_of_ble_eq_true rfl) dX1_copyFrom_13 (fun H locs hP hD hS => ?_)
  have he := Option.some.inj hf
  subst he
  exact kretv hx hb hr hlk hP hD hS dX1_copyFrom_16
set_option maxHeartbeats 4000000 in
set_option maxRecDepth 100000 in
theorem kX1_craneCount (l : Launch) (D : va_G) (cI : ClassId) (a0 a1 : Nat) (R : (Nat → Int32)) (o : Int32) (hf : fX1_craneCount R = some o) : Ct l yX1_craneCount wsX1_craneCount { frames := 0, cells := 0, slots := 0, locals := 0 } D cI [.ref a0] (wX1 cI a0 a1 R) (wX1 cI a0 a1 R) (some (.int o)) := by
  refine Ct.of (cc := cX1_craneCount) (maxL := 1) (ret := (some .int)) (by decide) rfl (Nat.le_of_ble_eq_true rfl) ?_
  intro p e s m args below meth c A F hP hD hS ls hl
  obtain ⟨hx, hb, hml, hr, hown, hts, hlk, hK, hA⟩ := F
  have hown : s.vm.findClass RX1 = some m.cls := hown
  have hl : lv_has ls 1 [(0, .ref a0)] := hl
  have hinX1 : ∀ w ∈ wsX10, w ∈ wsX1_craneCount := by decide +kernel
  have hfl11 := hts (.fieldLink RX1 11 "CraneGuard$Site" "row" "[I") (by decide +kernel)
  unfold fX1_craneCount at hf
  refine lv_aload_n hx hb dX1_craneCount_0 rfl (lv_at hl 0 rfl) ?_
  refine va_get (D := D) (ci := 1) (v := .ref a1) (C := RX1) (T := TX1) (N := 1) hx hb hts hinX1 hown hK.1 hP 0 rfl rfl 0 (by decide) hfl11 (fun _ h9 => h9) rfl dX1_craneCount_1 ?_
  refine lv_iconst (v := (2 : Int32)) hx hb dX1_craneCount_4 (by decide) ?_
  obtain ⟨v1, h2, hf⟩ := kBind hf
  refine krd hx hb hK hP 1 rfl h2 dX1_craneCount_5 ?_
  have he := Option.some.inj hf
  subst he
  exact kreti hx hb hr hlk hP hD hS dX1_craneCount_6
set_option maxHeartbeats 4000000 in
set_option maxRecDepth 100000 in
theorem kX1_cranesWithTarget (l : Launch) (D : va_G) (cI : ClassId) (fu : Nat) (a0 a1 : Nat) (R : (Nat → Int32)) (o : Int32) (hf : fX1_cranesWithTarget fu R = some o) : Ct l yX1_cranesWithTarget wsX1_cranesWithTarget { frames := 1, cells := 0, slots := 0, locals := 21 } D cI [.ref a0] (wX1 cI a0 a1 R) (wX1 cI a0 a1 R) (some (.int o)) := by
  refine Ct.of (cc := cX1_cranesWithTarget) (maxL := 3) (ret := (some .int)) (by decide) rfl (Nat.le_of_ble_eq_true rfl) ?_
  intro p e s m args below meth c A F hP hD hS ls hl
  obtain ⟨hx, hb, hml, hr, hown, hts, hlk, hK, hA⟩ := F
  have hown : s.vm.findClass RX1 = some m.cls := hown
  have hl : lv_has ls 3 [(0, .ref a0)] := hl
  have hinX1 : ∀ w ∈ wsX10, w ∈ wsX1_cranesWithTarget := by decide +kernel
  have hfl11 := hts (.fieldLink RX1 11 "CraneGuard$Site" "row" "[I") (by decide +kernel)
  unfold fX1_cranesWithTarget at hf
  refine lv_iconst (v := (0 : Int32)) hx hb dX1_cranesWithTarget_0 (by decide) ?_
  refine lv_istore_n (lv' := [(1, .int (0 : Int32)), (0, .ref a0)]) hx hb dX1_cranesWithTarget_1 rfl hl (by decide) rfl (fun ls hl => ?_)
  refine lv_iconst (v := (0 : Int32)) hx hb dX1_cranesWithTarget_2 (by decide) ?_
  refine lv_istore_n (lv' := [(2, .int (0 : Int32)), (1, .int (0 : Int32)), (0, .ref a0)]) hx hb dX1_cranesWithTarget_3 rfl hl (by decide) rfl (fun ls hl => ?_)
  have hl : lv_has ls 3 [(2, .int (0 : Int32)), (1, .int (0 : Int32)), (0, .ref a0)] := hl
  refine klp hf (fun t4 : Int32 × Int32 => (wX1 cI a0 a1 R)) 3 (fun t4 : Int32 × Int32 => [(2, .int t4.2), (1, .int t4.1), (0, .ref a0)]) ?_ hP hD hS hl
  intro t4 x4_ hf hI1 hO1 H locs ls hP hD hS hl
  unfold fX1_cranesWithTarget_L4 at hf
  have hP : va_P D vwCl (wX1 cI a0 a1 R) H := hP
  have hD : va_D A (wX1 cI a0 a1 R) := hD
  have hl : lv_has ls 3 [(2, .int t4.2), (1, .int t4.1), (0, .ref a0)] := hl
  refine lv_iload_n hx hb dX1_cranesWithTarget_4 rfl (lv_at hl 0 rfl) ?_
  refine lv_aload_n hx hb dX1_cranesWithTarget_5 rfl (lv_at hl 2 rfl) ?_
  refine va_get (D := D) (ci := 1) (v := .ref a1) (C := RX1) (T := TX1) (N := 1) hx hb hts hinX1 hown hK.1 hP 0 rfl rfl 0 (by decide) hfl11 (fun _ h9 => h9) rfl dX1_cranesWithTarget_6 ?_
  refine lv_iconst (v := (2 : Int32)) hx hb dX1_cranesWithTarget_9 (by decide) ?_
  obtain ⟨v10, h11, hf⟩ := kBind hf
  refine krd hx hb hK hP 1 rfl h11 dX1_cranesWithTarget_10 ?_
  refine lv_icmp_ge (tgt := 34) hx hb dX1_cranesWithTarget_11 (by decide) (fun c12 => ?_) (fun c12 => ?_)
  · have hf := kIfT c12 hf
    refine lv_iload_n hx hb dX1_cranesWithTarget_34 rfl (lv_at hl 1 rfl) ?_
    have he := Option.some.inj hf
    have he := hO1 _ he.symm
    subst he
    exact kreti hx hb hr hlk hP hD hS dX1_cranesWithTarget_35
  · have hf := kIfF c12 hf
    refine lv_aload_n hx hb dX1_cranesWithTarget_14 rfl (lv_at hl 2 rfl) ?_
    refine lv_iload_n hx hb dX1_cranesWithTarget_15 rfl (lv_at hl 0 rfl) ?_
    obtain ⟨v13, h14, hf⟩ := kBind hf
    refine kgoR (krunV (wc := (wX1 cI a0 a1 R)) (As := [.int t4.2]) (rest := []) (ci := 1) hx hb hml hown hts hK (kX1_hasTarget l D cI a0 a1 R t4.2 v13 h14) gX1_cranesWithTarget_X1_hasTarget rfl rfl rfl hdX1_hasTarget ⟨Nat.le_of_ble_eq_true rfl, Nat.le_of_ble_eq_true rfl⟩ hP hD rfl rfl rfl rfl hl.1 rfl (Nat.le_of_ble_eq_true rfl) dX1_cranesWithTarget_16 ⟨Nat.zero_le _, Nat.zero_le _⟩) hP hD hS hA [0, 1] rfl (fun H locs hP hS => ?_)
    refine kif_eqb (tgt := 28) hx hb dX1_cranesWithTarget_19 (by decide) (fun c15 => ?_) (fun c15 => ?_)
    · have hf := kIfF c15 hf
      refine lv_iinc (v := t4.2 + (1 : Int32)) (lv' := [(2, .int (t4.2 + (1 : Int32))), (1, .int t4.1), (0, .ref a0)]) hx hb dX1_cranesWithTarget_28 hl (k := 0) rfl rfl (by decide) rfl (fun ls hl => ?_)
      refine lv_goto (tgt := 4) hx hb dX1_cranesWithTarget_31 (by decide) ?_
      obtain ⟨z16, hz16⟩ : ∃ z : Int32, z = t4.2 + (1 : Int32) := ⟨_, rfl⟩
      rw [← hz16] at hf
      have he := (Option.some.inj hf).symm
      have hl : lv_has ls 3 [(2, .int z16), (1, .int t4.1), (0, .ref a0)] := by rw [hz16]; exact lv_sub hl [0, 1, 2] rfl
      exact hI1 _ he H locs ls hP hD hS hl
    · have hf := kIfT c15 hf
      refine lv_iload_n hx hb dX1_cranesWithTarget_22 rfl (lv_at hl 1 rfl) ?_
      refine lv_iconst (v := (1 : Int32)) hx hb dX1_cranesWithTarget_23 (by decide) ?_
      refine lv_iload_n hx hb dX1_cranesWithTarget_24 rfl (lv_at hl 0 rfl) ?_
      refine kishl hx hb dX1_cranesWithTarget_25 ?_
      refine lv_ior hx hb dX1_cranesWithTarget_26 ?_
      refine lv_istore_n (lv' := [(1, .int (t4.1 ||| (jshl (1 : Int32) t4.2))), (2, .int t4.2), (0, .ref a0)]) hx hb dX1_cranesWithTarget_27 rfl hl (by decide) rfl (fun ls hl => ?_)
      refine lv_iinc (v := t4.2 + (1 : Int32)) (lv' := [(2, .int (t4.2 + (1 : Int32))), (1, .int (t4.1 ||| (jshl (1 : Int32) t4.2))), (0, .ref a0)]) hx hb dX1_cranesWithTarget_28 hl (k := 1) rfl rfl (by decide) rfl (fun ls hl => ?_)
      refine lv_goto (tgt := 4) hx hb dX1_cranesWithTarget_31 (by decide) ?_
      obtain ⟨z17, hz17⟩ : ∃ z : Int32, z = t4.1 ||| (jshl (1 : Int32) t4.2) := ⟨_, rfl⟩
      rw [← hz17] at hf
      obtain ⟨z18, hz18⟩ : ∃ z : Int32, z = t4.2 + (1 : Int32) := ⟨_, rfl⟩
      rw [← hz18] at hf
      have he := (Option.some.inj hf).symm
      have hl : lv_has ls 3 [(2, .int z18), (1, .int z17), (0, .ref a0)] := by rw [hz17, hz18]; exact lv_sub hl [0, 1, 2] rfl
      exact hI1 _ he H locs ls hP hD hS hl
set_option maxHeartbeats 4000000 in
set_option maxRecDepth 100000 in
theorem kX1_cycleSet (l : Launch) (D : va_G) (cI : ClassId) (fu : Nat) (a0 a1 : Nat) (R : (Nat → Int32)) (o : Int32) (hf : fX1_cycleSet fu R = some o) : Ct l yX1_cycleSet wsX1_cycleSet { frames := 4, cells := 0, slots := 0, locals := 94 } D cI [.ref a0] (wX1 cI a0 a1 R) (wX1 cI a0 a1 R) (some (.int o)) := by
  refine Ct.of (cc := cX1_cycleSet) (maxL := 3) (ret := (some .int)) (by decide) rfl (Nat.le_of_ble_eq_true rfl) ?_
  intro p e s m args below meth c A F hP hD hS ls hl
  obtain ⟨hx, hb, hml, hr, hown, hts, hlk, hK, hA⟩ := F
  have hown : s.vm.findClass RX1 = some m.cls := hown
  have hl : lv_has ls 3 [(0, .ref a0)] := hl
  have hinX1 : ∀ w ∈ wsX10, w ∈ wsX1_cycleSet := by decide +kernel
  have hfl11 := hts (.fieldLink RX1 11 "CraneGuard$Site" "row" "[I") (by decide +kernel)
  unfold fX1_cycleSet at hf
  refine lv_iconst (v := (0 : Int32)) hx hb dX1_cycleSet_0 (by decide) ?_
  refine lv_istore_n (lv' := [(1, .int (0 : Int32)), (0, .ref a0)]) hx hb dX1_cycleSet_1 rfl hl (by decide) rfl (fun ls hl => ?_)
  refine lv_iconst (v := (0 : Int32)) hx hb dX1_cycleSet_2 (by decide) ?_
  refine lv_istore_n (lv' := [(2, .int (0 : Int32)), (1, .int (0 : Int32)), (0, .ref a0)]) hx hb dX1_cycleSet_3 rfl hl (by decide) rfl (fun ls hl => ?_)
  have hl : lv_has ls 3 [(2, .int (0 : Int32)), (1, .int (0 : Int32)), (0, .ref a0)] := hl
  refine klp hf (fun t4 : Int32 × Int32 => (wX1 cI a0 a1 R)) 3 (fun t4 : Int32 × Int32 => [(2, .int t4.2), (1, .int t4.1), (0, .ref a0)]) ?_ hP hD hS hl
  intro t4 x4_ hf hI1 hO1 H locs ls hP hD hS hl
  unfold fX1_cycleSet_L4 at hf
  have hP : va_P D vwCl (wX1 cI a0 a1 R) H := hP
  have hD : va_D A (wX1 cI a0 a1 R) := hD
  have hl : lv_has ls 3 [(2, .int t4.2), (1, .int t4.1), (0, .ref a0)] := hl
  refine lv_iload_n hx hb dX1_cycleSet_4 rfl (lv_at hl 0 rfl) ?_
  refine lv_aload_n hx hb dX1_cycleSet_5 rfl (lv_at hl 2 rfl) ?_
  refine va_get (D := D) (ci := 1) (v := .ref a1) (C := RX1) (T := TX1) (N := 1) hx hb hts hinX1 hown hK.1 hP 0 rfl rfl 0 (by decide) hfl11 (fun _ h9 => h9) rfl dX1_cycleSet_6 ?_
  refine lv_iconst (v := (2 : Int32)) hx hb dX1_cycleSet_9 (by decide) ?_
  obtain ⟨v10, h11, hf⟩ := kBind hf
  refine krd hx hb hK hP 1 rfl h11 dX1_cycleSet_10 ?_
  refine lv_icmp_ge (tgt := 34) hx hb dX1_cycleSet_11 (by decide) (fun c12 => ?_) (fun c12 => ?_)
  · have hf := kIfT c12 hf
    refine lv_iload_n hx hb dX1_cycleSet_34 rfl (lv_at hl 1 rfl) ?_
    have he := Option.some.inj hf
    have he := hO1 _ he.symm
    subst he
    exact kreti hx hb hr hlk hP hD hS dX1_cycleSet_35
  · have hf := kIfF c12 hf
    refine lv_aload_n hx hb dX1_cycleSet_14 rfl (lv_at hl 2 rfl) ?_
    refine lv_iload_n hx hb dX1_cycleSet_15 rfl (lv_at hl 0 rfl) ?_
    obtain ⟨v13, h14, hf⟩ := kBind hf
    refine kgoR (krunV (wc := (wX1 cI a0 a1 R)) (As := [.int t4.2]) (rest := []) (ci := 1) hx hb hml hown hts hK (kX1_blockersLeadBackTo l D cI fu a0 a1 R t4.2 v13 h14) gX1_cycleSet_X1_blockersLeadBackTo rfl rfl rfl hdX1_blockersLeadBackTo ⟨Nat.le_of_ble_eq_true rfl, Nat.le_of_ble_eq_true rfl⟩ hP hD rfl rfl rfl rfl hl.1 rfl (Nat.le_of_ble_eq_true rfl) dX1_cycleSet_16 ⟨Nat.zero_le _, Nat.zero_le _⟩) hP hD hS hA [0, 1] rfl (fun H locs hP hS => ?_)
    refine kif_eqb (tgt := 28) hx hb dX1_cycleSet_19 (by decide) (fun c15 => ?_) (fun c15 => ?_)
    · have hf := kIfF c15 hf
      refine lv_iinc (v := t4.2 + (1 : Int32)) (lv' := [(2, .int (t4.2 + (1 : Int32))), (1, .int t4.1), (0, .ref a0)]) hx hb dX1_cycleSet_28 hl (k := 0) rfl rfl (by decide) rfl (fun ls hl => ?_)
      refine lv_goto (tgt := 4) hx hb dX1_cycleSet_31 (by decide) ?_
      obtain ⟨z16, hz16⟩ : ∃ z : Int32, z = t4.2 + (1 : Int32) := ⟨_, rfl⟩
      rw [← hz16] at hf
      have he := (Option.some.inj hf).symm
      have hl : lv_has ls 3 [(2, .int z16), (1, .int t4.1), (0, .ref a0)] := by rw [hz16]; exact lv_sub hl [0, 1, 2] rfl
      exact hI1 _ he H locs ls hP hD hS hl
    · have hf := kIfT c15 hf
      refine lv_iload_n hx hb dX1_cycleSet_22 rfl (lv_at hl 1 rfl) ?_
      refine lv_iconst (v := (1 : Int32)) hx hb dX1_cycleSet_23 (by decide) ?_
      refine lv_iload_n hx hb dX1_cycleSet_24 rfl (lv_at hl 0 rfl) ?_
      refine kishl hx hb dX1_cycleSet_25 ?_
      refine lv_ior hx hb dX1_cycleSet_26 ?_
      refine lv_istore_n (lv' := [(1, .int (t4.1 ||| (jshl (1 : Int32) t4.2))), (2, .int t4.2), (0, .ref a0)]) hx hb dX1_cycleSet_27 rfl hl (by decide) rfl (fun ls hl => ?_)
      refine lv_iinc (v := t4.2 + (1 : Int32)) (lv' := [(2, .int (t4.2 + (1 : Int32))), (1, .int (t4.1 ||| (jshl (1 : Int32) t4.2))), (0, .ref a0)]) hx hb dX1_cycleSet_28 hl (k := 1) rfl rfl (by decide) rfl (fun ls hl => ?_)
      refine lv_goto (tgt := 4) hx hb dX1_cycleSet_31 (by decide) ?_
      obtain ⟨z17, hz17⟩ : ∃ z : Int32, z = t4.1 ||| (jshl (1 : Int32) t4.2) := ⟨_, rfl⟩
      rw [← hz17] at hf
      obtain ⟨z18, hz18⟩ : ∃ z : Int32, z = t4.2 + (1 : Int32) := ⟨_, rfl⟩
      rw [← hz18] at hf
      have he := (Option.some.inj hf).symm
      have hl : lv_has ls 3 [(2, .int z18), (1, .int z17), (0, .ref a0)] := by rw [hz17, hz18]; exact lv_sub hl [0, 1, 2] rfl
      exact hI1 _ he H locs ls hP hD hS hl
set_option maxHeartbeats 4000000 in
set_option maxRecDepth 100000 in
theorem kX1_dropNotes (l : Launch) (D : va_G) (cI : ClassId) (a0 a1 : Nat) (R : (Nat → Int32)) (o : Int32 × (Nat → Int32)) (hf : fX1_dropNotes R = some o) : Ct l yX1_dropNotes wsX1_dropNotes { frames := 0, cells := 0, slots := 0, locals := 0 } D cI [.ref a0] (wX1 cI a0 a1 R) (wX1 cI a0 a1 o.2) (some (.int o.1)) := by
  refine Ct.of (cc := cX1_dropNotes) (maxL := 2) (ret := (some .int)) (by decide) rfl (Nat.le_of_ble_eq_true rfl) ?_
  intro p e s m args below meth c A F hP hD hS ls hl
  obtain ⟨hx, hb, hml, hr, hown, hts, hlk, hK, hA⟩ := F
  have hown : s.vm.findClass RX1 = some m.cls := hown
  have hl : lv_has ls 2 [(0, .ref a0)] := hl
  have hinX1 : ∀ w ∈ wsX10, w ∈ wsX1_dropNotes := by decide +kernel
  have hfl11 := hts (.fieldLink RX1 11 "CraneGuard$Site" "row" "[I") (by decide +kernel)
  unfold fX1_dropNotes at hf
  refine lv_aload_n hx hb dX1_dropNotes_0 rfl (lv_at hl 0 rfl) ?_
  refine va_get (D := D) (ci := 1) (v := .ref a1) (C := RX1) (T := TX1) (N := 1) hx hb hts hinX1 hown hK.1 hP 0 rfl rfl 0 (by decide) hfl11 (fun _ h9 => h9) rfl dX1_dropNotes_1 ?_
  refine lv_iconst (v := (3 : Int32)) hx hb dX1_dropNotes_4 (by decide) ?_
  obtain ⟨v1, h2, hf⟩ := kBind hf
  refine krd hx hb hK hP 1 rfl h2 dX1_dropNotes_5 ?_
  refine lv_istore_n (lv' := [(1, .int v1), (0, .ref a0)]) hx hb dX1_dropNotes_6 rfl hl (by decide) rfl (fun ls hl => ?_)
  refine lv_aload_n hx hb dX1_dropNotes_7 rfl (lv_at hl 1 rfl) ?_
  refine va_get (D := D) (ci := 1) (v := .ref a1) (C := RX1) (T := TX1) (N := 1) hx hb hts hinX1 hown hK.1 hP 0 rfl rfl 0 (by decide) hfl11 (fun _ h9 => h9) rfl dX1_dropNotes_8 ?_
  refine lv_iconst (v := (3 : Int32)) hx hb dX1_dropNotes_11 (by decide) ?_
  refine lv_iconst (v := (0 : Int32)) hx hb dX1_dropNotes_12 (by decide) ?_
  obtain ⟨v3, h4, hf⟩ := kBind hf
  refine kwr hx hb hK hP hD hS 1 rfl h4 (wX1 cI a0 a1 v3) rfl dX1_dropNotes_13 (fun H locs hP hD hS => ?_)
  refine lv_iload_n hx hb dX1_dropNotes_14 rfl (lv_at hl 0 rfl) ?_
  have he := Option.some.inj hf
  subst he
  exact kreti hx hb hr hlk hP hD hS dX1_dropNotes_15
set_option maxHeartbeats 4000000 in
set_option maxRecDepth 100000 in
theorem kX1_endStep (l : Launch) (D : va_G) (cI : ClassId) (a0 a1 : Nat) (R : (Nat → Int32)) (x1 : Int32) (o : (Nat → Int32)) (hf : fX1_endStep R x1 = some o) : Ct l yX1_endStep wsX1_endStep { frames := 1, cells := 0, slots := 0, locals := 22 } D cI [.ref a0, .int x1] (wX1 cI a0 a1 R) (wX1 cI a0 a1 o) none := by
  refine Ct.of (cc := cX1_endStep) (maxL := 2) (ret := none) (by decide) rfl (Nat.le_of_ble_eq_true rfl) ?_
  intro p e s m args below meth c A F hP hD hS ls hl
  obtain ⟨hx, hb, hml, hr, hown, hts, hlk, hK, hA⟩ := F
  have hown : s.vm.findClass RX1 = some m.cls := hown
  have hl : lv_has ls 2 [(0, .ref a0), (1, .int x1)] := hl
  have hinX1 : ∀ w ∈ wsX10, w ∈ wsX1_endStep := by decide +kernel
  have hfl11 := hts (.fieldLink RX1 11 "CraneGuard$Site" "row" "[I") (by decide +kernel)
  unfold fX1_endStep at hf
  refine lv_aload_n hx hb dX1_endStep_0 rfl (lv_at hl 0 rfl) ?_
  refine va_get (D := D) (ci := 1) (v := .ref a1) (C := RX1) (T := TX1) (N := 1) hx hb hts hinX1 hown hK.1 hP 0 rfl rfl 0 (by decide) hfl11 (fun _ h9 => h9) rfl dX1_endStep_1 ?_
  refine lv_iconst (v := (4 : Int32)) hx hb dX1_endStep_4 (by decide) ?_
  refine lv_iload_n hx hb dX1_endStep_5 rfl (lv_at hl 1 rfl) ?_
  refine lv_iadd hx hb dX1_endStep_6 ?_
  refine lv_aload_n hx hb dX1_endStep_7 rfl (lv_at hl 0 rfl) ?_
  refine lv_iload_n hx hb dX1_endStep_8 rfl (lv_at hl 1 rfl) ?_
  obtain ⟨v1, h2, hf⟩ := kBind hf
  refine kgoR (krunV (wc := (wX1 cI a0 a1 R)) (As := [.int x1]) (rest := [.int ((4 : Int32) + x1), .ref a1]) (ci := 1) hx hb hml hown hts hK (kX1_nextAngle l D cI a0 a1 R x1 v1 h2) gX1_endStep_X1_nextAngle rfl rfl rfl hdX1_nextAngle ⟨Nat.le_of_ble_eq_true rfl, Nat.le_of_ble_eq_true rfl⟩ hP hD rfl rfl rfl rfl hl.1 rfl (Nat.le_of_ble_eq_true rfl) dX1_endStep_9 ⟨Nat.zero_le _, Nat.zero_le _⟩) hP hD hS hA [0, 1] rfl (fun H locs hP hS => ?_)
  obtain ⟨v3, h4, hf⟩ := kBind hf
  refine kwr hx hb hK hP hD hS 1 rfl h4 (wX1 cI a0 a1 v3) rfl dX1_endStep_12 (fun H locs hP hD hS => ?_)
  refine lv_aload_n hx hb dX1_endStep_13 rfl (lv_at hl 0 rfl) ?_
  refine va_get (D := D) (ci := 1) (v := .ref a1) (C := RX1) (T := TX1) (N := 1) hx hb hts hinX1 hown hK.1 hP 0 rfl rfl 0 (by decide) hfl11 (fun _ h9 => h9) rfl dX1_endStep_14 ?_
  refine lv_bipush (v := (24 : Int32)) hx hb dX1_endStep_17 (by decide) ?_
  refine lv_iload_n hx hb dX1_endStep_19 rfl (lv_at hl 1 rfl) ?_
  refine lv_iadd hx hb dX1_endStep_20 ?_
  refine lv_iconst (v := (0 : Int32)) hx hb dX1_endStep_21 (by decide) ?_
  obtain ⟨v5, h6, hf⟩ := kBind hf
  refine kwr hx hb hK hP hD hS 1 rfl h6 (wX1 cI a0 a1 v5) rfl dX1_endStep_22 (fun H locs hP hD hS => ?_)
  refine lv_aload_n hx hb dX1_endStep_23 rfl (lv_at hl 0 rfl) ?_
  refine va_get (D := D) (ci := 1) (v := .ref a1) (C := RX1) (T := TX1) (N := 1) hx hb hts hinX1 hown hK.1 hP 0 rfl rfl 0 (by decide) hfl11 (fun _ h9 => h9) rfl dX1_endStep_24 ?_
  refine lv_bipush (v := (40 : Int32)) hx hb dX1_endStep_27 (by decide) ?_
  refine lv_iload_n hx hb dX1_endStep_29 rfl (lv_at hl 1 rfl) ?_
  refine lv_iadd hx hb dX1_endStep_30 ?_
  refine lv_dup2_11 hx hb dX1_endStep_31 rfl rfl ?_
  obtain ⟨v7, h8, hf⟩ := kBind hf
  refine krd hx hb hK hP 1 rfl h8 dX1_endStep_32 ?_
  refine lv_iconst (v := (1 : Int32)) hx hb dX1_endStep_33 (by decide) ?_
  refine lv_iadd hx hb dX1_endStep_34 ?_
  obtain ⟨v9, h10, hf⟩ := kBind hf
  refine kwr hx hb hK hP hD hS 1 rfl h10 (wX1 cI a0 a1 v9) rfl dX1_endStep_35 (fun H locs hP hD hS => ?_)
  refine lv_aload_n hx hb dX1_endStep_36 rfl (lv_at hl 0 rfl) ?_
  refine va_get (D := D) (ci := 1) (v := .ref a1) (C := RX1) (T := TX1) (N := 1) hx hb hts hinX1 hown hK.1 hP 0 rfl rfl 0 (by decide) hfl11 (fun _ h9 => h9) rfl dX1_endStep_37 ?_
  refine lv_iconst (v := (4 : Int32)) hx hb dX1_endStep_40 (by decide) ?_
  refine lv_iload_n hx hb dX1_endStep_41 rfl (lv_at hl 1 rfl) ?_
  refine lv_iadd hx hb dX1_endStep_42 ?_
  obtain ⟨v11, h12, hf⟩ := kBind hf
  refine krd hx hb hK hP 1 rfl h12 dX1_endStep_43 ?_
  refine lv_aload_n hx hb dX1_endStep_44 rfl (lv_at hl 0 rfl) ?_
  refine va_get (D := D) (ci := 1) (v := .ref a1) (C := RX1) (T := TX1) (N := 1) hx hb hts hinX1 hown hK.1 hP 0 rfl rfl 0 (by decide) hfl11 (fun _ h9 => h9) rfl dX1_endStep_45 ?_
  refine lv_bipush (v := (16 : Int32)) hx hb dX1_endStep_48 (by decide) ?_
  refine lv_iload_n hx hb dX1_endStep_50 rfl (lv_at hl 1 rfl) ?_
  refine lv_iadd hx hb dX1_endStep_51 ?_
  obtain ⟨v13, h14, hf⟩ := kBind hf
  refine krd hx hb hK hP 1 rfl h14 dX1_endStep_52 ?_
  refine lv_icmp_ne (tgt := 62) hx hb dX1_endStep_53 (by decide) (fun c15 => ?_) (fun c15 => ?_)
  · have hf := kIfF c15 hf
    have he := Option.some.inj hf
    subst he
    exact kretv hx hb hr hlk hP hD hS dX1_endStep_62
  · have hf := kIfT c15 hf
    refine lv_aload_n hx hb dX1_endStep_56 rfl (lv_at hl 0 rfl) ?_
    refine lv_iload_n hx hb dX1_endStep_57 rfl (lv_at hl 1 rfl) ?_
    obtain ⟨v16, h17, hf⟩ := kBind hf
    refine kgoA (krunV (wc := (wX1 cI a0 a1 v9)) (As := [.int x1]) (rest := []) (ci := 1) hx hb hml hown hts hK (kX1_dropTarget l D cI a0 a1 v9 x1 v16 h17) gX1_endStep_X1_dropTarget rfl rfl rfl hdX1_dropTarget ⟨Nat.le_of_ble_eq_true rfl, Nat.le_of_ble_eq_true rfl⟩ hP hD rfl rfl rfl rfl hl.1 rfl (Nat.le_of_ble_eq_true rfl) dX1_endStep_58 ⟨Nat.zero_le _, Nat.zero_le _⟩) hD hS hA (fun H locs hP hD hS => ?_)
    refine lv_pop hx hb dX1_endStep_61 rfl ?_
    have he := Option.some.inj hf
    subst he
    exact kretv hx hb hr hlk hP hD hS dX1_endStep_62
set_option maxHeartbeats 4000000 in
set_option maxRecDepth 100000 in
theorem kX1_firstOf (l : Launch) (D : va_G) (cI : ClassId) (a0 a1 : Nat) (R : (Nat → Int32)) (x1 : Int32) (x2 : Int32) (o : Int32) (hf : fX1_firstOf R x1 x2 = some o) : Ct l yX1_firstOf wsX1_firstOf { frames := 0, cells := 0, slots := 0, locals := 0 } D cI [.ref a0, .int x1, .int x2] (wX1 cI a0 a1 R) (wX1 cI a0 a1 R) (some (.int o)) := by
  refine Ct.of (cc := cX1_firstOf) (maxL := 3) (ret := (some .int)) (by decide) rfl (Nat.le_of_ble_eq_true rfl) ?_
  intro p e s m args below meth c A F hP hD hS ls hl
  obtain ⟨hx, hb, hml, hr, hown, hts, hlk, hK, hA⟩ := F
  have hown : s.vm.findClass RX1 = some m.cls := hown
  have hl : lv_has ls 3 [(0, .ref a0), (1, .int x1), (2, .int x2)] := hl
  have hinX1 : ∀ w ∈ wsX10, w ∈ wsX1_firstOf := by decide +kernel
  have hfl11 := hts (.fieldLink RX1 11 "CraneGuard$Site" "row" "[I") (by decide +kernel)
  unfold fX1_firstOf at hf
  refine lv_aload_n hx hb dX1_firstOf_0 rfl (lv_at hl 0 rfl) ?_
  refine va_get (D := D) (ci := 1) (v := .ref a1) (C := RX1) (T := TX1) (N := 1) hx hb hts hinX1 hown hK.1 hP 0 rfl rfl 0 (by decide) hfl11 (fun _ h9 => h9) rfl dX1_firstOf_1 ?_
  refine lv_bipush (v := (44 : Int32)) hx hb dX1_firstOf_4 (by decide) ?_
  refine lv_iload_n hx hb dX1_firstOf_6 rfl (lv_at hl 1 rfl) ?_
  refine lv_bipush (v := (6 : Int32)) hx hb dX1_firstOf_7 (by decide) ?_
  refine lv_imul hx hb dX1_firstOf_9 ?_
  refine lv_iadd hx hb dX1_firstOf_10 ?_
  refine lv_iload_n hx hb dX1_firstOf_11 rfl (lv_at hl 2 rfl) ?_
  refine lv_iadd hx hb dX1_firstOf_12 ?_
  obtain ⟨v1, h2, hf⟩ := kBind hf
  refine krd hx hb hK hP 1 rfl h2 dX1_firstOf_13 ?_
  have he := Option.some.inj hf
  subst he
  exact kreti hx hb hr hlk hP hD hS dX1_firstOf_14
set_option maxHeartbeats 4000000 in
set_option maxRecDepth 100000 in
theorem kX1_hasArc (l : Launch) (D : va_G) (cI : ClassId) (a0 a1 : Nat) (R : (Nat → Int32)) (x1 : Int32) (x2 : Int32) (o : Bool) (hf : fX1_hasArc R x1 x2 = some o) : Ct l yX1_hasArc wsX1_hasArc { frames := 1, cells := 0, slots := 0, locals := 22 } D cI [.ref a0, .int x1, .int x2] (wX1 cI a0 a1 R) (wX1 cI a0 a1 R) (some (.int (bI o))) := by
  refine Ct.of (cc := cX1_hasArc) (maxL := 3) (ret := (some .boolean)) (by decide) rfl (Nat.le_of_ble_eq_true rfl) ?_
  intro p e s m args below meth c A F hP hD hS ls hl
  obtain ⟨hx, hb, hml, hr, hown, hts, hlk, hK, hA⟩ := F
  have hown : s.vm.findClass RX1 = some m.cls := hown
  have hl : lv_has ls 3 [(0, .ref a0), (1, .int x1), (2, .int x2)] := hl
  unfold fX1_hasArc at hf
  refine lv_aload_n hx hb dX1_hasArc_0 rfl (lv_at hl 0 rfl) ?_
  refine lv_iload_n hx hb dX1_hasArc_1 rfl (lv_at hl 1 rfl) ?_
  refine lv_iload_n hx hb dX1_hasArc_2 rfl (lv_at hl 2 rfl) ?_
  obtain ⟨v1, h2, hf⟩ := kBind hf
  refine kgoR (krunV (wc := (wX1 cI a0 a1 R)) (As := [.int x1, .int x2]) (rest := []) (ci := 1) hx hb hml hown hts hK (kX1_firstOf l D cI a0 a1 R x1 x2 v1 h2) gX1_hasArc_X1_firstOf rfl rfl rfl hdX1_firstOf ⟨Nat.le_of_ble_eq_true rfl, Nat.le_of_ble_eq_true rfl⟩ hP hD rfl rfl rfl rfl hl.1 rfl (Nat.le_of_ble_eq_true rfl) dX1_hasArc_3 ⟨Nat.zero_le _, Nat.zero_le _⟩) hP hD hS hA [0, 1] rfl (fun H locs hP hS => ?_)
  refine lv_bipush (v := (-100 : Int32)) hx hb dX1_hasArc_6 (by decide) ?_
  refine lv_icmp_eq (tgt := 15) hx hb dX1_hasArc_8 (by decide) (fun c3 => ?_) (fun c3 => ?_)
  · have hf := kIfT c3 hf
    refine lv_iconst (v := (0 : Int32)) hx hb dX1_hasArc_15 (by decide) ?_
    have he := Option.some.inj hf
    subst he
    exact kretz hx hb hr hlk hP hD hS dX1_hasArc_16
  · have hf := kIfF c3 hf
    refine lv_iconst (v := (1 : Int32)) hx hb dX1_hasArc_11 (by decide) ?_
    refine lv_goto (tgt := 16) hx hb dX1_hasArc_12 (by decide) ?_
    have he := Option.some.inj hf
    subst he
    exact kretz hx hb hr hlk hP hD hS dX1_hasArc_16
set_option maxHeartbeats 4000000 in
set_option maxRecDepth 100000 in
theorem kX1_hasCrane (l : Launch) (D : va_G) (cI : ClassId) (a0 a1 : Nat) (R : (Nat → Int32)) (x1 : Int32) (o : Bool) (hf : fX1_hasCrane R x1 = some o) : Ct l yX1_hasCrane wsX1_hasCrane { frames := 0, cells := 0, slots := 0, locals := 0 } D cI [.ref a0, .int x1] (wX1 cI a0 a1 R) (wX1 cI a0 a1 R) (some (.int (bI o))) := by
  refine Ct.of (cc := cX1_hasCrane) (maxL := 2) (ret := (some .boolean)) (by decide) rfl (Nat.le_of_ble_eq_true rfl) ?_
  intro p e s m args below meth c A F hP hD hS ls hl
  obtain ⟨hx, hb, hml, hr, hown, hts, hlk, hK, hA⟩ := F
  have hown : s.vm.findClass RX1 = some m.cls := hown
  have hl : lv_has ls 2 [(0, .ref a0), (1, .int x1)] := hl
  have hinX1 : ∀ w ∈ wsX10, w ∈ wsX1_hasCrane := by decide +kernel
  have hfl11 := hts (.fieldLink RX1 11 "CraneGuard$Site" "row" "[I") (by decide +kernel)
  unfold fX1_hasCrane at hf
  refine lv_iload_n hx hb dX1_hasCrane_0 rfl (lv_at hl 1 rfl) ?_
  refine lv_if_lt (tgt := 18) hx hb dX1_hasCrane_1 (by decide) (fun c1 => ?_) (fun c1 => ?_)
  · have hf := kIfT c1 hf
    refine lv_iconst (v := (0 : Int32)) hx hb dX1_hasCrane_18 (by decide) ?_
    have he := Option.some.inj hf
    subst he
    exact kretz hx hb hr hlk hP hD hS dX1_hasCrane_19
  · have hf := kIfF c1 hf
    refine lv_iload_n hx hb dX1_hasCrane_4 rfl (lv_at hl 1 rfl) ?_
    refine lv_aload_n hx hb dX1_hasCrane_5 rfl (lv_at hl 0 rfl) ?_
    refine va_get (D := D) (ci := 1) (v := .ref a1) (C := RX1) (T := TX1) (N := 1) hx hb hts hinX1 hown hK.1 hP 0 rfl rfl 0 (by decide) hfl11 (fun _ h9 => h9) rfl dX1_hasCrane_6 ?_
    refine lv_iconst (v := (2 : Int32)) hx hb dX1_hasCrane_9 (by decide) ?_
    obtain ⟨v2, h3, hf⟩ := kBind hf
    refine krd hx hb hK hP 1 rfl h3 dX1_hasCrane_10 ?_
    refine lv_icmp_ge (tgt := 18) hx hb dX1_hasCrane_11 (by decide) (fun c4 => ?_) (fun c4 => ?_)
    · have hf := kIfT c4 hf
      refine lv_iconst (v := (0 : Int32)) hx hb dX1_hasCrane_18 (by decide) ?_
      have he := Option.some.inj hf
      subst he
      exact kretz hx hb hr hlk hP hD hS dX1_hasCrane_19
    · have hf := kIfF c4 hf
      refine lv_iconst (v := (1 : Int32)) hx hb dX1_hasCrane_14 (by decide) ?_
      refine lv_goto (tgt := 19) hx hb dX1_hasCrane_15 (by decide) ?_
      have he := Option.some.inj hf
      subst he
      exact kretz hx hb hr hlk hP hD hS dX1_hasCrane_19
set_option maxHeartbeats 4000000 in
set_option maxRecDepth 100000 in
theorem kX1_property (l : Launch) (D : va_G) (cI : ClassId) (fu : Nat) (a0 a1 : Nat) (R : (Nat → Int32)) (x1 : Int32) (x2 : Int32) (o : Int32) (hf : fX1_property fu R x1 x2 = some o) : Ct l yX1_property wsX1_property { frames := 2, cells := 0, slots := 0, locals := 48 } D cI [.ref a0, .int x1, .int x2] (wX1 cI a0 a1 R) (wX1 cI a0 a1 R) (some (.int o)) := by
  refine Ct.of (cc := cX1_property) (maxL := 4) (ret := (some .int)) (by decide) rfl (Nat.le_of_ble_eq_true rfl) ?_
  intro p e s m args below meth c A F hP hD hS ls hl
  obtain ⟨hx, hb, hml, hr, hown, hts, hlk, hK, hA⟩ := F
  have hown : s.vm.findClass RX1 = some m.cls := hown
  have hl : lv_has ls 4 [(0, .ref a0), (1, .int x1), (2, .int x2)] := hl
  have hinX1 : ∀ w ∈ wsX10, w ∈ wsX1_property := by decide +kernel
  have hfl11 := hts (.fieldLink RX1 11 "CraneGuard$Site" "row" "[I") (by decide +kernel)
  unfold fX1_property at hf
  refine lv_iconst (v := (4 : Int32)) hx hb dX1_property_0 (by decide) ?_
  refine lv_iload_n hx hb dX1_property_1 rfl (lv_at hl 2 rfl) ?_
  refine lv_iconst (v := (4 : Int32)) hx hb dX1_property_2 (by decide) ?_
  refine lv_imul hx hb dX1_property_3 ?_
  refine lv_iadd hx hb dX1_property_4 ?_
  refine lv_istore_n (lv' := [(3, .int ((4 : Int32) + (x2 * (4 : Int32)))), (0, .ref a0), (1, .int x1), (2, .int x2)]) hx hb dX1_property_5 rfl hl (by decide) rfl (fun ls hl => ?_)
  refine lv_iload_n hx hb dX1_property_6 rfl (lv_at hl 0 rfl) ?_
  refine lv_bipush (v := (36 : Int32)) hx hb dX1_property_7 (by decide) ?_
  refine lv_icmp_ne (tgt := 20) hx hb dX1_property_9 (by decide) (fun c1 => ?_) (fun c1 => ?_)
  · have hf := kIfF c1 hf
    refine lv_aload_n hx hb dX1_property_20 rfl (lv_at hl 1 rfl) ?_
    refine va_get (D := D) (ci := 1) (v := .ref a1) (C := RX1) (T := TX1) (N := 1) hx hb hts hinX1 hown hK.1 hP 0 rfl rfl 0 (by decide) hfl11 (fun _ h9 => h9) rfl dX1_property_21 ?_
    refine lv_iload_n hx hb dX1_property_24 rfl (lv_at hl 0 rfl) ?_
    refine lv_iload_n hx hb dX1_property_25 rfl (lv_at hl 2 rfl) ?_
    refine lv_iadd hx hb dX1_property_26 ?_
    obtain ⟨v2, h3, hf⟩ := kBind hf
    refine krd hx hb hK hP 1 rfl h3 dX1_property_27 ?_
    have he := Option.some.inj hf
    subst he
    exact kreti hx hb hr hlk hP hD hS dX1_property_28
  · have hf := kIfT c1 hf
    refine lv_aload_n hx hb dX1_property_12 rfl (lv_at hl 1 rfl) ?_
    refine lv_iload_n hx hb dX1_property_13 rfl (lv_at hl 2 rfl) ?_
    obtain ⟨v4, h5, hf⟩ := kBind hf
    refine kgoR (krunV (wc := (wX1 cI a0 a1 R)) (As := [.int x1]) (rest := []) (ci := 1) hx hb hml hown hts hK (kX1_zonesOccupiedBy l D cI fu a0 a1 R x1 v4 h5) gX1_property_X1_zonesOccupiedBy rfl rfl rfl hdX1_zonesOccupiedBy ⟨Nat.le_of_ble_eq_true rfl, Nat.le_of_ble_eq_true rfl⟩ hP hD rfl rfl rfl rfl hl.1 rfl (Nat.le_of_ble_eq_true rfl) dX1_property_14 ⟨Nat.zero_le _, Nat.zero_le _⟩) hP hD hS hA [0, 1] rfl (fun H locs hP hS => ?_)
    refine lv_goto (tgt := 28) hx hb dX1_property_17 (by decide) ?_
    have he := Option.some.inj hf
    subst he
    exact kreti hx hb hr hlk hP hD hS dX1_property_28
set_option maxHeartbeats 4000000 in
set_option maxRecDepth 100000 in
theorem kX1_lastOf (l : Launch) (D : va_G) (cI : ClassId) (a0 a1 : Nat) (R : (Nat → Int32)) (x1 : Int32) (x2 : Int32) (o : Int32) (hf : fX1_lastOf R x1 x2 = some o) : Ct l yX1_lastOf wsX1_lastOf { frames := 0, cells := 0, slots := 0, locals := 0 } D cI [.ref a0, .int x1, .int x2] (wX1 cI a0 a1 R) (wX1 cI a0 a1 R) (some (.int o)) := by
  refine Ct.of (cc := cX1_lastOf) (maxL := 3) (ret := (some .int)) (by decide) rfl (Nat.le_of_ble_eq_true rfl) ?_
  intro p e s m args below meth c A F hP hD hS ls hl
  obtain ⟨hx, hb, hml, hr, hown, hts, hlk, hK, hA⟩ := F
  have hown : s.vm.findClass RX1 = some m.cls := hown
  have hl : lv_has ls 3 [(0, .ref a0), (1, .int x1), (2, .int x2)] := hl
  have hinX1 : ∀ w ∈ wsX10, w ∈ wsX1_lastOf := by decide +kernel
  have hfl11 := hts (.fieldLink RX1 11 "CraneGuard$Site" "row" "[I") (by decide +kernel)
  unfold fX1_lastOf at hf
  refine lv_aload_n hx hb dX1_lastOf_0 rfl (lv_at hl 0 rfl) ?_
  refine va_get (D := D) (ci := 1) (v := .ref a1) (C := RX1) (T := TX1) (N := 1) hx hb hts hinX1 hown hK.1 hP 0 rfl rfl 0 (by decide) hfl11 (fun _ h9 => h9) rfl dX1_lastOf_1 ?_
  refine lv_bipush (v := (68 : Int32)) hx hb dX1_lastOf_4 (by decide) ?_
  refine lv_iload_n hx hb dX1_lastOf_6 rfl (lv_at hl 1 rfl) ?_
  refine lv_bipush (v := (6 : Int32)) hx hb dX1_lastOf_7 (by decide) ?_
  refine lv_imul hx hb dX1_lastOf_9 ?_
  refine lv_iadd hx hb dX1_lastOf_10 ?_
  refine lv_iload_n hx hb dX1_lastOf_11 rfl (lv_at hl 2 rfl) ?_
  refine lv_iadd hx hb dX1_lastOf_12 ?_
  obtain ⟨v1, h2, hf⟩ := kBind hf
  refine krd hx hb hK hP 1 rfl h2 dX1_lastOf_13 ?_
  have he := Option.some.inj hf
  subst he
  exact kreti hx hb hr hlk hP hD hS dX1_lastOf_14
set_option maxHeartbeats 4000000 in
set_option maxRecDepth 100000 in
theorem kX1_hashWithCrane (l : Launch) (D : va_G) (cI : ClassId) (fu : Nat) (a0 a1 : Nat) (R : (Nat → Int32)) (x1 : Int64) (x3 : Int32) (o : Int64) (hf : fX1_hashWithCrane fu R x1 x3 = some o) : Ct l yX1_hashWithCrane wsX1_hashWithCrane { frames := 3, cells := 0, slots := 0, locals := 71 } D cI [.ref a0, .long x1, .int x3] (wX1 cI a0 a1 R) (wX1 cI a0 a1 R) (some (.long o)) := by
  refine Ct.of (cc := cX1_hashWithCrane) (maxL := 7) (ret := (some .long)) (by decide) rfl (Nat.le_of_ble_eq_true rfl) ?_
  intro p e s m args below meth c A F hP hD hS ls hl
  obtain ⟨hx, hb, hml, hr, hown, hts, hlk, hK, hA⟩ := F
  have hown : s.vm.findClass RX1 = some m.cls := hown
  have hl : lv_has ls 7 [(0, .ref a0), (1, .long x1), (3, .int x3)] := hl
  unfold fX1_hashWithCrane at hf
  refine lv_lload_n hx hb dX1_hashWithCrane_0 rfl (lv_at hl 1 rfl) ?_
  refine lv_lstore (lv' := [(4, .long x1), (0, .ref a0), (1, .long x1), (3, .int x3)]) hx hb dX1_hashWithCrane_1 hl (by decide) rfl (fun ls hl => ?_)
  refine lv_iconst (v := (0 : Int32)) hx hb dX1_hashWithCrane_3 (by decide) ?_
  refine lv_istore (lv' := [(6, .int (0 : Int32)), (4, .long x1), (0, .ref a0), (1, .long x1), (3, .int x3)]) hx hb dX1_hashWithCrane_4 hl (by decide) rfl (fun ls hl => ?_)
  have hl : lv_has ls 7 [(6, .int (0 : Int32)), (4, .long x1), (0, .ref a0), (1, .long x1), (3, .int x3)] := hl
  refine klp hf (fun t6 : Int64 × Int32 => (wX1 cI a0 a1 R)) 7 (fun t6 : Int64 × Int32 => [(6, .int t6.2), (4, .long t6.1), (0, .ref a0), (1, .long x1), (3, .int x3)]) ?_ hP hD hS hl
  intro t6 x6_ hf hI1 hO1 H locs ls hP hD hS hl
  unfold fX1_hashWithCrane_L6 at hf
  have hP : va_P D vwCl (wX1 cI a0 a1 R) H := hP
  have hD : va_D A (wX1 cI a0 a1 R) := hD
  have hl : lv_has ls 7 [(6, .int t6.2), (4, .long t6.1), (0, .ref a0), (1, .long x1), (3, .int x3)] := hl
  refine lv_iload hx hb dX1_hashWithCrane_6 (lv_at hl 0 rfl) ?_
  refine lv_bipush (v := (10 : Int32)) hx hb dX1_hashWithCrane_8 (by decide) ?_
  refine lv_icmp_ge (tgt := 36) hx hb dX1_hashWithCrane_10 (by decide) (fun c20 => ?_) (fun c20 => ?_)
  · have hf := kIfT c20 hf
    refine lv_iconst (v := (0 : Int32)) hx hb dX1_hashWithCrane_36 (by decide) ?_
    refine lv_istore (lv' := [(6, .int (0 : Int32)), (4, .long t6.1), (0, .ref a0), (1, .long x1), (3, .int x3)]) hx hb dX1_hashWithCrane_37 hl (by decide) rfl (fun ls hl => ?_)
    have hl : lv_has ls 7 [(6, .int (0 : Int32)), (4, .long t6.1), (0, .ref a0), (1, .long x1), (3, .int x3)] := hl
    refine klp hf (fun t39 : Int64 × Int32 => (wX1 cI a0 a1 R)) 7 (fun t39 : Int64 × Int32 => [(6, .int t39.2), (4, .long t39.1), (0, .ref a0), (1, .long x1), (3, .int x3)]) ?_ hP hD hS hl
    intro t39 x39_ hf hI2 hO2 H locs ls hP hD hS hl
    unfold fX1_hashWithCrane_L39 at hf
    have hP : va_P D vwCl (wX1 cI a0 a1 R) H := hP
    have hD : va_D A (wX1 cI a0 a1 R) := hD
    have hl : lv_has ls 7 [(6, .int t39.2), (4, .long t39.1), (0, .ref a0), (1, .long x1), (3, .int x3)] := hl
    refine lv_iload hx hb dX1_hashWithCrane_39 (lv_at hl 0 rfl) ?_
    refine lv_bipush (v := (6 : Int32)) hx hb dX1_hashWithCrane_41 (by decide) ?_
    refine lv_icmp_ge (tgt := 86) hx hb dX1_hashWithCrane_43 (by decide) (fun c21 => ?_) (fun c21 => ?_)
    · have hf := kIfT c21 hf
      refine lv_lload hx hb dX1_hashWithCrane_86 (lv_at hl 1 rfl) ?_
      have he := Option.some.inj hf
      have he := hO2 _ he.symm
      have he := hO1 _ he.symm
      subst he
      exact kretl hx hb hr hlk hP hD hS dX1_hashWithCrane_88
    · have hf := kIfF c21 hf
      refine lv_ldc2 (v := (31 : Int64)) hx hb hown (hts (.constantLong RX1 89 (31)) (by decide +kernel)) dX1_hashWithCrane_46 ?_
      refine lv_lload hx hb dX1_hashWithCrane_49 (lv_at hl 1 rfl) ?_
      refine lv_lmul hx hb dX1_hashWithCrane_51 ?_
      refine lv_aload_n hx hb dX1_hashWithCrane_52 rfl (lv_at hl 2 rfl) ?_
      refine lv_iload_n hx hb dX1_hashWithCrane_53 rfl (lv_at hl 4 rfl) ?_
      refine lv_iload hx hb dX1_hashWithCrane_54 (lv_at hl 0 rfl) ?_
      obtain ⟨v22, h23, hf⟩ := kBind hf
      refine kgoR (krunV (wc := (wX1 cI a0 a1 R)) (As := [.int x3, .int t39.2]) (rest := [.long ((31 : Int64) * t39.1)]) (ci := 1) hx hb hml hown hts hK (kX1_firstOf l D cI a0 a1 R x3 t39.2 v22 h23) gX1_hashWithCrane_X1_firstOf rfl rfl rfl hdX1_firstOf ⟨Nat.le_of_ble_eq_true rfl, Nat.le_of_ble_eq_true rfl⟩ hP hD rfl rfl rfl rfl hl.1 rfl (Nat.le_of_ble_eq_true rfl) dX1_hashWithCrane_56 ⟨Nat.zero_le _, Nat.zero_le _⟩) hP hD hS hA [0, 1] rfl (fun H locs hP hS => ?_)
      refine lv_i2l hx hb dX1_hashWithCrane_59 rfl ?_
      refine lv_ladd hx hb dX1_hashWithCrane_60 ?_
      refine lv_lstore (lv' := [(4, .long (((31 : Int64) * t39.1) + (Int32.toInt64 v22))), (6, .int t39.2), (0, .ref a0), (1, .long x1), (3, .int x3)]) hx hb dX1_hashWithCrane_61 hl (by decide) rfl (fun ls hl => ?_)
      refine lv_ldc2 (v := (31 : Int64)) hx hb hown (hts (.constantLong RX1 89 (31)) (by decide +kernel)) dX1_hashWithCrane_63 ?_
      refine lv_lload hx hb dX1_hashWithCrane_66 (lv_at hl 0 rfl) ?_
      refine lv_lmul hx hb dX1_hashWithCrane_68 ?_
      refine lv_aload_n hx hb dX1_hashWithCrane_69 rfl (lv_at hl 2 rfl) ?_
      refine lv_iload_n hx hb dX1_hashWithCrane_70 rfl (lv_at hl 4 rfl) ?_
      refine lv_iload hx hb dX1_hashWithCrane_71 (lv_at hl 1 rfl) ?_
      obtain ⟨v24, h25, hf⟩ := kBind hf
      refine kgoR (krunV (wc := (wX1 cI a0 a1 R)) (As := [.int x3, .int t39.2]) (rest := [.long ((31 : Int64) * (((31 : Int64) * t39.1) + (Int32.toInt64 v22)))]) (ci := 1) hx hb hml hown hts hK (kX1_lastOf l D cI a0 a1 R x3 t39.2 v24 h25) gX1_hashWithCrane_X1_lastOf rfl rfl rfl hdX1_lastOf ⟨Nat.le_of_ble_eq_true rfl, Nat.le_of_ble_eq_true rfl⟩ hP hD rfl rfl rfl rfl hl.1 rfl (Nat.le_of_ble_eq_true rfl) dX1_hashWithCrane_73 ⟨Nat.zero_le _, Nat.zero_le _⟩) hP hD hS hA [0, 1] rfl (fun H locs hP hS => ?_)
      refine lv_i2l hx hb dX1_hashWithCrane_76 rfl ?_
      refine lv_ladd hx hb dX1_hashWithCrane_77 ?_
      refine lv_lstore (lv' := [(4, .long (((31 : Int64) * (((31 : Int64) * t39.1) + (Int32.toInt64 v22))) + (Int32.toInt64 v24))), (6, .int t39.2), (0, .ref a0), (1, .long x1), (3, .int x3)]) hx hb dX1_hashWithCrane_78 hl (by decide) rfl (fun ls hl => ?_)
      refine lv_iinc (v := t39.2 + (1 : Int32)) (lv' := [(6, .int (t39.2 + (1 : Int32))), (4, .long (((31 : Int64) * (((31 : Int64) * t39.1) + (Int32.toInt64 v22))) + (Int32.toInt64 v24))), (0, .ref a0), (1, .long x1), (3, .int x3)]) hx hb dX1_hashWithCrane_80 hl (k := 1) rfl rfl (by decide) rfl (fun ls hl => ?_)
      refine lv_goto (tgt := 39) hx hb dX1_hashWithCrane_83 (by decide) ?_
      obtain ⟨z26, hz26⟩ : ∃ z : Int64, z = ((31 : Int64) * (((31 : Int64) * t39.1) + (Int32.toInt64 v22))) + (Int32.toInt64 v24) := ⟨_, rfl⟩
      rw [← hz26] at hf
      obtain ⟨z27, hz27⟩ : ∃ z : Int32, z = t39.2 + (1 : Int32) := ⟨_, rfl⟩
      rw [← hz27] at hf
      have he := (Option.some.inj hf).symm
      have hl : lv_has ls 7 [(6, .int z27), (4, .long z26), (0, .ref a0), (1, .long x1), (3, .int x3)] := by rw [hz26, hz27]; exact lv_sub hl [0, 1, 2, 3, 4] rfl
      exact hI2 _ he H locs ls hP hD hS hl
  · have hf := kIfF c20 hf
    refine lv_ldc2 (v := (31 : Int64)) hx hb hown (hts (.constantLong RX1 89 (31)) (by decide +kernel)) dX1_hashWithCrane_13 ?_
    refine lv_lload hx hb dX1_hashWithCrane_16 (lv_at hl 1 rfl) ?_
    refine lv_lmul hx hb dX1_hashWithCrane_18 ?_
    refine lv_aload_n hx hb dX1_hashWithCrane_19 rfl (lv_at hl 2 rfl) ?_
    refine lv_iload_n hx hb dX1_hashWithCrane_20 rfl (lv_at hl 4 rfl) ?_
    refine lv_iload hx hb dX1_hashWithCrane_21 (lv_at hl 0 rfl) ?_
    obtain ⟨v28, h29, hf⟩ := kBind hf
    refine kgoR (krunV (wc := (wX1 cI a0 a1 R)) (As := [.int x3, .int t6.2]) (rest := [.long ((31 : Int64) * t6.1)]) (ci := 1) hx hb hml hown hts hK (kX1_property l D cI fu a0 a1 R x3 t6.2 v28 h29) gX1_hashWithCrane_X1_property rfl rfl rfl hdX1_property ⟨Nat.le_of_ble_eq_true rfl, Nat.le_of_ble_eq_true rfl⟩ hP hD rfl rfl rfl rfl hl.1 rfl (Nat.le_of_ble_eq_true rfl) dX1_hashWithCrane_23 ⟨Nat.zero_le _, Nat.zero_le _⟩) hP hD hS hA [0, 1] rfl (fun H locs hP hS => ?_)
    refine lv_i2l hx hb dX1_hashWithCrane_26 rfl ?_
    refine lv_ladd hx hb dX1_hashWithCrane_27 ?_
    refine lv_lstore (lv' := [(4, .long (((31 : Int64) * t6.1) + (Int32.toInt64 v28))), (6, .int t6.2), (0, .ref a0), (1, .long x1), (3, .int x3)]) hx hb dX1_hashWithCrane_28 hl (by decide) rfl (fun ls hl => ?_)
    refine lv_iinc (v := t6.2 + (1 : Int32)) (lv' := [(6, .int (t6.2 + (1 : Int32))), (4, .long (((31 : Int64) * t6.1) + (Int32.toInt64 v28))), (0, .ref a0), (1, .long x1), (3, .int x3)]) hx hb dX1_hashWithCrane_30 hl (k := 1) rfl rfl (by decide) rfl (fun ls hl => ?_)
    refine lv_goto (tgt := 6) hx hb dX1_hashWithCrane_33 (by decide) ?_
    obtain ⟨z30, hz30⟩ : ∃ z : Int64, z = ((31 : Int64) * t6.1) + (Int32.toInt64 v28) := ⟨_, rfl⟩
    rw [← hz30] at hf
    obtain ⟨z31, hz31⟩ : ∃ z : Int32, z = t6.2 + (1 : Int32) := ⟨_, rfl⟩
    rw [← hz31] at hf
    have he := (Option.some.inj hf).symm
    have hl : lv_has ls 7 [(6, .int z31), (4, .long z30), (0, .ref a0), (1, .long x1), (3, .int x3)] := by rw [hz30, hz31]; exact lv_sub hl [0, 1, 2, 3, 4] rfl
    exact hI1 _ he H locs ls hP hD hS hl
