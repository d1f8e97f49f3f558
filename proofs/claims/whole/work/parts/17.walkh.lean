set_option maxHeartbeats 4000000 in
set_option maxRecDepth 100000 in
theorem kX4_steps (l : Launch) (D : va_G) (cI : ClassId) (a0 a1 a2 : Nat) (M : (Nat → Int32)) (SV : Int32) (MX : (Nat → Int32)) (ML : Int32) (MA : Int32) (MH : Int64) (x1 : Int32) (o : (Nat → Int32)) (hf : fX4_steps M x1 = some o) : Ct l yX4_steps wsX4_steps { frames := 2, cells := 0, slots := 0, locals := 44 } D cI [.ref a0, .int x1] (wX4 cI a0 a1 a2 M SV MX ML MA MH) (wX4 cI a0 a1 a2 o SV MX ML MA MH) none := by
  refine Ct.of (cc := cX4_steps) (maxL := 2) (ret := none) (by decide) rfl (Nat.le_of_ble_eq_true rfl) ?_
  intro p e s m args below meth c A F hP hD hS ls hl
  obtain ⟨hx, hb, hml, hr, hown, hts, hlk, hK, hA⟩ := F
  have hown : s.vm.findClass RX4 = some m.cls := hown
  have hl : lv_has ls 2 [(0, .ref a0), (1, .int x1)] := hl
  unfold fX4_steps at hf
  refine lv_aload_n hx hb dX4_steps_0 rfl (lv_at hl 0 rfl) ?_
  refine lv_iload_n hx hb dX4_steps_1 rfl (lv_at hl 1 rfl) ?_
  refine lv_iconst (v := (0 : Int32)) hx hb dX4_steps_2 (by decide) ?_
  refine lv_aload_n hx hb dX4_steps_3 rfl (lv_at hl 0 rfl) ?_
  refine lv_iload_n hx hb dX4_steps_4 rfl (lv_at hl 1 rfl) ?_
  obtain ⟨v1, h2, hf⟩ := kBind hf
  refine kgoR (krunV (wc := (wX4 cI a0 a1 a2 M SV MX ML MA MH)) (As := [.int x1]) (rest := [.int (0 : Int32), .int x1, .ref a0]) (ci := 4) hx hb hml hown hts hK (kX4_nextOf l D cI a0 a1 a2 M SV MX ML MA MH x1 v1 h2) gX4_steps_X4_nextOf rfl rfl rfl hdX4_nextOf ⟨Nat.le_of_ble_eq_true rfl, Nat.le_of_ble_eq_true rfl⟩ hP hD rfl rfl rfl rfl hl.1 rfl (Nat.le_of_ble_eq_true rfl) dX4_steps_5 ⟨Nat.zero_le _, Nat.zero_le _⟩) hP hD hS hA [0, 1, 2] rfl (fun H locs hP hS => ?_)
  obtain ⟨v3, h4, hf⟩ := kBind hf
  refine kgoA (krunV (wc := (wX4 cI a0 a1 a2 M SV MX ML MA MH)) (As := [.int x1, .int (0 : Int32), .int v1]) (rest := []) (ci := 4) hx hb hml hown hts hK (kX4_sets l D cI a0 a1 a2 M SV MX ML MA MH x1 (0 : Int32) v1 v3 h4) gX4_steps_X4_sets rfl rfl rfl hdX4_sets ⟨Nat.le_of_ble_eq_true rfl, Nat.le_of_ble_eq_true rfl⟩ hP hD rfl rfl rfl rfl hl.1 rfl (Nat.le_of_ble_eq_true rfl) dX4_steps_8 ⟨Nat.zero_le _, Nat.zero_le _⟩) hD hS hA (fun H locs hP hD hS => ?_)
  refine lv_aload_n hx hb dX4_steps_11 rfl (lv_at hl 0 rfl) ?_
  refine lv_iload_n hx hb dX4_steps_12 rfl (lv_at hl 1 rfl) ?_
  refine lv_iconst (v := (5 : Int32)) hx hb dX4_steps_13 (by decide) ?_
  refine lv_iconst (v := (0 : Int32)) hx hb dX4_steps_14 (by decide) ?_
  obtain ⟨v5, h6, hf⟩ := kBind hf
  refine kgoA (krunV (wc := (wX4 cI a0 a1 a2 v3 SV MX ML MA MH)) (As := [.int x1, .int (5 : Int32), .int (0 : Int32)]) (rest := []) (ci := 4) hx hb hml hown hts hK (kX4_sets l D cI a0 a1 a2 v3 SV MX ML MA MH x1 (5 : Int32) (0 : Int32) v5 h6) gX4_steps_X4_sets rfl rfl rfl hdX4_sets ⟨Nat.le_of_ble_eq_true rfl, Nat.le_of_ble_eq_true rfl⟩ hP hD rfl rfl rfl rfl hl.1 rfl (Nat.le_of_ble_eq_true rfl) dX4_steps_15 ⟨Nat.zero_le _, Nat.zero_le _⟩) hD hS hA (fun H locs hP hD hS => ?_)
  refine lv_aload_n hx hb dX4_steps_18 rfl (lv_at hl 0 rfl) ?_
  refine lv_iload_n hx hb dX4_steps_19 rfl (lv_at hl 1 rfl) ?_
  refine lv_bipush (v := (8 : Int32)) hx hb dX4_steps_20 (by decide) ?_
  refine lv_aload_n hx hb dX4_steps_22 rfl (lv_at hl 0 rfl) ?_
  refine lv_iload_n hx hb dX4_steps_23 rfl (lv_at hl 1 rfl) ?_
  refine lv_bipush (v := (8 : Int32)) hx hb dX4_steps_24 (by decide) ?_
  obtain ⟨v7, h8, hf⟩ := kBind hf
  refine kgoR (krunV (wc := (wX4 cI a0 a1 a2 v5 SV MX ML MA MH)) (As := [.int x1, .int (8 : Int32)]) (rest := [.int (8 : Int32), .int x1, .ref a0]) (ci := 4) hx hb hml hown hts hK (kX4_of l D cI a0 a1 a2 v5 SV MX ML MA MH x1 (8 : Int32) v7 h8) gX4_steps_X4_of rfl rfl rfl hdX4_of ⟨Nat.le_of_ble_eq_true rfl, Nat.le_of_ble_eq_true rfl⟩ hP hD rfl rfl rfl rfl hl.1 rfl (Nat.le_of_ble_eq_true rfl) dX4_steps_26 ⟨Nat.zero_le _, Nat.zero_le _⟩) hP hD hS hA [0, 1, 2] rfl (fun H locs hP hS => ?_)
  refine lv_iconst (v := (1 : Int32)) hx hb dX4_steps_29 (by decide) ?_
  refine lv_iadd hx hb dX4_steps_30 ?_
  obtain ⟨v9, h10, hf⟩ := kBind hf
  refine kgoA (krunV (wc := (wX4 cI a0 a1 a2 v5 SV MX ML MA MH)) (As := [.int x1, .int (8 : Int32), .int (v7 + (1 : Int32))]) (rest := []) (ci := 4) hx hb hml hown hts hK (kX4_sets l D cI a0 a1 a2 v5 SV MX ML MA MH x1 (8 : Int32) (v7 + (1 : Int32)) v9 h10) gX4_steps_X4_sets rfl rfl rfl hdX4_sets ⟨Nat.le_of_ble_eq_true rfl, Nat.le_of_ble_eq_true rfl⟩ hP hD rfl rfl rfl rfl hl.1 rfl (Nat.le_of_ble_eq_true rfl) dX4_steps_31 ⟨Nat.zero_le _, Nat.zero_le _⟩) hD hS hA (fun H locs hP hD hS => ?_)
  refine lv_aload_n hx hb dX4_steps_34 rfl (lv_at hl 0 rfl) ?_
  refine lv_iload_n hx hb dX4_steps_35 rfl (lv_at hl 1 rfl) ?_
  refine lv_iconst (v := (0 : Int32)) hx hb dX4_steps_36 (by decide) ?_
  obtain ⟨v11, h12, hf⟩ := kBind hf
  refine kgoR (krunV (wc := (wX4 cI a0 a1 a2 v9 SV MX ML MA MH)) (As := [.int x1, .int (0 : Int32)]) (rest := []) (ci := 4) hx hb hml hown hts hK (kX4_of l D cI a0 a1 a2 v9 SV MX ML MA MH x1 (0 : Int32) v11 h12) gX4_steps_X4_of rfl rfl rfl hdX4_of ⟨Nat.le_of_ble_eq_true rfl, Nat.le_of_ble_eq_true rfl⟩ hP hD rfl rfl rfl rfl hl.1 rfl (Nat.le_of_ble_eq_true rfl) dX4_steps_37 ⟨Nat.zero_le _, Nat.zero_le _⟩) hP hD hS hA [0, 1, 2] rfl (fun H locs hP hS => ?_)
  refine lv_aload_n hx hb dX4_steps_40 rfl (lv_at hl 0 rfl) ?_
  refine lv_iload_n hx hb dX4_steps_41 rfl (lv_at hl 1 rfl) ?_
  refine lv_iconst (v := (3 : Int32)) hx hb dX4_steps_42 (by decide) ?_
  obtain ⟨v13, h14, hf⟩ := kBind hf
  refine kgoR (krunV (wc := (wX4 cI a0 a1 a2 v9 SV MX ML MA MH)) (As := [.int x1, .int (3 : Int32)]) (rest := [.int v11]) (ci := 4) hx hb hml hown hts hK (kX4_of l D cI a0 a1 a2 v9 SV MX ML MA MH x1 (3 : Int32) v13 h14) gX4_steps_X4_of rfl rfl rfl hdX4_of ⟨Nat.le_of_ble_eq_true rfl, Nat.le_of_ble_eq_true rfl⟩ hP hD rfl rfl rfl rfl hl.1 rfl (Nat.le_of_ble_eq_true rfl) dX4_steps_43 ⟨Nat.zero_le _, Nat.zero_le _⟩) hP hD hS hA [0, 1, 2] rfl (fun H locs hP hS => ?_)
  refine lv_icmp_ne (tgt := 54) hx hb dX4_steps_46 (by decide) (fun c15 => ?_) (fun c15 => ?_)
  · have hf := kIfF c15 hf
    have he := Option.some.inj hf
    subst he
    exact kretv hx hb hr hlk hP hD hS dX4_steps_54
  · have hf := kIfT c15 hf
    refine lv_aload_n hx hb dX4_steps_49 rfl (lv_at hl 0 rfl) ?_
    refine lv_iload_n hx hb dX4_steps_50 rfl (lv_at hl 1 rfl) ?_
    obtain ⟨v16, h17, hf⟩ := kBind hf
    refine kgoA (krunV (wc := (wX4 cI a0 a1 a2 v9 SV MX ML MA MH)) (As := [.int x1]) (rest := []) (ci := 4) hx hb hml hown hts hK (kX4_noTarget l D cI a0 a1 a2 v9 SV MX ML MA MH x1 v16 h17) gX4_steps_X4_noTarget rfl rfl rfl hdX4_noTarget ⟨Nat.le_of_ble_eq_true rfl, Nat.le_of_ble_eq_true rfl⟩ hP hD rfl rfl rfl rfl hl.1 rfl (Nat.le_of_ble_eq_true rfl) dX4_steps_51 ⟨Nat.zero_le _, Nat.zero_le _⟩) hD hS hA (fun H locs hP hD hS => ?_)
    have he := Option.some.inj hf
    subst he
    exact kretv hx hb hr hlk hP hD hS dX4_steps_54
set_option maxHeartbeats 4000000 in
set_option maxRecDepth 100000 in
theorem kX4_turn (l : Launch) (D : va_G) (cI : ClassId) (fu : Nat) (a0 a1 a2 : Nat) (M : (Nat → Int32)) (SV : Int32) (MX : (Nat → Int32)) (ML : Int32) (MA : Int32) (MH : Int64) (x1 : Int32) (o : (Nat → Int32)) (hf : fX4_turn fu M x1 = some o) : Ct l yX4_turn wsX4_turn { frames := 5, cells := 0, slots := 0, locals := 114 } D cI [.ref a0, .int x1] (wX4 cI a0 a1 a2 M SV MX ML MA MH) (wX4 cI a0 a1 a2 o SV MX ML MA MH) none := by
  refine Ct.of (cc := cX4_turn) (maxL := 3) (ret := none) (by decide) rfl (Nat.le_of_ble_eq_true rfl) ?_
  intro p e s m args below meth c A F hP hD hS ls hl
  obtain ⟨hx, hb, hml, hr, hown, hts, hlk, hK, hA⟩ := F
  have hown : s.vm.findClass RX4 = some m.cls := hown
  have hl : lv_has ls 3 [(0, .ref a0), (1, .int x1)] := hl
  have hinX4 : ∀ w ∈ wsX40, w ∈ wsX4_turn := by decide +kernel
  have hfl7 := hts (.fieldLink RX4 7 "CraneGuardModel" "row" "[I") (by decide +kernel)
  unfold fX4_turn at hf
  refine lv_aload_n hx hb dX4_turn_0 rfl (lv_at hl 0 rfl) ?_
  refine lv_iload_n hx hb dX4_turn_1 rfl (lv_at hl 1 rfl) ?_
  refine lv_bipush (v := (7 : Int32)) hx hb dX4_turn_2 (by decide) ?_
  obtain ⟨v1, h2, hf⟩ := kBind hf
  refine kgoR (krunV (wc := (wX4 cI a0 a1 a2 M SV MX ML MA MH)) (As := [.int x1, .int (7 : Int32)]) (rest := []) (ci := 4) hx hb hml hown hts hK (kX4_of l D cI a0 a1 a2 M SV MX ML MA MH x1 (7 : Int32) v1 h2) gX4_turn_X4_of rfl rfl rfl hdX4_of ⟨Nat.le_of_ble_eq_true rfl, Nat.le_of_ble_eq_true rfl⟩ hP hD rfl rfl rfl rfl hl.1 rfl (Nat.le_of_ble_eq_true rfl) dX4_turn_4 ⟨Nat.zero_le _, Nat.zero_le _⟩) hP hD hS hA [0, 1, 2] rfl (fun H locs hP hS => ?_)
  refine lv_iconst (v := (1 : Int32)) hx hb dX4_turn_7 (by decide) ?_
  refine lv_icmp_ne (tgt := 65) hx hb dX4_turn_8 (by decide) (fun c3 => ?_) (fun c3 => ?_)
  · have hf := kIfF c3 hf
    refine lv_aload_n hx hb dX4_turn_65 rfl (lv_at hl 0 rfl) ?_
    refine lv_iload_n hx hb dX4_turn_66 rfl (lv_at hl 1 rfl) ?_
    obtain ⟨v4, h5, hf⟩ := kBind hf
    refine kgoR (krunV (wc := (wX4 cI a0 a1 a2 M SV MX ML MA MH)) (As := [.int x1]) (rest := []) (ci := 4) hx hb hml hown hts hK (kX4_isBlocked l D cI fu a0 a1 a2 M SV MX ML MA MH x1 v4 h5) gX4_turn_X4_isBlocked rfl rfl rfl hdX4_isBlocked ⟨Nat.le_of_ble_eq_true rfl, Nat.le_of_ble_eq_true rfl⟩ hP hD rfl rfl rfl rfl hl.1 rfl (Nat.le_of_ble_eq_true rfl) dX4_turn_67 ⟨Nat.zero_le _, Nat.zero_le _⟩) hP hD hS hA [0, 1, 2] rfl (fun H locs hP hS => ?_)
    refine kif_eqb (tgt := 92) hx hb dX4_turn_70 (by decide) (fun c6 => ?_) (fun c6 => ?_)
    · have hf := kIfF c6 hf
      refine lv_aload_n hx hb dX4_turn_92 rfl (lv_at hl 0 rfl) ?_
      refine lv_iload_n hx hb dX4_turn_93 rfl (lv_at hl 1 rfl) ?_
      obtain ⟨v7, h8, hf⟩ := kBind hf
      refine kgoR (krunV (wc := (wX4 cI a0 a1 a2 M SV MX ML MA MH)) (As := [.int x1]) (rest := []) (ci := 4) hx hb hml hown hts hK (kX4_hasTarget l D cI a0 a1 a2 M SV MX ML MA MH x1 v7 h8) gX4_turn_X4_hasTarget rfl rfl rfl hdX4_hasTarget ⟨Nat.le_of_ble_eq_true rfl, Nat.le_of_ble_eq_true rfl⟩ hP hD rfl rfl rfl rfl hl.1 rfl (Nat.le_of_ble_eq_true rfl) dX4_turn_94 ⟨Nat.zero_le _, Nat.zero_le _⟩) hP hD hS hA [0, 1, 2] rfl (fun H locs hP hS => ?_)
      refine kif_eqb (tgt := 134) hx hb dX4_turn_97 (by decide) (fun c9 => ?_) (fun c9 => ?_)
      · have hf := kIfF c9 hf
        have he := Option.some.inj hf
        subst he
        exact kretv hx hb hr hlk hP hD hS dX4_turn_134
      · have hf := kIfT c9 hf
        refine lv_aload_n hx hb dX4_turn_100 rfl (lv_at hl 0 rfl) ?_
        refine lv_iload_n hx hb dX4_turn_101 rfl (lv_at hl 1 rfl) ?_
        refine lv_iconst (v := (5 : Int32)) hx hb dX4_turn_102 (by decide) ?_
        refine lv_aload_n hx hb dX4_turn_103 rfl (lv_at hl 0 rfl) ?_
        refine lv_iload_n hx hb dX4_turn_104 rfl (lv_at hl 1 rfl) ?_
        refine lv_iconst (v := (5 : Int32)) hx hb dX4_turn_105 (by decide) ?_
        obtain ⟨v10, h11, hf⟩ := kBind hf
        refine kgoR (krunV (wc := (wX4 cI a0 a1 a2 M SV MX ML MA MH)) (As := [.int x1, .int (5 : Int32)]) (rest := [.int (5 : Int32), .int x1, .ref a0]) (ci := 4) hx hb hml hown hts hK (kX4_of l D cI a0 a1 a2 M SV MX ML MA MH x1 (5 : Int32) v10 h11) gX4_turn_X4_of rfl rfl rfl hdX4_of ⟨Nat.le_of_ble_eq_true rfl, Nat.le_of_ble_eq_true rfl⟩ hP hD rfl rfl rfl rfl hl.1 rfl (Nat.le_of_ble_eq_true rfl) dX4_turn_106 ⟨Nat.zero_le _, Nat.zero_le _⟩) hP hD hS hA [0, 1, 2] rfl (fun H locs hP hS => ?_)
        refine lv_iconst (v := (1 : Int32)) hx hb dX4_turn_109 (by decide) ?_
        refine lv_iadd hx hb dX4_turn_110 ?_
        obtain ⟨v12, h13, hf⟩ := kBind hf
        refine kgoA (krunV (wc := (wX4 cI a0 a1 a2 M SV MX ML MA MH)) (As := [.int x1, .int (5 : Int32), .int (v10 + (1 : Int32))]) (rest := []) (ci := 4) hx hb hml hown hts hK (kX4_sets l D cI a0 a1 a2 M SV MX ML MA MH x1 (5 : Int32) (v10 + (1 : Int32)) v12 h13) gX4_turn_X4_sets rfl rfl rfl hdX4_sets ⟨Nat.le_of_ble_eq_true rfl, Nat.le_of_ble_eq_true rfl⟩ hP hD rfl rfl rfl rfl hl.1 rfl (Nat.le_of_ble_eq_true rfl) dX4_turn_111 ⟨Nat.zero_le _, Nat.zero_le _⟩) hD hS hA (fun H locs hP hD hS => ?_)
        refine lv_aload_n hx hb dX4_turn_114 rfl (lv_at hl 0 rfl) ?_
        refine lv_iload_n hx hb dX4_turn_115 rfl (lv_at hl 1 rfl) ?_
        refine lv_iconst (v := (5 : Int32)) hx hb dX4_turn_116 (by decide) ?_
        obtain ⟨v14, h15, hf⟩ := kBind hf
        refine kgoR (krunV (wc := (wX4 cI a0 a1 a2 v12 SV MX ML MA MH)) (As := [.int x1, .int (5 : Int32)]) (rest := []) (ci := 4) hx hb hml hown hts hK (kX4_of l D cI a0 a1 a2 v12 SV MX ML MA MH x1 (5 : Int32) v14 h15) gX4_turn_X4_of rfl rfl rfl hdX4_of ⟨Nat.le_of_ble_eq_true rfl, Nat.le_of_ble_eq_true rfl⟩ hP hD rfl rfl rfl rfl hl.1 rfl (Nat.le_of_ble_eq_true rfl) dX4_turn_117 ⟨Nat.zero_le _, Nat.zero_le _⟩) hP hD hS hA [0, 1, 2] rfl (fun H locs hP hS => ?_)
        refine lv_aload_n hx hb dX4_turn_120 rfl (lv_at hl 0 rfl) ?_
        refine lv_iload_n hx hb dX4_turn_121 rfl (lv_at hl 1 rfl) ?_
        refine lv_iconst (v := (1 : Int32)) hx hb dX4_turn_122 (by decide) ?_
        obtain ⟨v16, h17, hf⟩ := kBind hf
        refine kgoR (krunV (wc := (wX4 cI a0 a1 a2 v12 SV MX ML MA MH)) (As := [.int x1, .int (1 : Int32)]) (rest := [.int v14]) (ci := 4) hx hb hml hown hts hK (kX4_of l D cI a0 a1 a2 v12 SV MX ML MA MH x1 (1 : Int32) v16 h17) gX4_turn_X4_of rfl rfl rfl hdX4_of ⟨Nat.le_of_ble_eq_true rfl, Nat.le_of_ble_eq_true rfl⟩ hP hD rfl rfl rfl rfl hl.1 rfl (Nat.le_of_ble_eq_true rfl) dX4_turn_123 ⟨Nat.zero_le _, Nat.zero_le _⟩) hP hD hS hA [0, 1, 2] rfl (fun H locs hP hS => ?_)
        refine lv_icmp_ne (tgt := 134) hx hb dX4_turn_126 (by decide) (fun c18 => ?_) (fun c18 => ?_)
        · have hf := kIfF c18 hf
          have he := Option.some.inj hf
          subst he
          exact kretv hx hb hr hlk hP hD hS dX4_turn_134
        · have hf := kIfT c18 hf
          refine lv_aload_n hx hb dX4_turn_129 rfl (lv_at hl 0 rfl) ?_
          refine lv_iload_n hx hb dX4_turn_130 rfl (lv_at hl 1 rfl) ?_
          obtain ⟨v19, h20, hf⟩ := kBind hf
          refine kgoA (krunV (wc := (wX4 cI a0 a1 a2 v12 SV MX ML MA MH)) (As := [.int x1]) (rest := []) (ci := 4) hx hb hml hown hts hK (kX4_steps l D cI a0 a1 a2 v12 SV MX ML MA MH x1 v19 h20) gX4_turn_X4_steps rfl rfl rfl hdX4_steps ⟨Nat.le_of_ble_eq_true rfl, Nat.le_of_ble_eq_true rfl⟩ hP hD rfl rfl rfl rfl hl.1 rfl (Nat.le_of_ble_eq_true rfl) dX4_turn_131 ⟨Nat.zero_le _, Nat.zero_le _⟩) hD hS hA (fun H locs hP hD hS => ?_)
          have he := Option.some.inj hf
          subst he
          exact kretv hx hb hr hlk hP hD hS dX4_turn_134
    · have hf := kIfT c6 hf
      refine lv_aload_n hx hb dX4_turn_73 rfl (lv_at hl 0 rfl) ?_
      refine lv_iload_n hx hb dX4_turn_74 rfl (lv_at hl 1 rfl) ?_
      refine lv_bipush (v := (6 : Int32)) hx hb dX4_turn_75 (by decide) ?_
      refine lv_aload_n hx hb dX4_turn_77 rfl (lv_at hl 0 rfl) ?_
      refine lv_iload_n hx hb dX4_turn_78 rfl (lv_at hl 1 rfl) ?_
      refine lv_bipush (v := (6 : Int32)) hx hb dX4_turn_79 (by decide) ?_
      obtain ⟨v21, h22, hf⟩ := kBind hf
      refine kgoR (krunV (wc := (wX4 cI a0 a1 a2 M SV MX ML MA MH)) (As := [.int x1, .int (6 : Int32)]) (rest := [.int (6 : Int32), .int x1, .ref a0]) (ci := 4) hx hb hml hown hts hK (kX4_of l D cI a0 a1 a2 M SV MX ML MA MH x1 (6 : Int32) v21 h22) gX4_turn_X4_of rfl rfl rfl hdX4_of ⟨Nat.le_of_ble_eq_true rfl, Nat.le_of_ble_eq_true rfl⟩ hP hD rfl rfl rfl rfl hl.1 rfl (Nat.le_of_ble_eq_true rfl) dX4_turn_81 ⟨Nat.zero_le _, Nat.zero_le _⟩) hP hD hS hA [0, 1, 2] rfl (fun H locs hP hS => ?_)
      refine lv_iconst (v := (1 : Int32)) hx hb dX4_turn_84 (by decide) ?_
      refine lv_iadd hx hb dX4_turn_85 ?_
      obtain ⟨v23, h24, hf⟩ := kBind hf
      refine kgoA (krunV (wc := (wX4 cI a0 a1 a2 M SV MX ML MA MH)) (As := [.int x1, .int (6 : Int32), .int (v21 + (1 : Int32))]) (rest := []) (ci := 4) hx hb hml hown hts hK (kX4_sets l D cI a0 a1 a2 M SV MX ML MA MH x1 (6 : Int32) (v21 + (1 : Int32)) v23 h24) gX4_turn_X4_sets rfl rfl rfl hdX4_sets ⟨Nat.le_of_ble_eq_true rfl, Nat.le_of_ble_eq_true rfl⟩ hP hD rfl rfl rfl rfl hl.1 rfl (Nat.le_of_ble_eq_true rfl) dX4_turn_86 ⟨Nat.zero_le _, Nat.zero_le _⟩) hD hS hA (fun H locs hP hD hS => ?_)
      refine lv_goto (tgt := 134) hx hb dX4_turn_89 (by decide) ?_
      have he := Option.some.inj hf
      subst he
      exact kretv hx hb hr hlk hP hD hS dX4_turn_134
  · have hf := kIfT c3 hf
    refine lv_aload_n hx hb dX4_turn_11 rfl (lv_at hl 0 rfl) ?_
    refine lv_iload_n hx hb dX4_turn_12 rfl (lv_at hl 1 rfl) ?_
    refine lv_aload_n hx hb dX4_turn_13 rfl (lv_at hl 0 rfl) ?_
    refine va_get (D := D) (ci := 4) (v := .ref a1) (C := RX4) (T := TX4) (N := 6) hx hb hts hinX4 hown hK.1 hP 0 rfl rfl 0 (by decide) hfl7 (fun _ h9 => h9) rfl dX4_turn_14 ?_
    refine lv_iconst (v := (1 : Int32)) hx hb dX4_turn_17 (by decide) ?_
    obtain ⟨v25, h26, hf⟩ := kBind hf
    refine krd hx hb hK hP 1 rfl h26 dX4_turn_18 ?_
    refine lv_iconst (v := (1 : Int32)) hx hb dX4_turn_19 (by decide) ?_
    obtain ⟨v27, h28, hf⟩ := kBind hf
    refine kgoR (krunV (wc := (wX4 cI a0 a1 a2 M SV MX ML MA MH)) (As := [.int x1, .int v25, .int (1 : Int32)]) (rest := []) (ci := 4) hx hb hml hown hts hK (kX4_stepsTo l D cI a0 a1 a2 M SV MX ML MA MH x1 v25 (1 : Int32) v27 h28) gX4_turn_X4_stepsTo rfl rfl rfl hdX4_stepsTo ⟨Nat.le_of_ble_eq_true rfl, Nat.le_of_ble_eq_true rfl⟩ hP hD rfl rfl rfl rfl hl.1 rfl (Nat.le_of_ble_eq_true rfl) dX4_turn_20 ⟨Nat.zero_le _, Nat.zero_le _⟩) hP hD hS hA [0, 1, 2] rfl (fun H locs hP hS => ?_)
    refine lv_istore_n (lv' := [(2, .int v27), (0, .ref a0), (1, .int x1)]) hx hb dX4_turn_23 rfl hl (by decide) rfl (fun ls hl => ?_)
    refine lv_aload_n hx hb dX4_turn_24 rfl (lv_at hl 1 rfl) ?_
    refine lv_iload_n hx hb dX4_turn_25 rfl (lv_at hl 2 rfl) ?_
    refine lv_iconst (v := (0 : Int32)) hx hb dX4_turn_26 (by decide) ?_
    refine lv_aload_n hx hb dX4_turn_27 rfl (lv_at hl 1 rfl) ?_
    refine lv_iload_n hx hb dX4_turn_28 rfl (lv_at hl 2 rfl) ?_
    refine lv_iconst (v := (0 : Int32)) hx hb dX4_turn_29 (by decide) ?_
    obtain ⟨v29, h30, hf⟩ := kBind hf
    refine kgoR (krunV (wc := (wX4 cI a0 a1 a2 M SV MX ML MA MH)) (As := [.int x1, .int (0 : Int32)]) (rest := [.int (0 : Int32), .int x1, .ref a0]) (ci := 4) hx hb hml hown hts hK (kX4_of l D cI a0 a1 a2 M SV MX ML MA MH x1 (0 : Int32) v29 h30) gX4_turn_X4_of rfl rfl rfl hdX4_of ⟨Nat.le_of_ble_eq_true rfl, Nat.le_of_ble_eq_true rfl⟩ hP hD rfl rfl rfl rfl hl.1 rfl (Nat.le_of_ble_eq_true rfl) dX4_turn_30 ⟨Nat.zero_le _, Nat.zero_le _⟩) hP hD hS hA [0, 1, 2] rfl (fun H locs hP hS => ?_)
    refine lv_iload_n hx hb dX4_turn_33 rfl (lv_at hl 0 rfl) ?_
    refine lv_if_ne (tgt := 42) hx hb dX4_turn_34 (by decide) (fun c31 => ?_) (fun c31 => ?_)
    · have hf := kIfF c31 hf
      refine lv_iload_n hx hb dX4_turn_42 rfl (lv_at hl 0 rfl) ?_
      refine lv_bipush (v := (18 : Int32)) hx hb dX4_turn_43 (by decide) ?_
      refine lv_icmp_gt (tgt := 53) hx hb dX4_turn_45 (by decide) (fun c32 => ?_) (fun c32 => ?_)
      · have hf := kIfT c32 hf
        refine lv_bipush (v := (35 : Int32)) hx hb dX4_turn_53 (by decide) ?_
        refine lv_iadd hx hb dX4_turn_55 ?_
        refine lv_bipush (v := (36 : Int32)) hx hb dX4_turn_56 (by decide) ?_
        refine kirem hx hb dX4_turn_58 (by decide) ?_
        obtain ⟨v33, h34, hf⟩ := kBind hf
        refine kgoA (krunV (wc := (wX4 cI a0 a1 a2 M SV MX ML MA MH)) (As := [.int x1, .int (0 : Int32), .int (jrem (v29 + (35 : Int32)) (36 : Int32))]) (rest := []) (ci := 4) hx hb hml hown hts hK (kX4_sets l D cI a0 a1 a2 M SV MX ML MA MH x1 (0 : Int32) (jrem (v29 + (35 : Int32)) (36 : Int32)) v33 h34) gX4_turn_X4_sets rfl rfl rfl hdX4_sets ⟨Nat.le_of_ble_eq_true rfl, Nat.le_of_ble_eq_true rfl⟩ hP hD rfl rfl rfl rfl hl.1 rfl (Nat.le_of_ble_eq_true rfl) dX4_turn_59 ⟨Nat.zero_le _, Nat.zero_le _⟩) hD hS hA (fun H locs hP hD hS => ?_)
        refine lv_goto (tgt := 134) hx hb dX4_turn_62 (by decide) ?_
        have he := Option.some.inj hf
        subst he
        exact kretv hx hb hr hlk hP hD hS dX4_turn_134
      · have hf := kIfF c32 hf
        refine lv_bipush (v := (37 : Int32)) hx hb dX4_turn_48 (by decide) ?_
        refine lv_goto (tgt := 55) hx hb dX4_turn_50 (by decide) ?_
        refine lv_iadd hx hb dX4_turn_55 ?_
        refine lv_bipush (v := (36 : Int32)) hx hb dX4_turn_56 (by decide) ?_
        refine kirem hx hb dX4_turn_58 (by decide) ?_
        obtain ⟨v35, h36, hf⟩ := kBind hf
        refine kgoA (krunV (wc := (wX4 cI a0 a1 a2 M SV MX ML MA MH)) (As := [.int x1, .int (0 : Int32), .int (jrem (v29 + (37 : Int32)) (36 : Int32))]) (rest := []) (ci := 4) hx hb hml hown hts hK (kX4_sets l D cI a0 a1 a2 M SV MX ML MA MH x1 (0 : Int32) (jrem (v29 + (37 : Int32)) (36 : Int32)) v35 h36) gX4_turn_X4_sets rfl rfl rfl hdX4_sets ⟨Nat.le_of_ble_eq_true rfl, Nat.le_of_ble_eq_true rfl⟩ hP hD rfl rfl rfl rfl hl.1 rfl (Nat.le_of_ble_eq_true rfl) dX4_turn_59 ⟨Nat.zero_le _, Nat.zero_le _⟩) hD hS hA (fun H locs hP hD hS => ?_)
        refine lv_goto (tgt := 134) hx hb dX4_turn_62 (by decide) ?_
        have he := Option.some.inj hf
        subst he
        exact kretv hx hb hr hlk hP hD hS dX4_turn_134
    · have hf := kIfT c31 hf
      refine lv_bipush (v := (36 : Int32)) hx hb dX4_turn_37 (by decide) ?_
      refine lv_goto (tgt := 55) hx hb dX4_turn_39 (by decide) ?_
      refine lv_iadd hx hb dX4_turn_55 ?_
      refine lv_bipush (v := (36 : Int32)) hx hb dX4_turn_56 (by decide) ?_
      refine kirem hx hb dX4_turn_58 (by decide) ?_
      obtain ⟨v37, h38, hf⟩ := kBind hf
      refine kgoA (krunV (wc := (wX4 cI a0 a1 a2 M SV MX ML MA MH)) (As := [.int x1, .int (0 : Int32), .int (jrem (v29 + (36 : Int32)) (36 : Int32))]) (rest := []) (ci := 4) hx hb hml hown hts hK (kX4_sets l D cI a0 a1 a2 M SV MX ML MA MH x1 (0 : Int32) (jrem (v29 + (36 : Int32)) (36 : Int32)) v37 h38) gX4_turn_X4_sets rfl rfl rfl hdX4_sets ⟨Nat.le_of_ble_eq_true rfl, Nat.le_of_ble_eq_true rfl⟩ hP hD rfl rfl rfl rfl hl.1 rfl (Nat.le_of_ble_eq_true rfl) dX4_turn_59 ⟨Nat.zero_le _, Nat.zero_le _⟩) hD hS hA (fun H locs hP hD hS => ?_)
      refine lv_goto (tgt := 134) hx hb dX4_turn_62 (by decide) ?_
      have he := Option.some.inj hf
      subst he
      exact kretv hx hb hr hlk hP hD hS dX4_turn_134
set_option maxHeartbeats 4000000 in
set_option maxRecDepth 100000 in
theorem kX4_ticks (l : Launch) (D : va_G) (cI : ClassId) (fu : Nat) (a0 a1 a2 : Nat) (M : (Nat → Int32)) (SV : Int32) (MX : (Nat → Int32)) (ML : Int32) (MA : Int32) (MH : Int64) (o : (Nat → Int32)) (hf : fX4_ticks fu M = some o) : Ct l yX4_ticks wsX4_ticks { frames := 6, cells := 0, slots := 0, locals := 136 } D cI [.ref a0] (wX4 cI a0 a1 a2 M SV MX ML MA MH) (wX4 cI a0 a1 a2 o SV MX ML MA MH) none := by
  refine Ct.of (cc := cX4_ticks) (maxL := 3) (ret := none) (by decide) rfl (Nat.le_of_ble_eq_true rfl) ?_
  intro p e s m args below meth c A F hP hD hS ls hl
  obtain ⟨hx, hb, hml, hr, hown, hts, hlk, hK, hA⟩ := F
  have hown : s.vm.findClass RX4 = some m.cls := hown
  have hl : lv_has ls 3 [(0, .ref a0)] := hl
  have hinX4 : ∀ w ∈ wsX40, w ∈ wsX4_ticks := by decide +kernel
  have hfl7 := hts (.fieldLink RX4 7 "CraneGuardModel" "row" "[I") (by decide +kernel)
  unfold fX4_ticks at hf
  refine lv_bipush (v := (9 : Int32)) hx hb dX4_ticks_0 (by decide) ?_
  refine lv_istore_n (lv' := [(1, .int (9 : Int32)), (0, .ref a0)]) hx hb dX4_ticks_2 rfl hl (by decide) rfl (fun ls hl => ?_)
  have hl : lv_has ls 3 [(1, .int (9 : Int32)), (0, .ref a0)] := hl
  refine klp hf (fun t3 : (Nat → Int32) × Int32 => (wX4 cI a0 a1 a2 t3.1 SV MX ML MA MH)) 3 (fun t3 : (Nat → Int32) × Int32 => [(1, .int t3.2), (0, .ref a0)]) ?_ hP hD hS hl
  intro t3 x3_ hf hI1 hO1 H locs ls hP hD hS hl
  unfold fX4_ticks_L3 at hf
  have hP : va_P D vwCl (wX4 cI a0 a1 a2 t3.1 SV MX ML MA MH) H := hP
  have hD : va_D A (wX4 cI a0 a1 a2 t3.1 SV MX ML MA MH) := hD
  have hl : lv_has ls 3 [(1, .int t3.2), (0, .ref a0)] := hl
  refine lv_iload_n hx hb dX4_ticks_3 rfl (lv_at hl 0 rfl) ?_
  refine lv_if_lt (tgt := 46) hx hb dX4_ticks_4 (by decide) (fun c28 => ?_) (fun c28 => ?_)
  · have hf := kIfT c28 hf
    refine lv_aload_n hx hb dX4_ticks_46 rfl (lv_at hl 1 rfl) ?_
    refine va_get (D := D) (ci := 4) (v := .ref a1) (C := RX4) (T := TX4) (N := 6) hx hb hts hinX4 hown hK.1 hP 0 rfl rfl 0 (by decide) hfl7 (fun _ h9 => h9) rfl dX4_ticks_47 ?_
    refine lv_iconst (v := (0 : Int32)) hx hb dX4_ticks_50 (by decide) ?_
    refine lv_dup2_11 hx hb dX4_ticks_51 rfl rfl ?_
    obtain ⟨v29, h30, hf⟩ := kBind hf
    refine krd hx hb hK hP 1 rfl h30 dX4_ticks_52 ?_
    refine lv_iconst (v := (1 : Int32)) hx hb dX4_ticks_53 (by decide) ?_
    refine lv_iadd hx hb dX4_ticks_54 ?_
    obtain ⟨v31, h32, hf⟩ := kBind hf
    refine kwr hx hb hK hP hD hS 1 rfl h32 (wX4 cI a0 a1 a2 v31 SV MX ML MA MH) rfl dX4_ticks_55 (fun H locs hP hD hS => ?_)
    have he := Option.some.inj hf
    have he := hO1 _ he.symm
    subst he
    exact kretv hx hb hr hlk hP hD hS dX4_ticks_56
  · have hf := kIfF c28 hf
    refine lv_iconst (v := (0 : Int32)) hx hb dX4_ticks_7 (by decide) ?_
    refine lv_istore_n (lv' := [(2, .int (0 : Int32)), (1, .int t3.2), (0, .ref a0)]) hx hb dX4_ticks_8 rfl hl (by decide) rfl (fun ls hl => ?_)
    have hl : lv_has ls 3 [(2, .int (0 : Int32)), (1, .int t3.2), (0, .ref a0)] := hl
    refine klp hf (fun t9 : (Nat → Int32) × Int32 => (wX4 cI a0 a1 a2 t9.1 SV MX ML MA MH)) 3 (fun t9 : (Nat → Int32) × Int32 => [(2, .int t9.2), (1, .int t3.2), (0, .ref a0)]) ?_ hP hD hS hl
    intro t9 x9_ hf hI2 hO2 H locs ls hP hD hS hl
    unfold fX4_ticks_L9 at hf
    have hP : va_P D vwCl (wX4 cI a0 a1 a2 t9.1 SV MX ML MA MH) H := hP
    have hD : va_D A (wX4 cI a0 a1 a2 t9.1 SV MX ML MA MH) := hD
    have hl : lv_has ls 3 [(2, .int t9.2), (1, .int t3.2), (0, .ref a0)] := hl
    refine lv_iload_n hx hb dX4_ticks_9 rfl (lv_at hl 0 rfl) ?_
    refine lv_aload_n hx hb dX4_ticks_10 rfl (lv_at hl 2 rfl) ?_
    refine va_get (D := D) (ci := 4) (v := .ref a1) (C := RX4) (T := TX4) (N := 6) hx hb hts hinX4 hown hK.1 hP 0 rfl rfl 0 (by decide) hfl7 (fun _ h9 => h9) rfl dX4_ticks_11 ?_
    refine lv_iconst (v := (2 : Int32)) hx hb dX4_ticks_14 (by decide) ?_
    obtain ⟨v33, h34, hf⟩ := kBind hf
    refine krd hx hb hK hP 1 rfl h34 dX4_ticks_15 ?_
    refine lv_icmp_ge (tgt := 40) hx hb dX4_ticks_16 (by decide) (fun c35 => ?_) (fun c35 => ?_)
    · have hf := kIfT c35 hf
      refine lv_iinc (v := t3.2 + (-1 : Int32)) (lv' := [(1, .int (t3.2 + (-1 : Int32))), (2, .int t9.2), (0, .ref a0)]) hx hb dX4_ticks_40 hl (k := 1) rfl (congrArg (fun z : Int32 => t3.2 + z) (by decide)) (by decide) rfl (fun ls hl => ?_)
      refine lv_goto (tgt := 3) hx hb dX4_ticks_43 (by decide) ?_
      obtain ⟨z36, hz36⟩ : ∃ z : Int32, z = t3.2 + (-1 : Int32) := ⟨_, rfl⟩
      rw [← hz36] at hf
      have he := (Option.some.inj hf).symm
      have he := (hO2 _ he).symm
      have hl : lv_has ls 3 [(1, .int z36), (0, .ref a0)] := by rw [hz36]; exact lv_sub hl [0, 2] rfl
      exact hI1 _ he H locs ls hP hD hS hl
    · have hf := kIfF c35 hf
      refine lv_aload_n hx hb dX4_ticks_19 rfl (lv_at hl 2 rfl) ?_
      refine lv_iload_n hx hb dX4_ticks_20 rfl (lv_at hl 0 rfl) ?_
      refine lv_iconst (v := (2 : Int32)) hx hb dX4_ticks_21 (by decide) ?_
      obtain ⟨v37, h38, hf⟩ := kBind hf
      refine kgoR (krunV (wc := (wX4 cI a0 a1 a2 t9.1 SV MX ML MA MH)) (As := [.int t9.2, .int (2 : Int32)]) (rest := []) (ci := 4) hx hb hml hown hts hK (kX4_of l D cI a0 a1 a2 t9.1 SV MX ML MA MH t9.2 (2 : Int32) v37 h38) gX4_ticks_X4_of rfl rfl rfl hdX4_of ⟨Nat.le_of_ble_eq_true rfl, Nat.le_of_ble_eq_true rfl⟩ hP hD rfl rfl rfl rfl hl.1 rfl (Nat.le_of_ble_eq_true rfl) dX4_ticks_22 ⟨Nat.zero_le _, Nat.zero_le _⟩) hP hD hS hA [0, 1, 2] rfl (fun H locs hP hS => ?_)
      refine lv_iload_n hx hb dX4_ticks_25 rfl (lv_at hl 1 rfl) ?_
      refine lv_icmp_ne (tgt := 34) hx hb dX4_ticks_26 (by decide) (fun c39 => ?_) (fun c39 => ?_)
      · have hf := kIfF c39 hf
        refine lv_iinc (v := t9.2 + (1 : Int32)) (lv' := [(2, .int (t9.2 + (1 : Int32))), (1, .int t3.2), (0, .ref a0)]) hx hb dX4_ticks_34 hl (k := 0) rfl rfl (by decide) rfl (fun ls hl => ?_)
        refine lv_goto (tgt := 9) hx hb dX4_ticks_37 (by decide) ?_
        obtain ⟨z40, hz40⟩ : ∃ z : Int32, z = t9.2 + (1 : Int32) := ⟨_, rfl⟩
        rw [← hz40] at hf
        have he := (Option.some.inj hf).symm
        have hl : lv_has ls 3 [(2, .int z40), (1, .int t3.2), (0, .ref a0)] := by rw [hz40]; exact lv_sub hl [0, 1, 2] rfl
        exact hI2 _ he H locs ls hP hD hS hl
      · have hf := kIfT c39 hf
        refine lv_aload_n hx hb dX4_ticks_29 rfl (lv_at hl 2 rfl) ?_
        refine lv_iload_n hx hb dX4_ticks_30 rfl (lv_at hl 0 rfl) ?_
        obtain ⟨v41, h42, hf⟩ := kBind hf
        refine kgoA (krunV (wc := (wX4 cI a0 a1 a2 t9.1 SV MX ML MA MH)) (As := [.int t9.2]) (rest := []) (ci := 4) hx hb hml hown hts hK (kX4_turn l D cI fu a0 a1 a2 t9.1 SV MX ML MA MH t9.2 v41 h42) gX4_ticks_X4_turn rfl rfl rfl hdX4_turn ⟨Nat.le_of_ble_eq_true rfl, Nat.le_of_ble_eq_true rfl⟩ hP hD rfl rfl rfl rfl hl.1 rfl (Nat.le_of_ble_eq_true rfl) dX4_ticks_31 ⟨Nat.zero_le _, Nat.zero_le _⟩) hD hS hA (fun H locs hP hD hS => ?_)
        refine lv_iinc (v := t9.2 + (1 : Int32)) (lv' := [(2, .int (t9.2 + (1 : Int32))), (1, .int t3.2), (0, .ref a0)]) hx hb dX4_ticks_34 hl (k := 0) rfl rfl (by decide) rfl (fun ls hl => ?_)
        refine lv_goto (tgt := 9) hx hb dX4_ticks_37 (by decide) ?_
        obtain ⟨z43, hz43⟩ : ∃ z : Int32, z = t9.2 + (1 : Int32) := ⟨_, rfl⟩
        rw [← hz43] at hf
        have he := (Option.some.inj hf).symm
        have hl : lv_has ls 3 [(2, .int z43), (1, .int t3.2), (0, .ref a0)] := by rw [hz43]; exact lv_sub hl [0, 1, 2] rfl
        exact hI2 _ he H locs ls hP hD hS hl
set_option maxHeartbeats 4000000 in
set_option maxRecDepth 100000 in
theorem kX4_foretells (l : Launch) (D : va_G) (cI : ClassId) (fu : Nat) (a0 a1 a2 : Nat) (M : (Nat → Int32)) (SV : Int32) (MX : (Nat → Int32)) (ML : Int32) (MA : Int32) (MH : Int64) (x1 : Int32) (o : Int32 × (Nat → Int32)) (hf : fX4_foretells fu M x1 = some o) : Ct l yX4_foretells wsX4_foretells { frames := 7, cells := 0, slots := 0, locals := 158 } D cI [.ref a0, .int x1] (wX4 cI a0 a1 a2 M SV MX ML MA MH) (wX4 cI a0 a1 a2 o.2 SV MX ML MA MH) (some (.int o.1)) := by
  refine Ct.of (cc := cX4_foretells) (maxL := 4) (ret := (some .int)) (by decide) rfl (Nat.le_of_ble_eq_true rfl) ?_
  intro p e s m args below meth c A F hP hD hS ls hl
  obtain ⟨hx, hb, hml, hr, hown, hts, hlk, hK, hA⟩ := F
  have hown : s.vm.findClass RX4 = some m.cls := hown
  have hl : lv_has ls 4 [(0, .ref a0), (1, .int x1)] := hl
  unfold fX4_foretells at hf
  refine lv_aload_n hx hb dX4_foretells_0 rfl (lv_at hl 0 rfl) ?_
  refine lv_iconst (v := (0 : Int32)) hx hb dX4_foretells_1 (by decide) ?_
  refine lv_bipush (v := (6 : Int32)) hx hb dX4_foretells_2 (by decide) ?_
  obtain ⟨v1, h2, hf⟩ := kBind hf
  refine kgoA (krunV (wc := (wX4 cI a0 a1 a2 M SV MX ML MA MH)) (As := [.int (0 : Int32), .int (6 : Int32)]) (rest := []) (ci := 4) hx hb hml hown hts hK (kX4_copies l D cI fu a0 a1 a2 M SV MX ML MA MH (0 : Int32) (6 : Int32) v1 h2) gX4_foretells_X4_copies rfl rfl rfl hdX4_copies ⟨Nat.le_of_ble_eq_true rfl, Nat.le_of_ble_eq_true rfl⟩ hP hD rfl rfl rfl rfl hl.1 rfl (Nat.le_of_ble_eq_true rfl) dX4_foretells_4 ⟨Nat.zero_le _, Nat.zero_le _⟩) hD hS hA (fun H locs hP hD hS => ?_)
  refine lv_iconst (v := (0 : Int32)) hx hb dX4_foretells_7 (by decide) ?_
  refine lv_istore_n (lv' := [(2, .int (0 : Int32)), (0, .ref a0), (1, .int x1)]) hx hb dX4_foretells_8 rfl hl (by decide) rfl (fun ls hl => ?_)
  refine lv_iload_n hx hb dX4_foretells_9 rfl (lv_at hl 2 rfl) ?_
  refine lv_bipush (v := (-100 : Int32)) hx hb dX4_foretells_10 (by decide) ?_
  refine lv_icmp_ne (tgt := 30) hx hb dX4_foretells_12 (by decide) (fun c3 => ?_) (fun c3 => ?_)
  · have hf := kIfF c3 hf
    refine lv_aload_n hx hb dX4_foretells_30 rfl (lv_at hl 1 rfl) ?_
    refine lv_iload_n hx hb dX4_foretells_31 rfl (lv_at hl 2 rfl) ?_
    obtain ⟨v4, h5, hf⟩ := kBind hf
    refine kgoR (krunV (wc := (wX4 cI a0 a1 a2 v1 SV MX ML MA MH)) (As := [.int x1]) (rest := []) (ci := 4) hx hb hml hown hts hK (kX4_hasTarget l D cI a0 a1 a2 v1 SV MX ML MA MH x1 v4 h5) gX4_foretells_X4_hasTarget rfl rfl rfl hdX4_hasTarget ⟨Nat.le_of_ble_eq_true rfl, Nat.le_of_ble_eq_true rfl⟩ hP hD rfl rfl rfl rfl hl.1 rfl (Nat.le_of_ble_eq_true rfl) dX4_foretells_32 ⟨Nat.zero_le _, Nat.zero_le _⟩) hP hD hS hA [0, 1, 2] rfl (fun H locs hP hS => ?_)
    refine lv_istore_n (lv' := [(3, .int (bI v4)), (2, .int (0 : Int32)), (0, .ref a0), (1, .int x1)]) hx hb dX4_foretells_35 rfl hl (by decide) rfl (fun ls hl => ?_)
    have hl : lv_has ls 4 [(3, .int (bI v4)), (2, .int (0 : Int32)), (0, .ref a0), (1, .int x1)] := hl
    refine klp hf (fun t36 : (Nat → Int32) × Int32 × Bool => (wX4 cI a0 a1 a2 t36.1 SV MX ML MA MH)) 4 (fun t36 : (Nat → Int32) × Int32 × Bool => [(3, .int (bI t36.2.2)), (2, .int t36.2.1), (0, .ref a0), (1, .int x1)]) ?_ hP hD hS hl
    intro t36 x36_ hf hI1 hO1 H locs ls hP hD hS hl
    unfold fX4_foretells_L36 at hf
    have hP : va_P D vwCl (wX4 cI a0 a1 a2 t36.1 SV MX ML MA MH) H := hP
    have hD : va_D A (wX4 cI a0 a1 a2 t36.1 SV MX ML MA MH) := hD
    have hl : lv_has ls 4 [(3, .int (bI t36.2.2)), (2, .int t36.2.1), (0, .ref a0), (1, .int x1)] := hl
    refine lv_iload_n hx hb dX4_foretells_36 rfl (lv_at hl 0 rfl) ?_
    refine kif_eqb (tgt := 84) hx hb dX4_foretells_37 (by decide) (fun c25 => ?_) (fun c25 => ?_)
    · have hf := kIfF c25 hf
      refine lv_aload_n hx hb dX4_foretells_84 rfl (lv_at hl 2 rfl) ?_
      refine lv_bipush (v := (6 : Int32)) hx hb dX4_foretells_85 (by decide) ?_
      refine lv_iconst (v := (0 : Int32)) hx hb dX4_foretells_87 (by decide) ?_
      obtain ⟨v26, h27, hf⟩ := kBind hf
      refine kgoA (krunV (wc := (wX4 cI a0 a1 a2 t36.1 SV MX ML MA MH)) (As := [.int (6 : Int32), .int (0 : Int32)]) (rest := []) (ci := 4) hx hb hml hown hts hK (kX4_copies l D cI fu a0 a1 a2 t36.1 SV MX ML MA MH (6 : Int32) (0 : Int32) v26 h27) gX4_foretells_X4_copies rfl rfl rfl hdX4_copies ⟨Nat.le_of_ble_eq_true rfl, Nat.le_of_ble_eq_true rfl⟩ hP hD rfl rfl rfl rfl hl.1 rfl (Nat.le_of_ble_eq_true rfl) dX4_foretells_88 ⟨Nat.zero_le _, Nat.zero_le _⟩) hD hS hA (fun H locs hP hD hS => ?_)
      refine lv_iload_n hx hb dX4_foretells_91 rfl (lv_at hl 0 rfl) ?_
      refine kif_eqb (tgt := 100) hx hb dX4_foretells_92 (by decide) (fun c28 => ?_) (fun c28 => ?_)
      · have hf := kIfF c28 hf
        refine lv_iload_n hx hb dX4_foretells_100 rfl (lv_at hl 1 rfl) ?_
        have he := Option.some.inj hf
        have he := hO1 _ he.symm
        subst he
        exact kreti hx hb hr hlk hP hD hS dX4_foretells_101
      · have hf := kIfT c28 hf
        refine lv_bipush (v := (-100 : Int32)) hx hb dX4_foretells_95 (by decide) ?_
        refine lv_goto (tgt := 101) hx hb dX4_foretells_97 (by decide) ?_
        have he := Option.some.inj hf
        have he := hO1 _ he.symm
        subst he
        exact kreti hx hb hr hlk hP hD hS dX4_foretells_101
    · have hf := kIfT c25 hf
      refine lv_iload_n hx hb dX4_foretells_40 rfl (lv_at hl 1 rfl) ?_
      refine lv_sipush (v := (1000 : Int32)) hx hb dX4_foretells_41 (by decide) ?_
      refine lv_icmp_ge (tgt := 84) hx hb dX4_foretells_44 (by decide) (fun c29 => ?_) (fun c29 => ?_)
      · have hf := kIfT c29 hf
        refine lv_aload_n hx hb dX4_foretells_84 rfl (lv_at hl 2 rfl) ?_
        refine lv_bipush (v := (6 : Int32)) hx hb dX4_foretells_85 (by decide) ?_
        refine lv_iconst (v := (0 : Int32)) hx hb dX4_foretells_87 (by decide) ?_
        obtain ⟨v30, h31, hf⟩ := kBind hf
        refine kgoA (krunV (wc := (wX4 cI a0 a1 a2 t36.1 SV MX ML MA MH)) (As := [.int (6 : Int32), .int (0 : Int32)]) (rest := []) (ci := 4) hx hb hml hown hts hK (kX4_copies l D cI fu a0 a1 a2 t36.1 SV MX ML MA MH (6 : Int32) (0 : Int32) v30 h31) gX4_foretells_X4_copies rfl rfl rfl hdX4_copies ⟨Nat.le_of_ble_eq_true rfl, Nat.le_of_ble_eq_true rfl⟩ hP hD rfl rfl rfl rfl hl.1 rfl (Nat.le_of_ble_eq_true rfl) dX4_foretells_88 ⟨Nat.zero_le _, Nat.zero_le _⟩) hD hS hA (fun H locs hP hD hS => ?_)
        refine lv_iload_n hx hb dX4_foretells_91 rfl (lv_at hl 0 rfl) ?_
        refine kif_eqb (tgt := 100) hx hb dX4_foretells_92 (by decide) (fun c32 => ?_) (fun c32 => ?_)
        · have hf := kIfF c32 hf
          refine lv_iload_n hx hb dX4_foretells_100 rfl (lv_at hl 1 rfl) ?_
          have he := Option.some.inj hf
          have he := hO1 _ he.symm
          subst he
          exact kreti hx hb hr hlk hP hD hS dX4_foretells_101
        · have hf := kIfT c32 hf
          refine lv_bipush (v := (-100 : Int32)) hx hb dX4_foretells_95 (by decide) ?_
          refine lv_goto (tgt := 101) hx hb dX4_foretells_97 (by decide) ?_
          have he := Option.some.inj hf
          have he := hO1 _ he.symm
          subst he
          exact kreti hx hb hr hlk hP hD hS dX4_foretells_101
      · have hf := kIfF c29 hf
        refine lv_aload_n hx hb dX4_foretells_47 rfl (lv_at hl 2 rfl) ?_
        obtain ⟨v33, h34, hf⟩ := kBind hf
        refine kgoA (krunV (wc := (wX4 cI a0 a1 a2 t36.1 SV MX ML MA MH)) (As := []) (rest := []) (ci := 4) hx hb hml hown hts hK (kX4_ticks l D cI fu a0 a1 a2 t36.1 SV MX ML MA MH v33 h34) gX4_foretells_X4_ticks rfl rfl rfl hdX4_ticks ⟨Nat.le_of_ble_eq_true rfl, Nat.le_of_ble_eq_true rfl⟩ hP hD rfl rfl rfl rfl hl.1 rfl (Nat.le_of_ble_eq_true rfl) dX4_foretells_48 ⟨Nat.zero_le _, Nat.zero_le _⟩) hD hS hA (fun H locs hP hD hS => ?_)
        refine lv_iinc (v := t36.2.1 + (1 : Int32)) (lv' := [(2, .int (t36.2.1 + (1 : Int32))), (3, .int (bI t36.2.2)), (0, .ref a0), (1, .int x1)]) hx hb dX4_foretells_51 hl (k := 1) rfl rfl (by decide) rfl (fun ls hl => ?_)
        refine lv_iload_n hx hb dX4_foretells_54 rfl (lv_at hl 3 rfl) ?_
        refine lv_bipush (v := (-100 : Int32)) hx hb dX4_foretells_55 (by decide) ?_
        refine lv_icmp_ne (tgt := 75) hx hb dX4_foretells_57 (by decide) (fun c35 => ?_) (fun c35 => ?_)
        · have hf := kIfF c35 hf
          refine lv_aload_n hx hb dX4_foretells_75 rfl (lv_at hl 2 rfl) ?_
          refine lv_iload_n hx hb dX4_foretells_76 rfl (lv_at hl 3 rfl) ?_
          obtain ⟨v36, h37, hf⟩ := kBind hf
          refine kgoR (krunV (wc := (wX4 cI a0 a1 a2 v33 SV MX ML MA MH)) (As := [.int x1]) (rest := []) (ci := 4) hx hb hml hown hts hK (kX4_hasTarget l D cI a0 a1 a2 v33 SV MX ML MA MH x1 v36 h37) gX4_foretells_X4_hasTarget rfl rfl rfl hdX4_hasTarget ⟨Nat.le_of_ble_eq_true rfl, Nat.le_of_ble_eq_true rfl⟩ hP hD rfl rfl rfl rfl hl.1 rfl (Nat.le_of_ble_eq_true rfl) dX4_foretells_77 ⟨Nat.zero_le _, Nat.zero_le _⟩) hP hD hS hA [0, 1, 2] rfl (fun H locs hP hS => ?_)
          refine lv_istore_n (lv' := [(3, .int (bI v36)), (2, .int (t36.2.1 + (1 : Int32))), (0, .ref a0), (1, .int x1)]) hx hb dX4_foretells_80 rfl hl (by decide) rfl (fun ls hl => ?_)
          refine lv_goto (tgt := 36) hx hb dX4_foretells_81 (by decide) ?_
          obtain ⟨z38, hz38⟩ : ∃ z : Int32, z = t36.2.1 + (1 : Int32) := ⟨_, rfl⟩
          rw [← hz38] at hf
          have he := (Option.some.inj hf).symm
          have hl : lv_has ls 4 [(3, .int (bI v36)), (2, .int z38), (0, .ref a0), (1, .int x1)] := by rw [hz38]; exact lv_sub hl [0, 1, 2, 3] rfl
          exact hI1 _ he H locs ls hP hD hS hl
        · have hf := kIfT c35 hf
          refine lv_aload_n hx hb dX4_foretells_60 rfl (lv_at hl 2 rfl) ?_
          obtain ⟨v39, h40, hf⟩ := kBind hf
          refine kgoR (krunV (wc := (wX4 cI a0 a1 a2 v33 SV MX ML MA MH)) (As := []) (rest := []) (ci := 4) hx hb hml hown hts hK (kX4_targets l D cI fu a0 a1 a2 v33 SV MX ML MA MH v39 h40) gX4_foretells_X4_targets rfl rfl rfl hdX4_targets ⟨Nat.le_of_ble_eq_true rfl, Nat.le_of_ble_eq_true rfl⟩ hP hD rfl rfl rfl rfl hl.1 rfl (Nat.le_of_ble_eq_true rfl) dX4_foretells_61 ⟨Nat.zero_le _, Nat.zero_le _⟩) hP hD hS hA [0, 1, 2] rfl (fun H locs hP hS => ?_)
          refine lv_if_le (tgt := 71) hx hb dX4_foretells_64 (by decide) (fun c41 => ?_) (fun c41 => ?_)
          · have hf := kIfT c41 hf
            refine lv_iconst (v := (0 : Int32)) hx hb dX4_foretells_71 (by decide) ?_
            refine lv_goto (tgt := 80) hx hb dX4_foretells_72 (by decide) ?_
            refine lv_istore_n (lv' := [(3, .int (0 : Int32)), (2, .int (t36.2.1 + (1 : Int32))), (0, .ref a0), (1, .int x1)]) hx hb dX4_foretells_80 rfl hl (by decide) rfl (fun ls hl => ?_)
            refine lv_goto (tgt := 36) hx hb dX4_foretells_81 (by decide) ?_
            obtain ⟨z42, hz42⟩ : ∃ z : Int32, z = t36.2.1 + (1 : Int32) := ⟨_, rfl⟩
            rw [← hz42] at hf
            have he := (Option.some.inj hf).symm
            have hl : lv_has ls 4 [(3, .int (bI false)), (2, .int z42), (0, .ref a0), (1, .int x1)] := by rw [hz42]; exact lv_sub hl [0, 1, 2, 3] rfl
            exact hI1 _ he H locs ls hP hD hS hl
          · have hf := kIfF c41 hf
            refine lv_iconst (v := (1 : Int32)) hx hb dX4_foretells_67 (by decide) ?_
            refine lv_goto (tgt := 80) hx hb dX4_foretells_68 (by decide) ?_
            refine lv_istore_n (lv' := [(3, .int (1 : Int32)), (2, .int (t36.2.1 + (1 : Int32))), (0, .ref a0), (1, .int x1)]) hx hb dX4_foretells_80 rfl hl (by decide) rfl (fun ls hl => ?_)
            refine lv_goto (tgt := 36) hx hb dX4_foretells_81 (by decide) ?_
            obtain ⟨z43, hz43⟩ : ∃ z : Int32, z = t36.2.1 + (1 : Int32) := ⟨_, rfl⟩
            rw [← hz43] at hf
            have he := (Option.some.inj hf).symm
            have hl : lv_has ls 4 [(3, .int (bI true)), (2, .int z43), (0, .ref a0), (1, .int x1)] := by rw [hz43]; exact lv_sub hl [0, 1, 2, 3] rfl
            exact hI1 _ he H locs ls hP hD hS hl
  · have hf := kIfT c3 hf
    refine lv_aload_n hx hb dX4_foretells_15 rfl (lv_at hl 1 rfl) ?_
    obtain ⟨v44, h45, hf⟩ := kBind hf
    refine kgoR (krunV (wc := (wX4 cI a0 a1 a2 v1 SV MX ML MA MH)) (As := []) (rest := []) (ci := 4) hx hb hml hown hts hK (kX4_targets l D cI fu a0 a1 a2 v1 SV MX ML MA MH v44 h45) gX4_foretells_X4_targets rfl rfl rfl hdX4_targets ⟨Nat.le_of_ble_eq_true rfl, Nat.le_of_ble_eq_true rfl⟩ hP hD rfl rfl rfl rfl hl.1 rfl (Nat.le_of_ble_eq_true rfl) dX4_foretells_16 ⟨Nat.zero_le _, Nat.zero_le _⟩) hP hD hS hA [0, 1, 2] rfl (fun H locs hP hS => ?_)
    refine lv_if_le (tgt := 26) hx hb dX4_foretells_19 (by decide) (fun c46 => ?_) (fun c46 => ?_)
    · have hf := kIfT c46 hf
      refine lv_iconst (v := (0 : Int32)) hx hb dX4_foretells_26 (by decide) ?_
      refine lv_goto (tgt := 35) hx hb dX4_foretells_27 (by decide) ?_
      refine lv_istore_n (lv' := [(3, .int (0 : Int32)), (2, .int (0 : Int32)), (0, .ref a0), (1, .int x1)]) hx hb dX4_foretells_35 rfl hl (by decide) rfl (fun ls hl => ?_)
      have hl : lv_has ls 4 [(3, .int (bI false)), (2, .int (0 : Int32)), (0, .ref a0), (1, .int x1)] := hl
      refine klp hf (fun t36 : (Nat → Int32) × Int32 × Bool => (wX4 cI a0 a1 a2 t36.1 SV MX ML MA MH)) 4 (fun t36 : (Nat → Int32) × Int32 × Bool => [(3, .int (bI t36.2.2)), (2, .int t36.2.1), (0, .ref a0), (1, .int x1)]) ?_ hP hD hS hl
      intro t36 x36_ hf hI1 hO1 H locs ls hP hD hS hl
      unfold fX4_foretells_L36 at hf
      have hP : va_P D vwCl (wX4 cI a0 a1 a2 t36.1 SV MX ML MA MH) H := hP
      have hD : va_D A (wX4 cI a0 a1 a2 t36.1 SV MX ML MA MH) := hD
      have hl : lv_has ls 4 [(3, .int (bI t36.2.2)), (2, .int t36.2.1), (0, .ref a0), (1, .int x1)] := hl
      refine lv_iload_n hx hb dX4_foretells_36 rfl (lv_at hl 0 rfl) ?_
      refine kif_eqb (tgt := 84) hx hb dX4_foretells_37 (by decide) (fun c47 => ?_) (fun c47 => ?_)
      · have hf := kIfF c47 hf
        refine lv_aload_n hx hb dX4_foretells_84 rfl (lv_at hl 2 rfl) ?_
        refine lv_bipush (v := (6 : Int32)) hx hb dX4_foretells_85 (by decide) ?_
        refine lv_iconst (v := (0 : Int32)) hx hb dX4_foretells_87 (by decide) ?_
        obtain ⟨v48, h49, hf⟩ := kBind hf
        refine kgoA (krunV (wc := (wX4 cI a0 a1 a2 t36.1 SV MX ML MA MH)) (As := [.int (6 : Int32), .int (0 : Int32)]) (rest := []) (ci := 4) hx hb hml hown hts hK (kX4_copies l D cI fu a0 a1 a2 t36.1 SV MX ML MA MH (6 : Int32) (0 : Int32) v48 h49) gX4_foretells_X4_copies rfl rfl rfl hdX4_copies ⟨Nat.le_of_ble_eq_true rfl, Nat.le_of_ble_eq_true rfl⟩ hP hD rfl rfl rfl rfl hl.1 rfl (Nat.le_of_ble_eq_true rfl) dX4_foretells_88 ⟨Nat.zero_le _, Nat.zero_le _⟩) hD hS hA (fun H locs hP hD hS => ?_)
        refine lv_iload_n hx hb dX4_foretells_91 rfl (lv_at hl 0 rfl) ?_
        refine kif_eqb (tgt := 100) hx hb dX4_foretells_92 (by decide) (fun c50 => ?_) (fun c50 => ?_)
        · have hf := kIfF c50 hf
          refine lv_iload_n hx hb dX4_foretells_100 rfl (lv_at hl 1 rfl) ?_
          have he := Option.some.inj hf
          have he := hO1 _ he.symm
          subst he
          exact kreti hx hb hr hlk hP hD hS dX4_foretells_101
        · have hf := kIfT c50 hf
          refine lv_bipush (v := (-100 : Int32)) hx hb dX4_foretells_95 (by decide) ?_
          refine lv_goto (tgt := 101) hx hb dX4_foretells_97 (by decide) ?_
          have he := Option.some.inj hf
          have he := hO1 _ he.symm
          subst he
          exact kreti hx hb hr hlk hP hD hS dX4_foretells_101
      · have hf := kIfT c47 hf
        refine lv_iload_n hx hb dX4_foretells_40 rfl (lv_at hl 1 rfl) ?_
        refine lv_sipush (v := (1000 : Int32)) hx hb dX4_foretells_41 (by decide) ?_
        refine lv_icmp_ge (tgt := 84) hx hb dX4_foretells_44 (by decide) (fun c51 => ?_) (fun c51 => ?_)
        · have hf := kIfT c51 hf
          refine lv_aload_n hx hb dX4_foretells_84 rfl (lv_at hl 2 rfl) ?_
          refine lv_bipush (v := (6 : Int32)) hx hb dX4_foretells_85 (by decide) ?_
          refine lv_iconst (v := (0 : Int32)) hx hb dX4_foretells_87 (by decide) ?_
          obtain ⟨v52, h53, hf⟩ := kBind hf
          refine kgoA (krunV (wc := (wX4 cI a0 a1 a2 t36.1 SV MX ML MA MH)) (As := [.int (6 : Int32), .int (0 : Int32)]) (rest := []) (ci := 4) hx hb hml hown hts hK (kX4_copies l D cI fu a0 a1 a2 t36.1 SV MX ML MA MH (6 : Int32) (0 : Int32) v52 h53) gX4_foretells_X4_copies rfl rfl rfl hdX4_copies ⟨Nat.le_of_ble_eq_true rfl, Nat.le_of_ble_eq_true rfl⟩ hP hD rfl rfl rfl rfl hl.1 rfl (Nat.le_of_ble_eq_true rfl) dX4_foretells_88 ⟨Nat.zero_le _, Nat.zero_le _⟩) hD hS hA (fun H locs hP hD hS => ?_)
          refine lv_iload_n hx hb dX4_foretells_91 rfl (lv_at hl 0 rfl) ?_
          refine kif_eqb (tgt := 100) hx hb dX4_foretells_92 (by decide) (fun c54 => ?_) (fun c54 => ?_)
          · have hf := kIfF c54 hf
            refine lv_iload_n hx hb dX4_foretells_100 rfl (lv_at hl 1 rfl) ?_
            have he := Option.some.inj hf
            have he := hO1 _ he.symm
            subst he
            exact kreti hx hb hr hlk hP hD hS dX4_foretells_101
          · have hf := kIfT c54 hf
            refine lv_bipush (v := (-100 : Int32)) hx hb dX4_foretells_95 (by decide) ?_
            refine lv_goto (tgt := 101) hx hb dX4_foretells_97 (by decide) ?_
            have he := Option.some.inj hf
            have he := hO1 _ he.symm
            subst he
            exact kreti hx hb hr hlk hP hD hS dX4_foretells_101
        · have hf := kIfF c51 hf
          refine lv_aload_n hx hb dX4_foretells_47 rfl (lv_at hl 2 rfl) ?_
          obtain ⟨v55, h56, hf⟩ := kBind hf
          refine kgoA (krunV (wc := (wX4 cI a0 a1 a2 t36.1 SV MX ML MA MH)) (As := []) (rest := []) (ci := 4) hx hb hml hown hts hK (kX4_ticks l D cI fu a0 a1 a2 t36.1 SV MX ML MA MH v55 h56) gX4_foretells_X4_ticks rfl rfl rfl hdX4_ticks ⟨Nat.le_of_ble_eq_true rfl, Nat.le_of_ble_eq_true rfl⟩ hP hD rfl rfl rfl rfl hl.1 rfl (Nat.le_of_ble_eq_true rfl) dX4_foretells_48 ⟨Nat.zero_le _, Nat.zero_le _⟩) hD hS hA (fun H locs hP hD hS => ?_)
          refine lv_iinc (v := t36.2.1 + (1 : Int32)) (lv' := [(2, .int (t36.2.1 + (1 : Int32))), (3, .int (bI t36.2.2)), (0, .ref a0), (1, .int x1)]) hx hb dX4_foretells_51 hl (k := 1) rfl rfl (by decide) rfl (fun ls hl => ?_)
          refine lv_iload_n hx hb dX4_foretells_54 rfl (lv_at hl 3 rfl) ?_
          refine lv_bipush (v := (-100 : Int32)) hx hb dX4_foretells_55 (by decide) ?_
          refine lv_icmp_ne (tgt := 75) hx hb dX4_foretells_57 (by decide) (fun c57 => ?_) (fun c57 => ?_)
          · have hf := kIfF c57 hf
            refine lv_aload_n hx hb dX4_foretells_75 rfl (lv_at hl 2 rfl) ?_
            refine lv_iload_n hx hb dX4_foretells_76 rfl (lv_at hl 3 rfl) ?_
            obtain ⟨v58, h59, hf⟩ := kBind hf
            refine kgoR (krunV (wc := (wX4 cI a0 a1 a2 v55 SV MX ML MA MH)) (As := [.int x1]) (rest := []) (ci := 4) hx hb hml hown hts hK (kX4_hasTarget l D cI a0 a1 a2 v55 SV MX ML MA MH x1 v58 h59) gX4_foretells_X4_hasTarget rfl rfl rfl hdX4_hasTarget ⟨Nat.le_of_ble_eq_true rfl, Nat.le_of_ble_eq_true rfl⟩ hP hD rfl rfl rfl rfl hl.1 rfl (Nat.le_of_ble_eq_true rfl) dX4_foretells_77 ⟨Nat.zero_le _, Nat.zero_le _⟩) hP hD hS hA [0, 1, 2] rfl (fun H locs hP hS => ?_)
            refine lv_istore_n (lv' := [(3, .int (bI v58)), (2, .int (t36.2.1 + (1 : Int32))), (0, .ref a0), (1, .int x1)]) hx hb dX4_foretells_80 rfl hl (by decide) rfl (fun ls hl => ?_)
            refine lv_goto (tgt := 36) hx hb dX4_foretells_81 (by decide) ?_
            obtain ⟨z60, hz60⟩ : ∃ z : Int32, z = t36.2.1 + (1 : Int32) := ⟨_, rfl⟩
            rw [← hz60] at hf
            have he := (Option.some.inj hf).symm
            have hl : lv_has ls 4 [(3, .int (bI v58)), (2, .int z60), (0, .ref a0), (1, .int x1)] := by rw [hz60]; exact lv_sub hl [0, 1, 2, 3] rfl
            exact hI1 _ he H locs ls hP hD hS hl
          · have hf := kIfT c57 hf
            refine lv_aload_n hx hb dX4_foretells_60 rfl (lv_at hl 2 rfl) ?_
            obtain ⟨v61, h62, hf⟩ := kBind hf
            refine kgoR (krunV (wc := (wX4 cI a0 a1 a2 v55 SV MX ML MA MH)) (As := []) (rest := []) (ci := 4) hx hb hml hown hts hK (kX4_targets l D cI fu a0 a1 a2 v55 SV MX ML MA MH v61 h62) gX4_foretells_X4_targets rfl rfl rfl hdX4_targets ⟨Nat.le_of_ble_eq_true rfl, Nat.le_of_ble_eq_true rfl⟩ hP hD rfl rfl rfl rfl hl.1 rfl (Nat.le_of_ble_eq_true rfl) dX4_foretells_61 ⟨Nat.zero_le _, Nat.zero_le _⟩) hP hD hS hA [0, 1, 2] rfl (fun H locs hP hS => ?_)
            refine lv_if_le (tgt := 71) hx hb dX4_foretells_64 (by decide) (fun c63 => ?_) (fun c63 => ?_)
            · have hf := kIfT c63 hf
              refine lv_iconst (v := (0 : Int32)) hx hb dX4_foretells_71 (by decide) ?_
              refine lv_goto (tgt := 80) hx hb dX4_foretells_72 (by decide) ?_
              refine lv_istore_n (lv' := [(3, .int (0 : Int32)), (2, .int (t36.2.1 + (1 : Int32))), (0, .ref a0), (1, .int x1)]) hx hb dX4_foretells_80 rfl hl (by decide) rfl (fun ls hl => ?_)
              refine lv_goto (tgt := 36) hx hb dX4_foretells_81 (by decide) ?_
              obtain ⟨z64, hz64⟩ : ∃ z : Int32, z = t36.2.1 + (1 : Int32) := ⟨_, rfl⟩
              rw [← hz64] at hf
              have he := (Option.some.inj hf).symm
              have hl : lv_has ls 4 [(3, .int (bI false)), (2, .int z64), (0, .ref a0), (1, .int x1)] := by rw [hz64]; exact lv_sub hl [0, 1, 2, 3] rfl
              exact hI1 _ he H locs ls hP hD hS hl
            · have hf := kIfF c63 hf
              refine lv_iconst (v := (1 : Int32)) hx hb dX4_foretells_67 (by decide) ?_
              refine lv_goto (tgt := 80) hx hb dX4_foretells_68 (by decide) ?_
              refine lv_istore_n (lv' := [(3, .int (1 : Int32)), (2, .int (t36.2.1 + (1 : Int32))), (0, .ref a0), (1, .int x1)]) hx hb dX4_foretells_80 rfl hl (by decide) rfl (fun ls hl => ?_)
              refine lv_goto (tgt := 36) hx hb dX4_foretells_81 (by decide) ?_
              obtain ⟨z65, hz65⟩ : ∃ z : Int32, z = t36.2.1 + (1 : Int32) := ⟨_, rfl⟩
              rw [← hz65] at hf
              have he := (Option.some.inj hf).symm
              have hl : lv_has ls 4 [(3, .int (bI true)), (2, .int z65), (0, .ref a0), (1, .int x1)] := by rw [hz65]; exact lv_sub hl [0, 1, 2, 3] rfl
              exact hI1 _ he H locs ls hP hD hS hl
    · have hf := kIfF c46 hf
      refine lv_iconst (v := (1 : Int32)) hx hb dX4_foretells_22 (by decide) ?_
      refine lv_goto (tgt := 35) hx hb dX4_foretells_23 (by decide) ?_
      refine lv_istore_n (lv' := [(3, .int (1 : Int32)), (2, .int (0 : Int32)), (0, .ref a0), (1, .int x1)]) hx hb dX4_foretells_35 rfl hl (by decide) rfl (fun ls hl => ?_)
      have hl : lv_has ls 4 [(3, .int (bI true)), (2, .int (0 : Int32)), (0, .ref a0), (1, .int x1)] := hl
      refine klp hf (fun t36 : (Nat → Int32) × Int32 × Bool => (wX4 cI a0 a1 a2 t36.1 SV MX ML MA MH)) 4 (fun t36 : (Nat → Int32) × Int32 × Bool => [(3, .int (bI t36.2.2)), (2, .int t36.2.1), (0, .ref a0), (1, .int x1)]) ?_ hP hD hS hl
      intro t36 x36_ hf hI1 hO1 H locs ls hP hD hS hl
      unfold fX4_foretells_L36 at hf
      have hP : va_P D vwCl (wX4 cI a0 a1 a2 t36.1 SV MX ML MA MH) H := hP
      have hD : va_D A (wX4 cI a0 a1 a2 t36.1 SV MX ML MA MH) := hD
      have hl : lv_has ls 4 [(3, .int (bI t36.2.2)), (2, .int t36.2.1), (0, .ref a0), (1, .int x1)] := hl
      refine lv_iload_n hx hb dX4_foretells_36 rfl (lv_at hl 0 rfl) ?_
      refine kif_eqb (tgt := 84) hx hb dX4_foretells_37 (by decide) (fun c66 => ?_) (fun c66 => ?_)
      · have hf := kIfF c66 hf
        refine lv_aload_n hx hb dX4_foretells_84 rfl (lv_at hl 2 rfl) ?_
        refine lv_bipush (v := (6 : Int32)) hx hb dX4_foretells_85 (by decide) ?_
        refine lv_iconst (v := (0 : Int32)) hx hb dX4_foretells_87 (by decide) ?_
        obtain ⟨v67, h68, hf⟩ := kBind hf
        refine kgoA (krunV (wc := (wX4 cI a0 a1 a2 t36.1 SV MX ML MA MH)) (As := [.int (6 : Int32), .int (0 : Int32)]) (rest := []) (ci := 4) hx hb hml hown hts hK (kX4_copies l D cI fu a0 a1 a2 t36.1 SV MX ML MA MH (6 : Int32) (0 : Int32) v67 h68) gX4_foretells_X4_copies rfl rfl rfl hdX4_copies ⟨Nat.le_of_ble_eq_true rfl, Nat.le_of_ble_eq_true rfl⟩ hP hD rfl rfl rfl rfl hl.1 rfl (Nat.le_of_ble_eq_true rfl) dX4_foretells_88 ⟨Nat.zero_le _, Nat.zero_le _⟩) hD hS hA (fun H locs hP hD hS => ?_)
        refine lv_iload_n hx hb dX4_foretells_91 rfl (lv_at hl 0 rfl) ?_
        refine kif_eqb (tgt := 100) hx hb dX4_foretells_92 (by decide) (fun c69 => ?_) (fun c69 => ?_)
        · have hf := kIfF c69 hf
          refine lv_iload_n hx hb dX4_foretells_100 rfl (lv_at hl 1 rfl) ?_
          have he := Option.some.inj hf
          have he := hO1 _ he.symm
          subst he
          exact kreti hx hb hr hlk hP hD hS dX4_foretells_101
        · have hf := kIfT c69 hf
          refine lv_bipush (v := (-100 : Int32)) hx hb dX4_foretells_95 (by decide) ?_
          refine lv_goto (tgt := 101) hx hb dX4_foretells_97 (by decide) ?_
          have he := Option.some.inj hf
          have he := hO1 _ he.symm
          subst he
          exact kreti hx hb hr hlk hP hD hS dX4_foretells_101
      · have hf := kIfT c66 hf
        refine lv_iload_n hx hb dX4_foretells_40 rfl (lv_at hl 1 rfl) ?_
        refine lv_sipush (v := (1000 : Int32)) hx hb dX4_foretells_41 (by decide) ?_
        refine lv_icmp_ge (tgt := 84) hx hb dX4_foretells_44 (by decide) (fun c70 => ?_) (fun c70 => ?_)
        · have hf := kIfT c70 hf
          refine lv_aload_n hx hb dX4_foretells_84 rfl (lv_at hl 2 rfl) ?_
          refine lv_bipush (v := (6 : Int32)) hx hb dX4_foretells_85 (by decide) ?_
          refine lv_iconst (v := (0 : Int32)) hx hb dX4_foretells_87 (by decide) ?_
          obtain ⟨v71, h72, hf⟩ := kBind hf
          refine kgoA (krunV (wc := (wX4 cI a0 a1 a2 t36.1 SV MX ML MA MH)) (As := [.int (6 : Int32), .int (0 : Int32)]) (rest := []) (ci := 4) hx hb hml hown hts hK (kX4_copies l D cI fu a0 a1 a2 t36.1 SV MX ML MA MH (6 : Int32) (0 : Int32) v71 h72) gX4_foretells_X4_copies rfl rfl rfl hdX4_copies ⟨Nat.le_of_ble_eq_true rfl, Nat.le_of_ble_eq_true rfl⟩ hP hD rfl rfl rfl rfl hl.1 rfl (Nat.le_of_ble_eq_true rfl) dX4_foretells_88 ⟨Nat.zero_le _, Nat.zero_le _⟩) hD hS hA (fun H locs hP hD hS => ?_)
          refine lv_iload_n hx hb dX4_foretells_91 rfl (lv_at hl 0 rfl) ?_
          refine kif_eqb (tgt := 100) hx hb dX4_foretells_92 (by decide) (fun c73 => ?_) (fun c73 => ?_)
          · have hf := kIfF c73 hf
            refine lv_iload_n hx hb dX4_foretells_100 rfl (lv_at hl 1 rfl) ?_
            have he := Option.some.inj hf
            have he := hO1 _ he.symm
            subst he
            exact kreti hx hb hr hlk hP hD hS dX4_foretells_101
          · have hf := kIfT c73 hf
            refine lv_bipush (v := (-100 : Int32)) hx hb dX4_foretells_95 (by decide) ?_
            refine lv_goto (tgt := 101) hx hb dX4_foretells_97 (by decide) ?_
            have he := Option.some.inj hf
            have he := hO1 _ he.symm
            subst he
            exact kreti hx hb hr hlk hP hD hS dX4_foretells_101
        · have hf := kIfF c70 hf
          refine lv_aload_n hx hb dX4_foretells_47 rfl (lv_at hl 2 rfl) ?_
          obtain ⟨v74, h75, hf⟩ := kBind hf
          refine kgoA (krunV (wc := (wX4 cI a0 a1 a2 t36.1 SV MX ML MA MH)) (As := []) (rest := []) (ci := 4) hx hb hml hown hts hK (kX4_ticks l D cI fu a0 a1 a2 t36.1 SV MX ML MA MH v74 h75) gX4_foretells_X4_ticks rfl rfl rfl hdX4_ticks ⟨Nat.le_of_ble_eq_true rfl, Nat.le_of_ble_eq_true rfl⟩ hP hD rfl rfl rfl rfl hl.1 rfl (Nat.le_of_ble_eq_true rfl) dX4_foretells_48 ⟨Nat.zero_le _, Nat.zero_le _⟩) hD hS hA (fun H locs hP hD hS => ?_)
          refine lv_iinc (v := t36.2.1 + (1 : Int32)) (lv' := [(2, .int (t36.2.1 + (1 : Int32))), (3, .int (bI t36.2.2)), (0, .ref a0), (1, .int x1)]) hx hb dX4_foretells_51 hl (k := 1) rfl rfl (by decide) rfl (fun ls hl => ?_)
          refine lv_iload_n hx hb dX4_foretells_54 rfl (lv_at hl 3 rfl) ?_
          refine lv_bipush (v := (-100 : Int32)) hx hb dX4_foretells_55 (by decide) ?_
          refine lv_icmp_ne (tgt := 75) hx hb dX4_foretells_57 (by decide) (fun c76 => ?_) (fun c76 => ?_)
          · have hf := kIfF c76 hf
            refine lv_aload_n hx hb dX4_foretells_75 rfl (lv_at hl 2 rfl) ?_
            refine lv_iload_n hx hb dX4_foretells_76 rfl (lv_at hl 3 rfl) ?_
            obtain ⟨v77, h78, hf⟩ := kBind hf
            refine kgoR (krunV (wc := (wX4 cI a0 a1 a2 v74 SV MX ML MA MH)) (As := [.int x1]) (rest := []) (ci := 4) hx hb hml hown hts hK (kX4_hasTarget l D cI a0 a1 a2 v74 SV MX ML MA MH x1 v77 h78) gX4_foretells_X4_hasTarget rfl rfl rfl hdX4_hasTarget ⟨Nat.le_of_ble_eq_true rfl, Nat.le_of_ble_eq_true rfl⟩ hP hD rfl rfl rfl rfl hl.1 rfl (Nat.le_of_ble_eq_true rfl) dX4_foretells_77 ⟨Nat.zero_le _, Nat.zero_le _⟩) hP hD hS hA [0, 1, 2] rfl (fun H locs hP hS => ?_)
            refine lv_istore_n (lv' := [(3, .int (bI v77)), (2, .int (t36.2.1 + (1 : Int32))), (0, .ref a0), (1, .int x1)]) hx hb dX4_foretells_80 rfl hl (by decide) rfl (fun ls hl => ?_)
            refine lv_goto (tgt := 36) hx hb dX4_foretells_81 (by decide) ?_
            obtain ⟨z79, hz79⟩ : ∃ z : Int32, z = t36.2.1 + (1 : Int32) := ⟨_, rfl⟩
            rw [← hz79] at hf
            have he := (Option.some.inj hf).symm
            have hl : lv_has ls 4 [(3, .int (bI v77)), (2, .int z79), (0, .ref a0), (1, .int x1)] := by rw [hz79]; exact lv_sub hl [0, 1, 2, 3] rfl
            exact hI1 _ he H locs ls hP hD hS hl
          · have hf := kIfT c76 hf
            refine lv_aload_n hx hb dX4_foretells_60 rfl (lv_at hl 2 rfl) ?_
            obtain ⟨v80, h81, hf⟩ := kBind hf
            refine kgoR (krunV (wc := (wX4 cI a0 a1 a2 v74 SV MX ML MA MH)) (As := []) (rest := []) (ci := 4) hx hb hml hown hts hK (kX4_targets l D cI fu a0 a1 a2 v74 SV MX ML MA MH v80 h81) gX4_foretells_X4_targets rfl rfl rfl hdX4_targets ⟨Nat.le_of_ble_eq_true rfl, Nat.le_of_ble_eq_true rfl⟩ hP hD rfl rfl rfl rfl hl.1 rfl (Nat.le_of_ble_eq_true rfl) dX4_foretells_61 ⟨Nat.zero_le _, Nat.zero_le _⟩) hP hD hS hA [0, 1, 2] rfl (fun H locs hP hS => ?_)
            refine lv_if_le (tgt := 71) hx hb dX4_foretells_64 (by decide) (fun c82 => ?_) (fun c82 => ?_)
            · have hf := kIfT c82 hf
              refine lv_iconst (v := (0 : Int32)) hx hb dX4_foretells_71 (by decide) ?_
              refine lv_goto (tgt := 80) hx hb dX4_foretells_72 (by decide) ?_
              refine lv_istore_n (lv' := [(3, .int (0 : Int32)), (2, .int (t36.2.1 + (1 : Int32))), (0, .ref a0), (1, .int x1)]) hx hb dX4_foretells_80 rfl hl (by decide) rfl (fun ls hl => ?_)
              refine lv_goto (tgt := 36) hx hb dX4_foretells_81 (by decide) ?_
              obtain ⟨z83, hz83⟩ : ∃ z : Int32, z = t36.2.1 + (1 : Int32) := ⟨_, rfl⟩
              rw [← hz83] at hf
              have he := (Option.some.inj hf).symm
              have hl : lv_has ls 4 [(3, .int (bI false)), (2, .int z83), (0, .ref a0), (1, .int x1)] := by rw [hz83]; exact lv_sub hl [0, 1, 2, 3] rfl
              exact hI1 _ he H locs ls hP hD hS hl
            · have hf := kIfF c82 hf
              refine lv_iconst (v := (1 : Int32)) hx hb dX4_foretells_67 (by decide) ?_
              refine lv_goto (tgt := 80) hx hb dX4_foretells_68 (by decide) ?_
              refine lv_istore_n (lv' := [(3, .int (1 : Int32)), (2, .int (t36.2.1 + (1 : Int32))), (0, .ref a0), (1, .int x1)]) hx hb dX4_foretells_80 rfl hl (by decide) rfl (fun ls hl => ?_)
              refine lv_goto (tgt := 36) hx hb dX4_foretells_81 (by decide) ?_
              obtain ⟨z84, hz84⟩ : ∃ z : Int32, z = t36.2.1 + (1 : Int32) := ⟨_, rfl⟩
              rw [← hz84] at hf
              have he := (Option.some.inj hf).symm
              have hl : lv_has ls 4 [(3, .int (bI true)), (2, .int z84), (0, .ref a0), (1, .int x1)] := by rw [hz84]; exact lv_sub hl [0, 1, 2, 3] rfl
              exact hI1 _ he H locs ls hP hD hS hl
set_option maxHeartbeats 4000000 in
set_option maxRecDepth 100000 in
theorem kX4_allDone (l : Launch) (D : va_G) (cI : ClassId) (fu : Nat) (a0 a1 a2 : Nat) (M : (Nat → Int32)) (SV : Int32) (MX : (Nat → Int32)) (ML : Int32) (MA : Int32) (MH : Int64) (o : Int32 × (Nat → Int32)) (hf : fX4_allDone fu M = some o) : Ct l yX4_allDone wsX4_allDone { frames := 8, cells := 0, slots := 0, locals := 181 } D cI [.ref a0] (wX4 cI a0 a1 a2 M SV MX ML MA MH) (wX4 cI a0 a1 a2 o.2 SV MX ML MA MH) (some (.int o.1)) := by
  refine Ct.of (cc := cX4_allDone) (maxL := 1) (ret := (some .int)) (by decide) rfl (Nat.le_of_ble_eq_true rfl) ?_
  intro p e s m args below meth c A F hP hD hS ls hl
  obtain ⟨hx, hb, hml, hr, hown, hts, hlk, hK, hA⟩ := F
  have hown : s.vm.findClass RX4 = some m.cls := hown
  have hl : lv_has ls 1 [(0, .ref a0)] := hl
  unfold fX4_allDone at hf
  refine lv_aload_n hx hb dX4_allDone_0 rfl (lv_at hl 0 rfl) ?_
  refine lv_bipush (v := (-100 : Int32)) hx hb dX4_allDone_1 (by decide) ?_
  obtain ⟨v1, h2, hf⟩ := kBind hf
  refine kgoA (krunV (wc := (wX4 cI a0 a1 a2 M SV MX ML MA MH)) (As := [.int (-100 : Int32)]) (rest := []) (ci := 4) hx hb hml hown hts hK (kX4_foretells l D cI fu a0 a1 a2 M SV MX ML MA MH (-100 : Int32) v1 h2) gX4_allDone_X4_foretells rfl rfl rfl hdX4_foretells ⟨Nat.le_of_ble_eq_true rfl, Nat.le_of_ble_eq_true rfl⟩ hP hD rfl rfl rfl rfl hl.1 rfl (Nat.le_of_ble_eq_true rfl) dX4_allDone_3 ⟨Nat.zero_le _, Nat.zero_le _⟩) hD hS hA (fun H locs hP hD hS => ?_)
  have he := Option.some.inj hf
  subst he
  exact kreti hx hb hr hlk hP hD hS dX4_allDone_6
set_option maxHeartbeats 4000000 in
set_option maxRecDepth 100000 in
theorem kX4_isCrane (l : Launch) (D : va_G) (cI : ClassId) (a0 a1 a2 : Nat) (M : (Nat → Int32)) (SV : Int32) (MX : (Nat → Int32)) (ML : Int32) (MA : Int32) (MH : Int64) (x1 : Int32) (o : Bool) (hf : fX4_isCrane M x1 = some o) : Ct l yX4_isCrane wsX4_isCrane { frames := 1, cells := 0, slots := 0, locals := 22 } D cI [.ref a0, .int x1] (wX4 cI a0 a1 a2 M SV MX ML MA MH) (wX4 cI a0 a1 a2 M SV MX ML MA MH) (some (.int (bI o))) := by
  refine Ct.of (cc := cX4_isCrane) (maxL := 2) (ret := (some .boolean)) (by decide) rfl (Nat.le_of_ble_eq_true rfl) ?_
  intro p e s m args below meth c A F hP hD hS ls hl
  obtain ⟨hx, hb, hml, hr, hown, hts, hlk, hK, hA⟩ := F
  have hown : s.vm.findClass RX4 = some m.cls := hown
  have hl : lv_has ls 2 [(0, .ref a0), (1, .int x1)] := hl
  have hinX4 : ∀ w ∈ wsX40, w ∈ wsX4_isCrane := by decide +kernel
  have hfl7 := hts (.fieldLink RX4 7 "CraneGuardModel" "row" "[I") (by decide +kernel)
  unfold fX4_isCrane at hf
  refine lv_iload_n hx hb dX4_isCrane_0 rfl (lv_at hl 1 rfl) ?_
  refine lv_iconst (v := (0 : Int32)) hx hb dX4_isCrane_1 (by decide) ?_
  refine lv_aload_n hx hb dX4_isCrane_2 rfl (lv_at hl 0 rfl) ?_
  refine va_get (D := D) (ci := 4) (v := .ref a1) (C := RX4) (T := TX4) (N := 6) hx hb hts hinX4 hown hK.1 hP 0 rfl rfl 0 (by decide) hfl7 (fun _ h9 => h9) rfl dX4_isCrane_3 ?_
  refine lv_iconst (v := (2 : Int32)) hx hb dX4_isCrane_6 (by decide) ?_
  obtain ⟨v1, h2, hf⟩ := kBind hf
  refine krd hx hb hK hP 1 rfl h2 dX4_isCrane_7 ?_
  refine lv_iconst (v := (1 : Int32)) hx hb dX4_isCrane_8 (by decide) ?_
  refine lv_isub hx hb dX4_isCrane_9 ?_
  obtain ⟨v3, h4, hf⟩ := kBind hf
  refine kgoR (krunS (wc := ([] : va_W)) (As := [.int x1, .int (0 : Int32), .int (v1 - (1 : Int32))]) (rest := []) hx hb hml hown hts hK (kX4_in l D cI x1 (0 : Int32) (v1 - (1 : Int32)) v3 h4) gX4_isCrane_X4_in rfl rfl rfl hdX4_in ⟨Nat.le_of_ble_eq_true rfl, Nat.le_of_ble_eq_true rfl⟩ k_P0 (k_D0 A) rfl hl.1 rfl (Nat.le_of_ble_eq_true rfl) dX4_isCrane_10 ⟨Nat.zero_le _, Nat.zero_le _⟩) hP hD hS hA [] rfl (fun H locs hP hS => ?_)
  have he := Option.some.inj hf
  subst he
  exact kretz hx hb hr hlk hP hD hS dX4_isCrane_13
set_option maxHeartbeats 4000000 in
set_option maxRecDepth 100000 in
theorem kX4_isZone (l : Launch) (D : va_G) (cI : ClassId) (x0 : Int32) (o : Bool) (hf : fX4_isZone x0 = some o) : Ct l yX4_isZone wsX4_isZone { frames := 1, cells := 0, slots := 0, locals := 22 } D cI [.int x0] ([] : va_W) ([] : va_W) (some (.int (bI o))) := by
  refine Ct.of (cc := cX4_isZone) (maxL := 1) (ret := (some .boolean)) (by decide) rfl (Nat.le_of_ble_eq_true rfl) ?_
  intro p e s m args below meth c A F hP hD hS ls hl
  obtain ⟨hx, hb, hml, hr, hown, hts, hlk, hK, hA⟩ := F
  have hown : s.vm.findClass RX4 = some m.cls := hown
  have hl : lv_has ls 1 [(0, .int x0)] := hl
  unfold fX4_isZone at hf
  refine lv_iload_n hx hb dX4_isZone_0 rfl (lv_at hl 0 rfl) ?_
  refine lv_iconst (v := (0 : Int32)) hx hb dX4_isZone_1 (by decide) ?_
  refine lv_iconst (v := (5 : Int32)) hx hb dX4_isZone_2 (by decide) ?_
  obtain ⟨v1, h2, hf⟩ := kBind hf
  refine kgoR (krunS (wc := ([] : va_W)) (As := [.int x0, .int (0 : Int32), .int (5 : Int32)]) (rest := []) hx hb hml hown hts hK (kX4_in l D cI x0 (0 : Int32) (5 : Int32) v1 h2) gX4_isZone_X4_in rfl rfl rfl hdX4_in ⟨Nat.le_of_ble_eq_true rfl, Nat.le_of_ble_eq_true rfl⟩ k_P0 (k_D0 A) rfl hl.1 rfl (Nat.le_of_ble_eq_true rfl) dX4_isZone_3 ⟨Nat.zero_le _, Nat.zero_le _⟩) hP hD hS hA [] rfl (fun H locs hP hS => ?_)
  have he := Option.some.inj hf
  subst he
  exact kretz hx hb hr hlk hP hD hS dX4_isZone_6
set_option maxHeartbeats 4000000 in
set_option maxRecDepth 100000 in
theorem kX4_arc (l : Launch) (D : va_G) (cI : ClassId) (a0 a1 a2 : Nat) (M : (Nat → Int32)) (SV : Int32) (MX : (Nat → Int32)) (ML : Int32) (MA : Int32) (MH : Int64) (x1 : Int32) (x2 : Int32) (x3 : Bool) (o : Int32) (hf : fX4_arc M x1 x2 x3 = some o) : Ct l yX4_arc wsX4_arc { frames := 2, cells := 0, slots := 0, locals := 43 } D cI [.ref a0, .int x1, .int x2, .int (bI x3)] (wX4 cI a0 a1 a2 M SV MX ML MA MH) (wX4 cI a0 a1 a2 M SV MX ML MA MH) (some (.int o)) := by
  refine Ct.of (cc := cX4_arc) (maxL := 4) (ret := (some .int)) (by decide) rfl (Nat.le_of_ble_eq_true rfl) ?_
  intro p e s m args below meth c A F hP hD hS ls hl
  obtain ⟨hx, hb, hml, hr, hown, hts, hlk, hK, hA⟩ := F
  have hown : s.vm.findClass RX4 = some m.cls := hown
  have hl : lv_has ls 4 [(0, .ref a0), (1, .int x1), (2, .int x2), (3, .int (bI x3))] := hl
  unfold fX4_arc at hf
  refine lv_aload_n hx hb dX4_arc_0 rfl (lv_at hl 0 rfl) ?_
  refine lv_iload_n hx hb dX4_arc_1 rfl (lv_at hl 1 rfl) ?_
  obtain ⟨v1, h2, hf⟩ := kBind hf
  refine kgoR (krunV (wc := (wX4 cI a0 a1 a2 M SV MX ML MA MH)) (As := [.int x1]) (rest := []) (ci := 4) hx hb hml hown hts hK (kX4_isCrane l D cI a0 a1 a2 M SV MX ML MA MH x1 v1 h2) gX4_arc_X4_isCrane rfl rfl rfl hdX4_isCrane ⟨Nat.le_of_ble_eq_true rfl, Nat.le_of_ble_eq_true rfl⟩ hP hD rfl rfl rfl rfl hl.1 rfl (Nat.le_of_ble_eq_true rfl) dX4_arc_2 ⟨Nat.zero_le _, Nat.zero_le _⟩) hP hD hS hA [0, 1, 2] rfl (fun H locs hP hS => ?_)
  refine kif_eqb (tgt := 39) hx hb dX4_arc_5 (by decide) (fun c3 => ?_) (fun c3 => ?_)
  · have hf := kIfF c3 hf
    refine lv_bipush (v := (-101 : Int32)) hx hb dX4_arc_39 (by decide) ?_
    have he := Option.some.inj hf
    subst he
    exact kreti hx hb hr hlk hP hD hS dX4_arc_41
  · have hf := kIfT c3 hf
    refine lv_iload_n hx hb dX4_arc_8 rfl (lv_at hl 2 rfl) ?_
    obtain ⟨v4, h5, hf⟩ := kBind hf
    refine kgoR (krunS (wc := ([] : va_W)) (As := [.int x2]) (rest := []) hx hb hml hown hts hK (kX4_isZone l D cI x2 v4 h5) gX4_arc_X4_isZone rfl rfl rfl hdX4_isZone ⟨Nat.le_of_ble_eq_true rfl, Nat.le_of_ble_eq_true rfl⟩ k_P0 (k_D0 A) rfl hl.1 rfl (Nat.le_of_ble_eq_true rfl) dX4_arc_9 ⟨Nat.zero_le _, Nat.zero_le _⟩) hP hD hS hA [] rfl (fun H locs hP hS => ?_)
    refine kif_eqb (tgt := 39) hx hb dX4_arc_12 (by decide) (fun c6 => ?_) (fun c6 => ?_)
    · have hf := kIfF c6 hf
      refine lv_bipush (v := (-101 : Int32)) hx hb dX4_arc_39 (by decide) ?_
      have he := Option.some.inj hf
      subst he
      exact kreti hx hb hr hlk hP hD hS dX4_arc_41
    · have hf := kIfT c6 hf
      refine lv_aload_n hx hb dX4_arc_15 rfl (lv_at hl 0 rfl) ?_
      refine lv_iload_n hx hb dX4_arc_16 rfl (lv_at hl 1 rfl) ?_
      refine lv_bipush (v := (9 : Int32)) hx hb dX4_arc_17 (by decide) ?_
      refine lv_iconst (v := (2 : Int32)) hx hb dX4_arc_19 (by decide) ?_
      refine lv_iload_n hx hb dX4_arc_20 rfl (lv_at hl 2 rfl) ?_
      refine lv_imul hx hb dX4_arc_21 ?_
      refine lv_iadd hx hb dX4_arc_22 ?_
      refine lv_iload_n hx hb dX4_arc_23 rfl (lv_at hl 3 rfl) ?_
      refine kif_eqb (tgt := 31) hx hb dX4_arc_24 (by decide) (fun c7 => ?_) (fun c7 => ?_)
      · have hf := kIfF c7 hf
        refine lv_iconst (v := (0 : Int32)) hx hb dX4_arc_31 (by decide) ?_
        refine lv_iadd hx hb dX4_arc_32 ?_
        obtain ⟨v8, h9, hf⟩ := kBind hf
        refine kgoR (krunV (wc := (wX4 cI a0 a1 a2 M SV MX ML MA MH)) (As := [.int x1, .int (((9 : Int32) + ((2 : Int32) * x2)) + (0 : Int32))]) (rest := []) (ci := 4) hx hb hml hown hts hK (kX4_of l D cI a0 a1 a2 M SV MX ML MA MH x1 (((9 : Int32) + ((2 : Int32) * x2)) + (0 : Int32)) v8 h9) gX4_arc_X4_of rfl rfl rfl hdX4_of ⟨Nat.le_of_ble_eq_true rfl, Nat.le_of_ble_eq_true rfl⟩ hP hD rfl rfl rfl rfl hl.1 rfl (Nat.le_of_ble_eq_true rfl) dX4_arc_33 ⟨Nat.zero_le _, Nat.zero_le _⟩) hP hD hS hA [0, 1, 2] rfl (fun H locs hP hS => ?_)
        refine lv_goto (tgt := 41) hx hb dX4_arc_36 (by decide) ?_
        have he := Option.some.inj hf
        subst he
        exact kreti hx hb hr hlk hP hD hS dX4_arc_41
      · have hf := kIfT c7 hf
        refine lv_iconst (v := (1 : Int32)) hx hb dX4_arc_27 (by decide) ?_
        refine lv_goto (tgt := 32) hx hb dX4_arc_28 (by decide) ?_
        refine lv_iadd hx hb dX4_arc_32 ?_
        obtain ⟨v10, h11, hf⟩ := kBind hf
        refine kgoR (krunV (wc := (wX4 cI a0 a1 a2 M SV MX ML MA MH)) (As := [.int x1, .int (((9 : Int32) + ((2 : Int32) * x2)) + (1 : Int32))]) (rest := []) (ci := 4) hx hb hml hown hts hK (kX4_of l D cI a0 a1 a2 M SV MX ML MA MH x1 (((9 : Int32) + ((2 : Int32) * x2)) + (1 : Int32)) v10 h11) gX4_arc_X4_of rfl rfl rfl hdX4_of ⟨Nat.le_of_ble_eq_true rfl, Nat.le_of_ble_eq_true rfl⟩ hP hD rfl rfl rfl rfl hl.1 rfl (Nat.le_of_ble_eq_true rfl) dX4_arc_33 ⟨Nat.zero_le _, Nat.zero_le _⟩) hP hD hS hA [0, 1, 2] rfl (fun H locs hP hS => ?_)
        refine lv_goto (tgt := 41) hx hb dX4_arc_36 (by decide) ?_
        have he := Option.some.inj hf
        subst he
        exact kreti hx hb hr hlk hP hD hS dX4_arc_41
set_option maxHeartbeats 4000000 in
set_option maxRecDepth 100000 in
theorem kX4_blocker (l : Launch) (D : va_G) (cI : ClassId) (fu : Nat) (a0 a1 a2 : Nat) (M : (Nat → Int32)) (SV : Int32) (MX : (Nat → Int32)) (ML : Int32) (MA : Int32) (MH : Int64) (x1 : Int32) (o : Int32) (hf : fX4_blocker fu M x1 = some o) : Ct l yX4_blocker wsX4_blocker { frames := 5, cells := 0, slots := 0, locals := 114 } D cI [.ref a0, .int x1] (wX4 cI a0 a1 a2 M SV MX ML MA MH) (wX4 cI a0 a1 a2 M SV MX ML MA MH) (some (.int o)) := by
  refine Ct.of (cc := cX4_blocker) (maxL := 2) (ret := (some .int)) (by decide) rfl (Nat.le_of_ble_eq_true rfl) ?_
  intro p e s m args below meth c A F hP hD hS ls hl
  obtain ⟨hx, hb, hml, hr, hown, hts, hlk, hK, hA⟩ := F
  have hown : s.vm.findClass RX4 = some m.cls := hown
  have hl : lv_has ls 2 [(0, .ref a0), (1, .int x1)] := hl
  unfold fX4_blocker at hf
  refine lv_aload_n hx hb dX4_blocker_0 rfl (lv_at hl 0 rfl) ?_
  refine lv_iload_n hx hb dX4_blocker_1 rfl (lv_at hl 1 rfl) ?_
  obtain ⟨v1, h2, hf⟩ := kBind hf
  refine kgoR (krunV (wc := (wX4 cI a0 a1 a2 M SV MX ML MA MH)) (As := [.int x1]) (rest := []) (ci := 4) hx hb hml hown hts hK (kX4_isCrane l D cI a0 a1 a2 M SV MX ML MA MH x1 v1 h2) gX4_blocker_X4_isCrane rfl rfl rfl hdX4_isCrane ⟨Nat.le_of_ble_eq_true rfl, Nat.le_of_ble_eq_true rfl⟩ hP hD rfl rfl rfl rfl hl.1 rfl (Nat.le_of_ble_eq_true rfl) dX4_blocker_2 ⟨Nat.zero_le _, Nat.zero_le _⟩) hP hD hS hA [0, 1, 2] rfl (fun H locs hP hS => ?_)
  refine kif_neb (tgt := 11) hx hb dX4_blocker_5 (by decide) (fun c3 => ?_) (fun c3 => ?_)
  · have hf := kIfT c3 hf
    refine lv_aload_n hx hb dX4_blocker_11 rfl (lv_at hl 0 rfl) ?_
    refine lv_iload_n hx hb dX4_blocker_12 rfl (lv_at hl 1 rfl) ?_
    obtain ⟨v4, h5, hf⟩ := kBind hf
    refine kgoR (krunV (wc := (wX4 cI a0 a1 a2 M SV MX ML MA MH)) (As := [.int x1]) (rest := []) (ci := 4) hx hb hml hown hts hK (kX4_isBlocked l D cI fu a0 a1 a2 M SV MX ML MA MH x1 v4 h5) gX4_blocker_X4_isBlocked rfl rfl rfl hdX4_isBlocked ⟨Nat.le_of_ble_eq_true rfl, Nat.le_of_ble_eq_true rfl⟩ hP hD rfl rfl rfl rfl hl.1 rfl (Nat.le_of_ble_eq_true rfl) dX4_blocker_13 ⟨Nat.zero_le _, Nat.zero_le _⟩) hP hD hS hA [0, 1, 2] rfl (fun H locs hP hS => ?_)
    refine kif_eqb (tgt := 27) hx hb dX4_blocker_16 (by decide) (fun c6 => ?_) (fun c6 => ?_)
    · have hf := kIfF c6 hf
      refine lv_bipush (v := (-100 : Int32)) hx hb dX4_blocker_27 (by decide) ?_
      have he := Option.some.inj hf
      subst he
      exact kreti hx hb hr hlk hP hD hS dX4_blocker_29
    · have hf := kIfT c6 hf
      refine lv_aload_n hx hb dX4_blocker_19 rfl (lv_at hl 0 rfl) ?_
      refine lv_iload_n hx hb dX4_blocker_20 rfl (lv_at hl 1 rfl) ?_
      obtain ⟨v7, h8, hf⟩ := kBind hf
      refine kgoR (krunV (wc := (wX4 cI a0 a1 a2 M SV MX ML MA MH)) (As := [.int x1]) (rest := []) (ci := 4) hx hb hml hown hts hK (kX4_inWay l D cI fu a0 a1 a2 M SV MX ML MA MH x1 v7 h8) gX4_blocker_X4_inWay rfl rfl rfl hdX4_inWay ⟨Nat.le_of_ble_eq_true rfl, Nat.le_of_ble_eq_true rfl⟩ hP hD rfl rfl rfl rfl hl.1 rfl (Nat.le_of_ble_eq_true rfl) dX4_blocker_21 ⟨Nat.zero_le _, Nat.zero_le _⟩) hP hD hS hA [0, 1, 2] rfl (fun H locs hP hS => ?_)
      refine lv_goto (tgt := 29) hx hb dX4_blocker_24 (by decide) ?_
      have he := Option.some.inj hf
      subst he
      exact kreti hx hb hr hlk hP hD hS dX4_blocker_29
  · have hf := kIfF c3 hf
    refine lv_bipush (v := (-101 : Int32)) hx hb dX4_blocker_8 (by decide) ?_
    have he := Option.some.inj hf
    subst he
    exact kreti hx hb hr hlk hP hD hS dX4_blocker_10
set_option maxHeartbeats 4000000 in
set_option maxRecDepth 100000 in
theorem kX4_occupiers (l : Launch) (D : va_G) (cI : ClassId) (fu : Nat) (a0 a1 a2 : Nat) (M : (Nat → Int32)) (SV : Int32) (MX : (Nat → Int32)) (ML : Int32) (MA : Int32) (MH : Int64) (x1 : Int32) (o : Int32) (hf : fX4_occupiers fu M x1 = some o) : Ct l yX4_occupiers wsX4_occupiers { frames := 3, cells := 0, slots := 0, locals := 69 } D cI [.ref a0, .int x1] (wX4 cI a0 a1 a2 M SV MX ML MA MH) (wX4 cI a0 a1 a2 M SV MX ML MA MH) (some (.int o)) := by
  refine Ct.of (cc := cX4_occupiers) (maxL := 4) (ret := (some .int)) (by decide) rfl (Nat.le_of_ble_eq_true rfl) ?_
  intro p e s m args below meth c A F hP hD hS ls hl
  obtain ⟨hx, hb, hml, hr, hown, hts, hlk, hK, hA⟩ := F
  have hown : s.vm.findClass RX4 = some m.cls := hown
  have hl : lv_has ls 4 [(0, .ref a0), (1, .int x1)] := hl
  have hinX4 : ∀ w ∈ wsX40, w ∈ wsX4_occupiers := by decide +kernel
  have hfl7 := hts (.fieldLink RX4 7 "CraneGuardModel" "row" "[I") (by decide +kernel)
  unfold fX4_occupiers at hf
  refine lv_iconst (v := (0 : Int32)) hx hb dX4_occupiers_0 (by decide) ?_
  refine lv_istore_n (lv' := [(2, .int (0 : Int32)), (0, .ref a0), (1, .int x1)]) hx hb dX4_occupiers_1 rfl hl (by decide) rfl (fun ls hl => ?_)
  refine lv_iconst (v := (0 : Int32)) hx hb dX4_occupiers_2 (by decide) ?_
  refine lv_istore_n (lv' := [(3, .int (0 : Int32)), (2, .int (0 : Int32)), (0, .ref a0), (1, .int x1)]) hx hb dX4_occupiers_3 rfl hl (by decide) rfl (fun ls hl => ?_)
  have hl : lv_has ls 4 [(3, .int (0 : Int32)), (2, .int (0 : Int32)), (0, .ref a0), (1, .int x1)] := hl
  refine klp hf (fun t4 : Int32 × Int32 => (wX4 cI a0 a1 a2 M SV MX ML MA MH)) 4 (fun t4 : Int32 × Int32 => [(3, .int t4.2), (2, .int t4.1), (0, .ref a0), (1, .int x1)]) ?_ hP hD hS hl
  intro t4 x4_ hf hI1 hO1 H locs ls hP hD hS hl
  unfold fX4_occupiers_L4 at hf
  have hP : va_P D vwCl (wX4 cI a0 a1 a2 M SV MX ML MA MH) H := hP
  have hD : va_D A (wX4 cI a0 a1 a2 M SV MX ML MA MH) := hD
  have hl : lv_has ls 4 [(3, .int t4.2), (2, .int t4.1), (0, .ref a0), (1, .int x1)] := hl
  refine lv_iload_n hx hb dX4_occupiers_4 rfl (lv_at hl 0 rfl) ?_
  refine lv_aload_n hx hb dX4_occupiers_5 rfl (lv_at hl 2 rfl) ?_
  refine va_get (D := D) (ci := 4) (v := .ref a1) (C := RX4) (T := TX4) (N := 6) hx hb hts hinX4 hown hK.1 hP 0 rfl rfl 0 (by decide) hfl7 (fun _ h9 => h9) rfl dX4_occupiers_6 ?_
  refine lv_iconst (v := (2 : Int32)) hx hb dX4_occupiers_9 (by decide) ?_
  obtain ⟨v11, h12, hf⟩ := kBind hf
  refine krd hx hb hK hP 1 rfl h12 dX4_occupiers_10 ?_
  refine lv_icmp_ge (tgt := 39) hx hb dX4_occupiers_11 (by decide) (fun c13 => ?_) (fun c13 => ?_)
  · have hf := kIfT c13 hf
    refine lv_iload_n hx hb dX4_occupiers_39 rfl (lv_at hl 1 rfl) ?_
    have he := Option.some.inj hf
    have he := hO1 _ he.symm
    subst he
    exact kreti hx hb hr hlk hP hD hS dX4_occupiers_40
  · have hf := kIfF c13 hf
    refine lv_iload_n hx hb dX4_occupiers_14 rfl (lv_at hl 1 rfl) ?_
    refine lv_aload_n hx hb dX4_occupiers_15 rfl (lv_at hl 2 rfl) ?_
    refine lv_iload_n hx hb dX4_occupiers_16 rfl (lv_at hl 0 rfl) ?_
    refine lv_iload_n hx hb dX4_occupiers_17 rfl (lv_at hl 3 rfl) ?_
    obtain ⟨v14, h15, hf⟩ := kBind hf
    refine kgoR (krunV (wc := (wX4 cI a0 a1 a2 M SV MX ML MA MH)) (As := [.int t4.2, .int x1]) (rest := [.int t4.1]) (ci := 4) hx hb hml hown hts hK (kX4_occupies l D cI a0 a1 a2 M SV MX ML MA MH t4.2 x1 v14 h15) gX4_occupiers_X4_occupies rfl rfl rfl hdX4_occupies ⟨Nat.le_of_ble_eq_true rfl, Nat.le_of_ble_eq_true rfl⟩ hP hD rfl rfl rfl rfl hl.1 rfl (Nat.le_of_ble_eq_true rfl) dX4_occupiers_18 ⟨Nat.zero_le _, Nat.zero_le _⟩) hP hD hS hA [0, 1, 2] rfl (fun H locs hP hS => ?_)
    refine kif_eqb (tgt := 30) hx hb dX4_occupiers_21 (by decide) (fun c16 => ?_) (fun c16 => ?_)
    · have hf := kIfF c16 hf
      refine lv_iconst (v := (0 : Int32)) hx hb dX4_occupiers_30 (by decide) ?_
      refine lv_ior hx hb dX4_occupiers_31 ?_
      refine lv_istore_n (lv' := [(2, .int (t4.1 ||| (0 : Int32))), (3, .int t4.2), (0, .ref a0), (1, .int x1)]) hx hb dX4_occupiers_32 rfl hl (by decide) rfl (fun ls hl => ?_)
      refine lv_iinc (v := t4.2 + (1 : Int32)) (lv' := [(3, .int (t4.2 + (1 : Int32))), (2, .int (t4.1 ||| (0 : Int32))), (0, .ref a0), (1, .int x1)]) hx hb dX4_occupiers_33 hl (k := 1) rfl rfl (by decide) rfl (fun ls hl => ?_)
      refine lv_goto (tgt := 4) hx hb dX4_occupiers_36 (by decide) ?_
      obtain ⟨z17, hz17⟩ : ∃ z : Int32, z = t4.1 ||| (0 : Int32) := ⟨_, rfl⟩
      rw [← hz17] at hf
      obtain ⟨z18, hz18⟩ : ∃ z : Int32, z = t4.2 + (1 : Int32) := ⟨_, rfl⟩
      rw [← hz18] at hf
      have he := (Option.some.inj hf).symm
      have hl : lv_has ls 4 [(3, .int z18), (2, .int z17), (0, .ref a0), (1, .int x1)] := by rw [hz17, hz18]; exact lv_sub hl [0, 1, 2, 3] rfl
      exact hI1 _ he H locs ls hP hD hS hl
    · have hf := kIfT c16 hf
      refine lv_iconst (v := (1 : Int32)) hx hb dX4_occupiers_24 (by decide) ?_
      refine lv_iload_n hx hb dX4_occupiers_25 rfl (lv_at hl 0 rfl) ?_
      refine kishl hx hb dX4_occupiers_26 ?_
      refine lv_goto (tgt := 31) hx hb dX4_occupiers_27 (by decide) ?_
      refine lv_ior hx hb dX4_occupiers_31 ?_
      refine lv_istore_n (lv' := [(2, .int (t4.1 ||| (jshl (1 : Int32) t4.2))), (3, .int t4.2), (0, .ref a0), (1, .int x1)]) hx hb dX4_occupiers_32 rfl hl (by decide) rfl (fun ls hl => ?_)
      refine lv_iinc (v := t4.2 + (1 : Int32)) (lv' := [(3, .int (t4.2 + (1 : Int32))), (2, .int (t4.1 ||| (jshl (1 : Int32) t4.2))), (0, .ref a0), (1, .int x1)]) hx hb dX4_occupiers_33 hl (k := 1) rfl rfl (by decide) rfl (fun ls hl => ?_)
      refine lv_goto (tgt := 4) hx hb dX4_occupiers_36 (by decide) ?_
      obtain ⟨z19, hz19⟩ : ∃ z : Int32, z = t4.1 ||| (jshl (1 : Int32) t4.2) := ⟨_, rfl⟩
      rw [← hz19] at hf
      obtain ⟨z20, hz20⟩ : ∃ z : Int32, z = t4.2 + (1 : Int32) := ⟨_, rfl⟩
      rw [← hz20] at hf
      have he := (Option.some.inj hf).symm
      have hl : lv_has ls 4 [(3, .int z20), (2, .int z19), (0, .ref a0), (1, .int x1)] := by rw [hz19, hz20]; exact lv_sub hl [0, 1, 2, 3] rfl
      exact hI1 _ he H locs ls hP hD hS hl
set_option maxHeartbeats 4000000 in
set_option maxRecDepth 100000 in
theorem kX4_isConflict (l : Launch) (D : va_G) (cI : ClassId) (fu : Nat) (a0 a1 a2 : Nat) (M : (Nat → Int32)) (SV : Int32) (MX : (Nat → Int32)) (ML : Int32) (MA : Int32) (MH : Int64) (x1 : Int32) (o : Bool) (hf : fX4_isConflict fu M x1 = some o) : Ct l yX4_isConflict wsX4_isConflict { frames := 4, cells := 0, slots := 0, locals := 92 } D cI [.ref a0, .int x1] (wX4 cI a0 a1 a2 M SV MX ML MA MH) (wX4 cI a0 a1 a2 M SV MX ML MA MH) (some (.int (bI o))) := by
  refine Ct.of (cc := cX4_isConflict) (maxL := 3) (ret := (some .boolean)) (by decide) rfl (Nat.le_of_ble_eq_true rfl) ?_
  intro p e s m args below meth c A F hP hD hS ls hl
  obtain ⟨hx, hb, hml, hr, hown, hts, hlk, hK, hA⟩ := F
  have hown : s.vm.findClass RX4 = some m.cls := hown
  have hl : lv_has ls 3 [(0, .ref a0), (1, .int x1)] := hl
  unfold fX4_isConflict at hf
  refine lv_aload_n hx hb dX4_isConflict_0 rfl (lv_at hl 0 rfl) ?_
  refine lv_iload_n hx hb dX4_isConflict_1 rfl (lv_at hl 1 rfl) ?_
  obtain ⟨v1, h2, hf⟩ := kBind hf
  refine kgoR (krunV (wc := (wX4 cI a0 a1 a2 M SV MX ML MA MH)) (As := [.int x1]) (rest := []) (ci := 4) hx hb hml hown hts hK (kX4_occupiers l D cI fu a0 a1 a2 M SV MX ML MA MH x1 v1 h2) gX4_isConflict_X4_occupiers rfl rfl rfl hdX4_occupiers ⟨Nat.le_of_ble_eq_true rfl, Nat.le_of_ble_eq_true rfl⟩ hP hD rfl rfl rfl rfl hl.1 rfl (Nat.le_of_ble_eq_true rfl) dX4_isConflict_2 ⟨Nat.zero_le _, Nat.zero_le _⟩) hP hD hS hA [0, 1, 2] rfl (fun H locs hP hS => ?_)
  refine lv_istore_n (lv' := [(2, .int v1), (0, .ref a0), (1, .int x1)]) hx hb dX4_isConflict_5 rfl hl (by decide) rfl (fun ls hl => ?_)
  refine lv_iload_n hx hb dX4_isConflict_6 rfl (lv_at hl 0 rfl) ?_
  refine lv_iload_n hx hb dX4_isConflict_7 rfl (lv_at hl 0 rfl) ?_
  refine lv_iconst (v := (1 : Int32)) hx hb dX4_isConflict_8 (by decide) ?_
  refine lv_isub hx hb dX4_isConflict_9 ?_
  refine lv_iand hx hb dX4_isConflict_10 ?_
  refine lv_if_eq (tgt := 18) hx hb dX4_isConflict_11 (by decide) (fun c3 => ?_) (fun c3 => ?_)
  · have hf := kIfT c3 hf
    refine lv_iconst (v := (0 : Int32)) hx hb dX4_isConflict_18 (by decide) ?_
    have he := Option.some.inj hf
    subst he
    exact kretz hx hb hr hlk hP hD hS dX4_isConflict_19
  · have hf := kIfF c3 hf
    refine lv_iconst (v := (1 : Int32)) hx hb dX4_isConflict_14 (by decide) ?_
    refine lv_goto (tgt := 19) hx hb dX4_isConflict_15 (by decide) ?_
    have he := Option.some.inj hf
    subst he
    exact kretz hx hb hr hlk hP hD hS dX4_isConflict_19
set_option maxHeartbeats 4000000 in
set_option maxRecDepth 100000 in
theorem kX4_clashes (l : Launch) (D : va_G) (cI : ClassId) (fu : Nat) (a0 a1 a2 : Nat) (M : (Nat → Int32)) (SV : Int32) (MX : (Nat → Int32)) (ML : Int32) (MA : Int32) (MH : Int64) (o : Int32) (hf : fX4_clashes fu M = some o) : Ct l yX4_clashes wsX4_clashes { frames := 5, cells := 0, slots := 0, locals := 114 } D cI [.ref a0] (wX4 cI a0 a1 a2 M SV MX ML MA MH) (wX4 cI a0 a1 a2 M SV MX ML MA MH) (some (.int o)) := by
  refine Ct.of (cc := cX4_clashes) (maxL := 3) (ret := (some .int)) (by decide) rfl (Nat.le_of_ble_eq_true rfl) ?_
  intro p e s m args below meth c A F hP hD hS ls hl
  obtain ⟨hx, hb, hml, hr, hown, hts, hlk, hK, hA⟩ := F
  have hown : s.vm.findClass RX4 = some m.cls := hown
  have hl : lv_has ls 3 [(0, .ref a0)] := hl
  unfold fX4_clashes at hf
  refine lv_iconst (v := (0 : Int32)) hx hb dX4_clashes_0 (by decide) ?_
  refine lv_istore_n (lv' := [(1, .int (0 : Int32)), (0, .ref a0)]) hx hb dX4_clashes_1 rfl hl (by decide) rfl (fun ls hl => ?_)
  refine lv_iconst (v := (0 : Int32)) hx hb dX4_clashes_2 (by decide) ?_
  refine lv_istore_n (lv' := [(2, .int (0 : Int32)), (1, .int (0 : Int32)), (0, .ref a0)]) hx hb dX4_clashes_3 rfl hl (by decide) rfl (fun ls hl => ?_)
  have hl : lv_has ls 3 [(2, .int (0 : Int32)), (1, .int (0 : Int32)), (0, .ref a0)] := hl
  refine klp hf (fun t4 : Int32 × Int32 => (wX4 cI a0 a1 a2 M SV MX ML MA MH)) 3 (fun t4 : Int32 × Int32 => [(2, .int t4.2), (1, .int t4.1), (0, .ref a0)]) ?_ hP hD hS hl
  intro t4 x4_ hf hI1 hO1 H locs ls hP hD hS hl
  unfold fX4_clashes_L4 at hf
  have hP : va_P D vwCl (wX4 cI a0 a1 a2 M SV MX ML MA MH) H := hP
  have hD : va_D A (wX4 cI a0 a1 a2 M SV MX ML MA MH) := hD
  have hl : lv_has ls 3 [(2, .int t4.2), (1, .int t4.1), (0, .ref a0)] := hl
  refine lv_iload_n hx hb dX4_clashes_4 rfl (lv_at hl 0 rfl) ?_
  refine lv_bipush (v := (6 : Int32)) hx hb dX4_clashes_5 (by decide) ?_
  refine lv_icmp_ge (tgt := 34) hx hb dX4_clashes_7 (by decide) (fun c9 => ?_) (fun c9 => ?_)
  · have hf := kIfT c9 hf
    refine lv_iload_n hx hb dX4_clashes_34 rfl (lv_at hl 1 rfl) ?_
    have he := Option.some.inj hf
    have he := hO1 _ he.symm
    subst he
    exact kreti hx hb hr hlk hP hD hS dX4_clashes_35
  · have hf := kIfF c9 hf
    refine lv_iload_n hx hb dX4_clashes_10 rfl (lv_at hl 1 rfl) ?_
    refine lv_aload_n hx hb dX4_clashes_11 rfl (lv_at hl 2 rfl) ?_
    refine lv_iload_n hx hb dX4_clashes_12 rfl (lv_at hl 0 rfl) ?_
    obtain ⟨v10, h11, hf⟩ := kBind hf
    refine kgoR (krunV (wc := (wX4 cI a0 a1 a2 M SV MX ML MA MH)) (As := [.int t4.2]) (rest := [.int t4.1]) (ci := 4) hx hb hml hown hts hK (kX4_isConflict l D cI fu a0 a1 a2 M SV MX ML MA MH t4.2 v10 h11) gX4_clashes_X4_isConflict rfl rfl rfl hdX4_isConflict ⟨Nat.le_of_ble_eq_true rfl, Nat.le_of_ble_eq_true rfl⟩ hP hD rfl rfl rfl rfl hl.1 rfl (Nat.le_of_ble_eq_true rfl) dX4_clashes_13 ⟨Nat.zero_le _, Nat.zero_le _⟩) hP hD hS hA [0, 1, 2] rfl (fun H locs hP hS => ?_)
    refine kif_eqb (tgt := 25) hx hb dX4_clashes_16 (by decide) (fun c12 => ?_) (fun c12 => ?_)
    · have hf := kIfF c12 hf
      refine lv_iconst (v := (0 : Int32)) hx hb dX4_clashes_25 (by decide) ?_
      refine lv_ior hx hb dX4_clashes_26 ?_
      refine lv_istore_n (lv' := [(1, .int (t4.1 ||| (0 : Int32))), (2, .int t4.2), (0, .ref a0)]) hx hb dX4_clashes_27 rfl hl (by decide) rfl (fun ls hl => ?_)
      refine lv_iinc (v := t4.2 + (1 : Int32)) (lv' := [(2, .int (t4.2 + (1 : Int32))), (1, .int (t4.1 ||| (0 : Int32))), (0, .ref a0)]) hx hb dX4_clashes_28 hl (k := 1) rfl rfl (by decide) rfl (fun ls hl => ?_)
      refine lv_goto (tgt := 4) hx hb dX4_clashes_31 (by decide) ?_
      obtain ⟨z13, hz13⟩ : ∃ z : Int32, z = t4.1 ||| (0 : Int32) := ⟨_, rfl⟩
      rw [← hz13] at hf
      obtain ⟨z14, hz14⟩ : ∃ z : Int32, z = t4.2 + (1 : Int32) := ⟨_, rfl⟩
      rw [← hz14] at hf
      have he := (Option.some.inj hf).symm
      have hl : lv_has ls 3 [(2, .int z14), (1, .int z13), (0, .ref a0)] := by rw [hz13, hz14]; exact lv_sub hl [0, 1, 2] rfl
      exact hI1 _ he H locs ls hP hD hS hl
    · have hf := kIfT c12 hf
      refine lv_iconst (v := (1 : Int32)) hx hb dX4_clashes_19 (by decide) ?_
      refine lv_iload_n hx hb dX4_clashes_20 rfl (lv_at hl 0 rfl) ?_
      refine kishl hx hb dX4_clashes_21 ?_
      refine lv_goto (tgt := 26) hx hb dX4_clashes_22 (by decide) ?_
      refine lv_ior hx hb dX4_clashes_26 ?_
      refine lv_istore_n (lv' := [(1, .int (t4.1 ||| (jshl (1 : Int32) t4.2))), (2, .int t4.2), (0, .ref a0)]) hx hb dX4_clashes_27 rfl hl (by decide) rfl (fun ls hl => ?_)
      refine lv_iinc (v := t4.2 + (1 : Int32)) (lv' := [(2, .int (t4.2 + (1 : Int32))), (1, .int (t4.1 ||| (jshl (1 : Int32) t4.2))), (0, .ref a0)]) hx hb dX4_clashes_28 hl (k := 1) rfl rfl (by decide) rfl (fun ls hl => ?_)
      refine lv_goto (tgt := 4) hx hb dX4_clashes_31 (by decide) ?_
      obtain ⟨z15, hz15⟩ : ∃ z : Int32, z = t4.1 ||| (jshl (1 : Int32) t4.2) := ⟨_, rfl⟩
      rw [← hz15] at hf
      obtain ⟨z16, hz16⟩ : ∃ z : Int32, z = t4.2 + (1 : Int32) := ⟨_, rfl⟩
      rw [← hz16] at hf
      have he := (Option.some.inj hf).symm
      have hl : lv_has ls 3 [(2, .int z16), (1, .int z15), (0, .ref a0)] := by rw [hz15, hz16]; exact lv_sub hl [0, 1, 2] rfl
      exact hI1 _ he H locs ls hP hD hS hl
