set_option maxHeartbeats 4000000 in
set_option maxRecDepth 100000 in
theorem kX4_sets (l : Launch) (D : va_G) (cI : ClassId) (a0 a1 a2 : Nat) (M : (Nat → Int32)) (SV : Int32) (MX : (Nat → Int32)) (ML : Int32) (MA : Int32) (MH : Int64) (x1 : Int32) (x2 : Int32) (x3 : Int32) (o : (Nat → Int32)) (hf : fX4_sets M x1 x2 x3 = some o) : Ct l yX4_sets wsX4_sets { frames := 0, cells := 0, slots := 0, locals := 0 } D cI [.ref a0, .int x1, .int x2, .int x3] (wX4 cI a0 a1 a2 M SV MX ML MA MH) (wX4 cI a0 a1 a2 o SV MX ML MA MH) none := by
  refine Ct.of (cc := cX4_sets) (maxL := 4) (ret := none) (by decide) rfl (Nat.le_of_ble_eq_true rfl) ?_
  intro p e s m args below meth c A F hP hD hS ls hl
  obtain ⟨hx, hb, hml, hr, hown, hts, hlk, hK, hA⟩ := F
  have hown : s.vm.findClass RX4 = some m.cls := hown
  have hl : lv_has ls 4 [(0, .ref a0), (1, .int x1), (2, .int x2), (3, .int x3)] := hl
  have hinX4 : ∀ w ∈ wsX40, w ∈ wsX4_sets := by decide +kernel
  have hfl7 := hts (.fieldLink RX4 7 "CraneGuardModel" "row" "[I") (by decide +kernel)
  unfold fX4_sets at hf
  refine lv_aload_n hx hb dX4_sets_0 rfl (lv_at hl 0 rfl) ?_
  refine va_get (D := D) (ci := 4) (v := .ref a1) (C := RX4) (T := TX4) (N := 6) hx hb hts hinX4 hown hK.1 hP 0 rfl rfl 0 (by decide) hfl7 (fun _ h9 => h9) rfl dX4_sets_1 ?_
  refine lv_iconst (v := (4 : Int32)) hx hb dX4_sets_4 (by decide) ?_
  refine lv_bipush (v := (21 : Int32)) hx hb dX4_sets_5 (by decide) ?_
  refine lv_iload_n hx hb dX4_sets_7 rfl (lv_at hl 1 rfl) ?_
  refine lv_imul hx hb dX4_sets_8 ?_
  refine lv_iadd hx hb dX4_sets_9 ?_
  refine lv_iload_n hx hb dX4_sets_10 rfl (lv_at hl 2 rfl) ?_
  refine lv_iadd hx hb dX4_sets_11 ?_
  refine lv_iload_n hx hb dX4_sets_12 rfl (lv_at hl 3 rfl) ?_
  obtain ⟨v1, h2, hf⟩ := kBind hf
  refine kwr hx hb hK hP hD hS 1 rfl h2 (wX4 cI a0 a1 a2 v1 SV MX ML MA MH) rfl dX4_sets_13 (fun H locs hP hD hS => ?_)
  have he := Option.some.inj hf
  subst he
  exact kretv hx hb hr hlk hP hD hS dX4_sets_14
set_option maxHeartbeats 4000000 in
set_option maxRecDepth 100000 in
theorem kX4_addCrane (l : Launch) (D : va_G) (cI : ClassId) (fu : Nat) (a0 a1 a2 : Nat) (M : (Nat → Int32)) (SV : Int32) (MX : (Nat → Int32)) (ML : Int32) (MA : Int32) (MH : Int64) (x1 : Int32) (x2 : Int32) (x3 : Int32) (o : Int32 × (Nat → Int32) × Int32) (hf : fX4_addCrane fu M SV x1 x2 x3 = some o) : Ct l yX4_addCrane wsX4_addCrane { frames := 2, cells := 0, slots := 0, locals := 44 } D cI [.ref a0, .int x1, .int x2, .int x3] (wX4 cI a0 a1 a2 M SV MX ML MA MH) (wX4 cI a0 a1 a2 o.2.1 o.2.2 MX ML MA MH) (some (.int o.1)) := by
  refine Ct.of (cc := cX4_addCrane) (maxL := 6) (ret := (some .int)) (by decide) rfl (Nat.le_of_ble_eq_true rfl) ?_
  intro p e s m args below meth c A F hP hD hS ls hl
  obtain ⟨hx, hb, hml, hr, hown, hts, hlk, hK, hA⟩ := F
  have hown : s.vm.findClass RX4 = some m.cls := hown
  have hl : lv_has ls 6 [(0, .ref a0), (1, .int x1), (2, .int x2), (3, .int x3)] := hl
  have hinX4 : ∀ w ∈ wsX40, w ∈ wsX4_addCrane := by decide +kernel
  have hfl7 := hts (.fieldLink RX4 7 "CraneGuardModel" "row" "[I") (by decide +kernel)
  unfold fX4_addCrane at hf
  refine lv_iload_n hx hb dX4_addCrane_0 rfl (lv_at hl 1 rfl) ?_
  obtain ⟨v1, h2, hf⟩ := kBind hf
  refine kgoR (krunS (wc := ([] : va_W)) (As := [.int x1]) (rest := []) hx hb hml hown hts hK (kX4_isAngle l D cI x1 v1 h2) gX4_addCrane_X4_isAngle rfl rfl rfl hdX4_isAngle ⟨Nat.le_of_ble_eq_true rfl, Nat.le_of_ble_eq_true rfl⟩ k_P0 (k_D0 A) rfl hl.1 rfl (Nat.le_of_ble_eq_true rfl) dX4_addCrane_1 ⟨Nat.zero_le _, Nat.zero_le _⟩) hP hD hS hA [] rfl (fun H locs hP hS => ?_)
  refine kif_eqb (tgt := 26) hx hb dX4_addCrane_4 (by decide) (fun c3 => ?_) (fun c3 => ?_)
  · have hf := kIfF c3 hf
    refine lv_bipush (v := (-102 : Int32)) hx hb dX4_addCrane_26 (by decide) ?_
    have he := Option.some.inj hf
    subst he
    exact kreti hx hb hr hlk hP hD hS dX4_addCrane_28
  · have hf := kIfT c3 hf
    refine lv_iload_n hx hb dX4_addCrane_7 rfl (lv_at hl 2 rfl) ?_
    refine lv_iconst (v := (1 : Int32)) hx hb dX4_addCrane_8 (by decide) ?_
    refine lv_iconst (v := (5 : Int32)) hx hb dX4_addCrane_9 (by decide) ?_
    obtain ⟨v4, h5, hf⟩ := kBind hf
    refine kgoR (krunS (wc := ([] : va_W)) (As := [.int x2, .int (1 : Int32), .int (5 : Int32)]) (rest := []) hx hb hml hown hts hK (kX4_in l D cI x2 (1 : Int32) (5 : Int32) v4 h5) gX4_addCrane_X4_in rfl rfl rfl hdX4_in ⟨Nat.le_of_ble_eq_true rfl, Nat.le_of_ble_eq_true rfl⟩ k_P0 (k_D0 A) rfl hl.1 rfl (Nat.le_of_ble_eq_true rfl) dX4_addCrane_10 ⟨Nat.zero_le _, Nat.zero_le _⟩) hP hD hS hA [] rfl (fun H locs hP hS => ?_)
    refine kif_eqb (tgt := 26) hx hb dX4_addCrane_13 (by decide) (fun c6 => ?_) (fun c6 => ?_)
    · have hf := kIfF c6 hf
      refine lv_bipush (v := (-102 : Int32)) hx hb dX4_addCrane_26 (by decide) ?_
      have he := Option.some.inj hf
      subst he
      exact kreti hx hb hr hlk hP hD hS dX4_addCrane_28
    · have hf := kIfT c6 hf
      refine lv_iload_n hx hb dX4_addCrane_16 rfl (lv_at hl 3 rfl) ?_
      refine lv_iconst (v := (0 : Int32)) hx hb dX4_addCrane_17 (by decide) ?_
      refine lv_bipush (v := (9 : Int32)) hx hb dX4_addCrane_18 (by decide) ?_
      obtain ⟨v7, h8, hf⟩ := kBind hf
      refine kgoR (krunS (wc := ([] : va_W)) (As := [.int x3, .int (0 : Int32), .int (9 : Int32)]) (rest := []) hx hb hml hown hts hK (kX4_in l D cI x3 (0 : Int32) (9 : Int32) v7 h8) gX4_addCrane_X4_in rfl rfl rfl hdX4_in ⟨Nat.le_of_ble_eq_true rfl, Nat.le_of_ble_eq_true rfl⟩ k_P0 (k_D0 A) rfl hl.1 rfl (Nat.le_of_ble_eq_true rfl) dX4_addCrane_20 ⟨Nat.zero_le _, Nat.zero_le _⟩) hP hD hS hA [] rfl (fun H locs hP hS => ?_)
      refine kif_neb (tgt := 29) hx hb dX4_addCrane_23 (by decide) (fun c9 => ?_) (fun c9 => ?_)
      · have hf := kIfT c9 hf
        refine lv_aload_n hx hb dX4_addCrane_29 rfl (lv_at hl 0 rfl) ?_
        refine va_get (D := D) (ci := 4) (v := .ref a1) (C := RX4) (T := TX4) (N := 6) hx hb hts hinX4 hown hK.1 hP 0 rfl rfl 0 (by decide) hfl7 (fun _ h9 => h9) rfl dX4_addCrane_30 ?_
        refine lv_iconst (v := (2 : Int32)) hx hb dX4_addCrane_33 (by decide) ?_
        obtain ⟨v10, h11, hf⟩ := kBind hf
        refine krd hx hb hK hP 1 rfl h11 dX4_addCrane_34 ?_
        refine lv_iconst (v := (4 : Int32)) hx hb dX4_addCrane_35 (by decide) ?_
        refine lv_icmp_ne (tgt := 42) hx hb dX4_addCrane_36 (by decide) (fun c12 => ?_) (fun c12 => ?_)
        · have hf := kIfF c12 hf
          refine lv_aload_n hx hb dX4_addCrane_42 rfl (lv_at hl 0 rfl) ?_
          obtain ⟨v13, h14, hf⟩ := kBind hf
          refine kgoA (krunV (wc := (wX4 cI a0 a1 a2 M SV MX ML MA MH)) (As := []) (rest := []) (ci := 4) hx hb hml hown hts hK (kX4_saves l D cI fu a0 a1 a2 M SV MX ML MA MH v13 h14) gX4_addCrane_X4_saves rfl rfl rfl hdX4_saves ⟨Nat.le_of_ble_eq_true rfl, Nat.le_of_ble_eq_true rfl⟩ hP hD rfl rfl rfl rfl hl.1 rfl (Nat.le_of_ble_eq_true rfl) dX4_addCrane_43 ⟨Nat.zero_le _, Nat.zero_le _⟩) hD hS hA (fun H locs hP hD hS => ?_)
          refine lv_aload_n hx hb dX4_addCrane_46 rfl (lv_at hl 0 rfl) ?_
          refine va_get (D := D) (ci := 4) (v := .ref a1) (C := RX4) (T := TX4) (N := 6) hx hb hts hinX4 hown hK.1 hP 0 rfl rfl 0 (by decide) hfl7 (fun _ h9 => h9) rfl dX4_addCrane_47 ?_
          refine lv_iconst (v := (2 : Int32)) hx hb dX4_addCrane_50 (by decide) ?_
          obtain ⟨v15, h16, hf⟩ := kBind hf
          refine krd hx hb hK hP 1 rfl h16 dX4_addCrane_51 ?_
          refine lv_istore (lv' := [(4, .int v15), (0, .ref a0), (1, .int x1), (2, .int x2), (3, .int x3)]) hx hb dX4_addCrane_52 hl (by decide) rfl (fun ls hl => ?_)
          refine lv_iconst (v := (0 : Int32)) hx hb dX4_addCrane_54 (by decide) ?_
          refine lv_istore (lv' := [(5, .int (0 : Int32)), (4, .int v15), (0, .ref a0), (1, .int x1), (2, .int x2), (3, .int x3)]) hx hb dX4_addCrane_55 hl (by decide) rfl (fun ls hl => ?_)
          have hl : lv_has ls 6 [(5, .int (0 : Int32)), (4, .int v15), (0, .ref a0), (1, .int x1), (2, .int x2), (3, .int x3)] := hl
          refine klp hf (fun t57 : (Nat → Int32) × Int32 => (wX4 cI a0 a1 a2 t57.1 v13.2 MX ML MA MH)) 6 (fun t57 : (Nat → Int32) × Int32 => [(5, .int t57.2), (4, .int v15), (0, .ref a0), (1, .int x1), (2, .int x2), (3, .int x3)]) ?_ hP hD hS hl
          intro t57 x57_ hf hI1 hO1 H locs ls hP hD hS hl
          unfold fX4_addCrane_L57 at hf
          have hP : va_P D vwCl (wX4 cI a0 a1 a2 t57.1 v13.2 MX ML MA MH) H := hP
          have hD : va_D A (wX4 cI a0 a1 a2 t57.1 v13.2 MX ML MA MH) := hD
          have hl : lv_has ls 6 [(5, .int t57.2), (4, .int v15), (0, .ref a0), (1, .int x1), (2, .int x2), (3, .int x3)] := hl
          refine lv_iload hx hb dX4_addCrane_57 (lv_at hl 0 rfl) ?_
          refine lv_bipush (v := (21 : Int32)) hx hb dX4_addCrane_59 (by decide) ?_
          refine lv_icmp_ge (tgt := 97) hx hb dX4_addCrane_61 (by decide) (fun c39 => ?_) (fun c39 => ?_)
          · have hf := kIfT c39 hf
            refine lv_aload_n hx hb dX4_addCrane_97 rfl (lv_at hl 2 rfl) ?_
            refine lv_iload hx hb dX4_addCrane_98 (lv_at hl 1 rfl) ?_
            refine lv_iconst (v := (0 : Int32)) hx hb dX4_addCrane_100 (by decide) ?_
            refine lv_iload_n hx hb dX4_addCrane_101 rfl (lv_at hl 3 rfl) ?_
            obtain ⟨v40, h41, hf⟩ := kBind hf
            refine kgoA (krunV (wc := (wX4 cI a0 a1 a2 t57.1 v13.2 MX ML MA MH)) (As := [.int v15, .int (0 : Int32), .int x1]) (rest := []) (ci := 4) hx hb hml hown hts hK (kX4_sets l D cI a0 a1 a2 t57.1 v13.2 MX ML MA MH v15 (0 : Int32) x1 v40 h41) gX4_addCrane_X4_sets rfl rfl rfl hdX4_sets ⟨Nat.le_of_ble_eq_true rfl, Nat.le_of_ble_eq_true rfl⟩ hP hD rfl rfl rfl rfl hl.1 rfl (Nat.le_of_ble_eq_true rfl) dX4_addCrane_102 ⟨Nat.zero_le _, Nat.zero_le _⟩) hD hS hA (fun H locs hP hD hS => ?_)
            refine lv_aload_n hx hb dX4_addCrane_105 rfl (lv_at hl 2 rfl) ?_
            refine lv_iload hx hb dX4_addCrane_106 (lv_at hl 1 rfl) ?_
            refine lv_iconst (v := (1 : Int32)) hx hb dX4_addCrane_108 (by decide) ?_
            refine lv_iload_n hx hb dX4_addCrane_109 rfl (lv_at hl 4 rfl) ?_
            obtain ⟨v42, h43, hf⟩ := kBind hf
            refine kgoA (krunV (wc := (wX4 cI a0 a1 a2 v40 v13.2 MX ML MA MH)) (As := [.int v15, .int (1 : Int32), .int x2]) (rest := []) (ci := 4) hx hb hml hown hts hK (kX4_sets l D cI a0 a1 a2 v40 v13.2 MX ML MA MH v15 (1 : Int32) x2 v42 h43) gX4_addCrane_X4_sets rfl rfl rfl hdX4_sets ⟨Nat.le_of_ble_eq_true rfl, Nat.le_of_ble_eq_true rfl⟩ hP hD rfl rfl rfl rfl hl.1 rfl (Nat.le_of_ble_eq_true rfl) dX4_addCrane_110 ⟨Nat.zero_le _, Nat.zero_le _⟩) hD hS hA (fun H locs hP hD hS => ?_)
            refine lv_aload_n hx hb dX4_addCrane_113 rfl (lv_at hl 2 rfl) ?_
            refine lv_iload hx hb dX4_addCrane_114 (lv_at hl 1 rfl) ?_
            refine lv_iconst (v := (2 : Int32)) hx hb dX4_addCrane_116 (by decide) ?_
            refine lv_iload_n hx hb dX4_addCrane_117 rfl (lv_at hl 5 rfl) ?_
            obtain ⟨v44, h45, hf⟩ := kBind hf
            refine kgoA (krunV (wc := (wX4 cI a0 a1 a2 v42 v13.2 MX ML MA MH)) (As := [.int v15, .int (2 : Int32), .int x3]) (rest := []) (ci := 4) hx hb hml hown hts hK (kX4_sets l D cI a0 a1 a2 v42 v13.2 MX ML MA MH v15 (2 : Int32) x3 v44 h45) gX4_addCrane_X4_sets rfl rfl rfl hdX4_sets ⟨Nat.le_of_ble_eq_true rfl, Nat.le_of_ble_eq_true rfl⟩ hP hD rfl rfl rfl rfl hl.1 rfl (Nat.le_of_ble_eq_true rfl) dX4_addCrane_118 ⟨Nat.zero_le _, Nat.zero_le _⟩) hD hS hA (fun H locs hP hD hS => ?_)
            refine lv_aload_n hx hb dX4_addCrane_121 rfl (lv_at hl 2 rfl) ?_
            refine va_get (D := D) (ci := 4) (v := .ref a1) (C := RX4) (T := TX4) (N := 6) hx hb hts hinX4 hown hK.1 hP 0 rfl rfl 0 (by decide) hfl7 (fun _ h9 => h9) rfl dX4_addCrane_122 ?_
            refine lv_iconst (v := (2 : Int32)) hx hb dX4_addCrane_125 (by decide) ?_
            refine lv_dup2_11 hx hb dX4_addCrane_126 rfl rfl ?_
            obtain ⟨v46, h47, hf⟩ := kBind hf
            refine krd hx hb hK hP 1 rfl h47 dX4_addCrane_127 ?_
            refine lv_iconst (v := (1 : Int32)) hx hb dX4_addCrane_128 (by decide) ?_
            refine lv_iadd hx hb dX4_addCrane_129 ?_
            obtain ⟨v48, h49, hf⟩ := kBind hf
            refine kwr hx hb hK hP hD hS 1 rfl h49 (wX4 cI a0 a1 a2 v48 v13.2 MX ML MA MH) rfl dX4_addCrane_130 (fun H locs hP hD hS => ?_)
            refine lv_iload hx hb dX4_addCrane_131 (lv_at hl 1 rfl) ?_
            have he := Option.some.inj hf
            have he := hO1 _ he.symm
            subst he
            exact kreti hx hb hr hlk hP hD hS dX4_addCrane_133
          · have hf := kIfF c39 hf
            refine lv_aload_n hx hb dX4_addCrane_64 rfl (lv_at hl 2 rfl) ?_
            refine lv_iload hx hb dX4_addCrane_65 (lv_at hl 1 rfl) ?_
            refine lv_iload hx hb dX4_addCrane_67 (lv_at hl 0 rfl) ?_
            refine lv_iload hx hb dX4_addCrane_69 (lv_at hl 0 rfl) ?_
            refine lv_bipush (v := (9 : Int32)) hx hb dX4_addCrane_71 (by decide) ?_
            refine lv_icmp_ge (tgt := 82) hx hb dX4_addCrane_73 (by decide) (fun c50 => ?_) (fun c50 => ?_)
            · have hf := kIfT c50 hf
              refine lv_bipush (v := (-100 : Int32)) hx hb dX4_addCrane_82 (by decide) ?_
              refine lv_goto (tgt := 88) hx hb dX4_addCrane_84 (by decide) ?_
              obtain ⟨v51, h52, hf⟩ := kBind hf
              refine kgoA (krunV (wc := (wX4 cI a0 a1 a2 t57.1 v13.2 MX ML MA MH)) (As := [.int v15, .int t57.2, .int (-100 : Int32)]) (rest := []) (ci := 4) hx hb hml hown hts hK (kX4_sets l D cI a0 a1 a2 t57.1 v13.2 MX ML MA MH v15 t57.2 (-100 : Int32) v51 h52) gX4_addCrane_X4_sets rfl rfl rfl hdX4_sets ⟨Nat.le_of_ble_eq_true rfl, Nat.le_of_ble_eq_true rfl⟩ hP hD rfl rfl rfl rfl hl.1 rfl (Nat.le_of_ble_eq_true rfl) dX4_addCrane_88 ⟨Nat.zero_le _, Nat.zero_le _⟩) hD hS hA (fun H locs hP hD hS => ?_)
              refine lv_iinc (v := t57.2 + (1 : Int32)) (lv' := [(5, .int (t57.2 + (1 : Int32))), (4, .int v15), (0, .ref a0), (1, .int x1), (2, .int x2), (3, .int x3)]) hx hb dX4_addCrane_91 hl (k := 0) rfl rfl (by decide) rfl (fun ls hl => ?_)
              refine lv_goto (tgt := 57) hx hb dX4_addCrane_94 (by decide) ?_
              obtain ⟨z53, hz53⟩ : ∃ z : Int32, z = t57.2 + (1 : Int32) := ⟨_, rfl⟩
              rw [← hz53] at hf
              have he := (Option.some.inj hf).symm
              have hl : lv_has ls 6 [(5, .int z53), (4, .int v15), (0, .ref a0), (1, .int x1), (2, .int x2), (3, .int x3)] := by rw [hz53]; exact lv_sub hl [0, 1, 2, 3, 4, 5] rfl
              exact hI1 _ he H locs ls hP hD hS hl
            · have hf := kIfF c50 hf
              refine lv_iload hx hb dX4_addCrane_76 (lv_at hl 0 rfl) ?_
              refine lv_iconst (v := (3 : Int32)) hx hb dX4_addCrane_78 (by decide) ?_
              refine lv_icmp_ne (tgt := 87) hx hb dX4_addCrane_79 (by decide) (fun c54 => ?_) (fun c54 => ?_)
              · have hf := kIfF c54 hf
                refine lv_iconst (v := (0 : Int32)) hx hb dX4_addCrane_87 (by decide) ?_
                obtain ⟨v55, h56, hf⟩ := kBind hf
                refine kgoA (krunV (wc := (wX4 cI a0 a1 a2 t57.1 v13.2 MX ML MA MH)) (As := [.int v15, .int t57.2, .int (0 : Int32)]) (rest := []) (ci := 4) hx hb hml hown hts hK (kX4_sets l D cI a0 a1 a2 t57.1 v13.2 MX ML MA MH v15 t57.2 (0 : Int32) v55 h56) gX4_addCrane_X4_sets rfl rfl rfl hdX4_sets ⟨Nat.le_of_ble_eq_true rfl, Nat.le_of_ble_eq_true rfl⟩ hP hD rfl rfl rfl rfl hl.1 rfl (Nat.le_of_ble_eq_true rfl) dX4_addCrane_88 ⟨Nat.zero_le _, Nat.zero_le _⟩) hD hS hA (fun H locs hP hD hS => ?_)
                refine lv_iinc (v := t57.2 + (1 : Int32)) (lv' := [(5, .int (t57.2 + (1 : Int32))), (4, .int v15), (0, .ref a0), (1, .int x1), (2, .int x2), (3, .int x3)]) hx hb dX4_addCrane_91 hl (k := 0) rfl rfl (by decide) rfl (fun ls hl => ?_)
                refine lv_goto (tgt := 57) hx hb dX4_addCrane_94 (by decide) ?_
                obtain ⟨z57, hz57⟩ : ∃ z : Int32, z = t57.2 + (1 : Int32) := ⟨_, rfl⟩
                rw [← hz57] at hf
                have he := (Option.some.inj hf).symm
                have hl : lv_has ls 6 [(5, .int z57), (4, .int v15), (0, .ref a0), (1, .int x1), (2, .int x2), (3, .int x3)] := by rw [hz57]; exact lv_sub hl [0, 1, 2, 3, 4, 5] rfl
                exact hI1 _ he H locs ls hP hD hS hl
              · have hf := kIfT c54 hf
                refine lv_bipush (v := (-100 : Int32)) hx hb dX4_addCrane_82 (by decide) ?_
                refine lv_goto (tgt := 88) hx hb dX4_addCrane_84 (by decide) ?_
                obtain ⟨v58, h59, hf⟩ := kBind hf
                refine kgoA (krunV (wc := (wX4 cI a0 a1 a2 t57.1 v13.2 MX ML MA MH)) (As := [.int v15, .int t57.2, .int (-100 : Int32)]) (rest := []) (ci := 4) hx hb hml hown hts hK (kX4_sets l D cI a0 a1 a2 t57.1 v13.2 MX ML MA MH v15 t57.2 (-100 : Int32) v58 h59) gX4_addCrane_X4_sets rfl rfl rfl hdX4_sets ⟨Nat.le_of_ble_eq_true rfl, Nat.le_of_ble_eq_true rfl⟩ hP hD rfl rfl rfl rfl hl.1 rfl (Nat.le_of_ble_eq_true rfl) dX4_addCrane_88 ⟨Nat.zero_le _, Nat.zero_le _⟩) hD hS hA (fun H locs hP hD hS => ?_)
                refine lv_iinc (v := t57.2 + (1 : Int32)) (lv' := [(5, .int (t57.2 + (1 : Int32))), (4, .int v15), (0, .ref a0), (1, .int x1), (2, .int x2), (3, .int x3)]) hx hb dX4_addCrane_91 hl (k := 0) rfl rfl (by decide) rfl (fun ls hl => ?_)
                refine lv_goto (tgt := 57) hx hb dX4_addCrane_94 (by decide) ?_
                obtain ⟨z60, hz60⟩ : ∃ z : Int32, z = t57.2 + (1 : Int32) := ⟨_, rfl⟩
                rw [← hz60] at hf
                have he := (Option.some.inj hf).symm
                have hl : lv_has ls 6 [(5, .int z60), (4, .int v15), (0, .ref a0), (1, .int x1), (2, .int x2), (3, .int x3)] := by rw [hz60]; exact lv_sub hl [0, 1, 2, 3, 4, 5] rfl
                exact hI1 _ he H locs ls hP hD hS hl
        · have hf := kIfT c12 hf
          refine lv_bipush (v := (-104 : Int32)) hx hb dX4_addCrane_39 (by decide) ?_
          have he := Option.some.inj hf
          subst he
          exact kreti hx hb hr hlk hP hD hS dX4_addCrane_41
      · have hf := kIfF c9 hf
        refine lv_bipush (v := (-102 : Int32)) hx hb dX4_addCrane_26 (by decide) ?_
        have he := Option.some.inj hf
        subst he
        exact kreti hx hb hr hlk hP hD hS dX4_addCrane_28
set_option maxHeartbeats 4000000 in
set_option maxRecDepth 100000 in
theorem kX4_of (l : Launch) (D : va_G) (cI : ClassId) (a0 a1 a2 : Nat) (M : (Nat → Int32)) (SV : Int32) (MX : (Nat → Int32)) (ML : Int32) (MA : Int32) (MH : Int64) (x1 : Int32) (x2 : Int32) (o : Int32) (hf : fX4_of M x1 x2 = some o) : Ct l yX4_of wsX4_of { frames := 0, cells := 0, slots := 0, locals := 0 } D cI [.ref a0, .int x1, .int x2] (wX4 cI a0 a1 a2 M SV MX ML MA MH) (wX4 cI a0 a1 a2 M SV MX ML MA MH) (some (.int o)) := by
  refine Ct.of (cc := cX4_of) (maxL := 3) (ret := (some .int)) (by decide) rfl (Nat.le_of_ble_eq_true rfl) ?_
  intro p e s m args below meth c A F hP hD hS ls hl
  obtain ⟨hx, hb, hml, hr, hown, hts, hlk, hK, hA⟩ := F
  have hown : s.vm.findClass RX4 = some m.cls := hown
  have hl : lv_has ls 3 [(0, .ref a0), (1, .int x1), (2, .int x2)] := hl
  have hinX4 : ∀ w ∈ wsX40, w ∈ wsX4_of := by decide +kernel
  have hfl7 := hts (.fieldLink RX4 7 "CraneGuardModel" "row" "[I") (by decide +kernel)
  unfold fX4_of at hf
  refine lv_aload_n hx hb dX4_of_0 rfl (lv_at hl 0 rfl) ?_
  refine va_get (D := D) (ci := 4) (v := .ref a1) (C := RX4) (T := TX4) (N := 6) hx hb hts hinX4 hown hK.1 hP 0 rfl rfl 0 (by decide) hfl7 (fun _ h9 => h9) rfl dX4_of_1 ?_
  refine lv_iconst (v := (4 : Int32)) hx hb dX4_of_4 (by decide) ?_
  refine lv_bipush (v := (21 : Int32)) hx hb dX4_of_5 (by decide) ?_
  refine lv_iload_n hx hb dX4_of_7 rfl (lv_at hl 1 rfl) ?_
  refine lv_imul hx hb dX4_of_8 ?_
  refine lv_iadd hx hb dX4_of_9 ?_
  refine lv_iload_n hx hb dX4_of_10 rfl (lv_at hl 2 rfl) ?_
  refine lv_iadd hx hb dX4_of_11 ?_
  obtain ⟨v1, h2, hf⟩ := kBind hf
  refine krd hx hb hK hP 1 rfl h2 dX4_of_12 ?_
  have he := Option.some.inj hf
  subst he
  exact kreti hx hb hr hlk hP hD hS dX4_of_13
set_option maxHeartbeats 4000000 in
set_option maxRecDepth 100000 in
theorem kX4_stepsTo (l : Launch) (D : va_G) (cI : ClassId) (a0 a1 a2 : Nat) (M : (Nat → Int32)) (SV : Int32) (MX : (Nat → Int32)) (ML : Int32) (MA : Int32) (MH : Int64) (x1 : Int32) (x2 : Int32) (x3 : Int32) (o : Int32) (hf : fX4_stepsTo M x1 x2 x3 = some o) : Ct l yX4_stepsTo wsX4_stepsTo { frames := 1, cells := 0, slots := 0, locals := 22 } D cI [.ref a0, .int x1, .int x2, .int x3] (wX4 cI a0 a1 a2 M SV MX ML MA MH) (wX4 cI a0 a1 a2 M SV MX ML MA MH) (some (.int o)) := by
  refine Ct.of (cc := cX4_stepsTo) (maxL := 4) (ret := (some .int)) (by decide) rfl (Nat.le_of_ble_eq_true rfl) ?_
  intro p e s m args below meth c A F hP hD hS ls hl
  obtain ⟨hx, hb, hml, hr, hown, hts, hlk, hK, hA⟩ := F
  have hown : s.vm.findClass RX4 = some m.cls := hown
  have hl : lv_has ls 4 [(0, .ref a0), (1, .int x1), (2, .int x2), (3, .int x3)] := hl
  unfold fX4_stepsTo at hf
  refine lv_iload_n hx hb dX4_stepsTo_0 rfl (lv_at hl 3 rfl) ?_
  refine lv_iload_n hx hb dX4_stepsTo_1 rfl (lv_at hl 2 rfl) ?_
  refine lv_aload_n hx hb dX4_stepsTo_2 rfl (lv_at hl 0 rfl) ?_
  refine lv_iload_n hx hb dX4_stepsTo_3 rfl (lv_at hl 1 rfl) ?_
  refine lv_iconst (v := (0 : Int32)) hx hb dX4_stepsTo_4 (by decide) ?_
  obtain ⟨v1, h2, hf⟩ := kBind hf
  refine kgoR (krunV (wc := (wX4 cI a0 a1 a2 M SV MX ML MA MH)) (As := [.int x1, .int (0 : Int32)]) (rest := [.int x2, .int x3]) (ci := 4) hx hb hml hown hts hK (kX4_of l D cI a0 a1 a2 M SV MX ML MA MH x1 (0 : Int32) v1 h2) gX4_stepsTo_X4_of rfl rfl rfl hdX4_of ⟨Nat.le_of_ble_eq_true rfl, Nat.le_of_ble_eq_true rfl⟩ hP hD rfl rfl rfl rfl hl.1 rfl (Nat.le_of_ble_eq_true rfl) dX4_stepsTo_5 ⟨Nat.zero_le _, Nat.zero_le _⟩) hP hD hS hA [0, 1, 2] rfl (fun H locs hP hS => ?_)
  refine lv_isub hx hb dX4_stepsTo_8 ?_
  refine lv_imul hx hb dX4_stepsTo_9 ?_
  refine lv_bipush (v := (36 : Int32)) hx hb dX4_stepsTo_10 (by decide) ?_
  refine lv_iadd hx hb dX4_stepsTo_12 ?_
  refine lv_bipush (v := (36 : Int32)) hx hb dX4_stepsTo_13 (by decide) ?_
  refine kirem hx hb dX4_stepsTo_15 (by decide) ?_
  obtain ⟨z3, hz3⟩ : ∃ z : Int32, z = jrem ((x3 * (x2 - v1)) + (36 : Int32)) (36 : Int32) := ⟨_, rfl⟩
  rw [← hz3] at hf
  rw [← hz3]
  have he := Option.some.inj hf
  subst he
  exact kreti hx hb hr hlk hP hD hS dX4_stepsTo_16
set_option maxHeartbeats 4000000 in
set_option maxRecDepth 100000 in
theorem kX4_noTarget (l : Launch) (D : va_G) (cI : ClassId) (a0 a1 a2 : Nat) (M : (Nat → Int32)) (SV : Int32) (MX : (Nat → Int32)) (ML : Int32) (MA : Int32) (MH : Int64) (x1 : Int32) (o : (Nat → Int32)) (hf : fX4_noTarget M x1 = some o) : Ct l yX4_noTarget wsX4_noTarget { frames := 1, cells := 0, slots := 0, locals := 23 } D cI [.ref a0, .int x1] (wX4 cI a0 a1 a2 M SV MX ML MA MH) (wX4 cI a0 a1 a2 o SV MX ML MA MH) none := by
  refine Ct.of (cc := cX4_noTarget) (maxL := 2) (ret := none) (by decide) rfl (Nat.le_of_ble_eq_true rfl) ?_
  intro p e s m args below meth c A F hP hD hS ls hl
  obtain ⟨hx, hb, hml, hr, hown, hts, hlk, hK, hA⟩ := F
  have hown : s.vm.findClass RX4 = some m.cls := hown
  have hl : lv_has ls 2 [(0, .ref a0), (1, .int x1)] := hl
  unfold fX4_noTarget at hf
  refine lv_aload_n hx hb dX4_noTarget_0 rfl (lv_at hl 0 rfl) ?_
  refine lv_iload_n hx hb dX4_noTarget_1 rfl (lv_at hl 1 rfl) ?_
  refine lv_iconst (v := (3 : Int32)) hx hb dX4_noTarget_2 (by decide) ?_
  refine lv_bipush (v := (-100 : Int32)) hx hb dX4_noTarget_3 (by decide) ?_
  obtain ⟨v1, h2, hf⟩ := kBind hf
  refine kgoA (krunV (wc := (wX4 cI a0 a1 a2 M SV MX ML MA MH)) (As := [.int x1, .int (3 : Int32), .int (-100 : Int32)]) (rest := []) (ci := 4) hx hb hml hown hts hK (kX4_sets l D cI a0 a1 a2 M SV MX ML MA MH x1 (3 : Int32) (-100 : Int32) v1 h2) gX4_noTarget_X4_sets rfl rfl rfl hdX4_sets ⟨Nat.le_of_ble_eq_true rfl, Nat.le_of_ble_eq_true rfl⟩ hP hD rfl rfl rfl rfl hl.1 rfl (Nat.le_of_ble_eq_true rfl) dX4_noTarget_5 ⟨Nat.zero_le _, Nat.zero_le _⟩) hD hS hA (fun H locs hP hD hS => ?_)
  refine lv_aload_n hx hb dX4_noTarget_8 rfl (lv_at hl 0 rfl) ?_
  refine lv_iload_n hx hb dX4_noTarget_9 rfl (lv_at hl 1 rfl) ?_
  refine lv_iconst (v := (4 : Int32)) hx hb dX4_noTarget_10 (by decide) ?_
  refine lv_iconst (v := (0 : Int32)) hx hb dX4_noTarget_11 (by decide) ?_
  obtain ⟨v3, h4, hf⟩ := kBind hf
  refine kgoA (krunV (wc := (wX4 cI a0 a1 a2 v1 SV MX ML MA MH)) (As := [.int x1, .int (4 : Int32), .int (0 : Int32)]) (rest := []) (ci := 4) hx hb hml hown hts hK (kX4_sets l D cI a0 a1 a2 v1 SV MX ML MA MH x1 (4 : Int32) (0 : Int32) v3 h4) gX4_noTarget_X4_sets rfl rfl rfl hdX4_sets ⟨Nat.le_of_ble_eq_true rfl, Nat.le_of_ble_eq_true rfl⟩ hP hD rfl rfl rfl rfl hl.1 rfl (Nat.le_of_ble_eq_true rfl) dX4_noTarget_12 ⟨Nat.zero_le _, Nat.zero_le _⟩) hD hS hA (fun H locs hP hD hS => ?_)
  have he := Option.some.inj hf
  subst he
  exact kretv hx hb hr hlk hP hD hS dX4_noTarget_15
set_option maxHeartbeats 4000000 in
set_option maxRecDepth 100000 in
theorem kX4_aims (l : Launch) (D : va_G) (cI : ClassId) (a0 a1 a2 : Nat) (M : (Nat → Int32)) (SV : Int32) (MX : (Nat → Int32)) (ML : Int32) (MA : Int32) (MH : Int64) (x1 : Int32) (x2 : Int32) (x3 : Int32) (o : Int32 × (Nat → Int32)) (hf : fX4_aims M x1 x2 x3 = some o) : Ct l yX4_aims wsX4_aims { frames := 2, cells := 0, slots := 0, locals := 45 } D cI [.ref a0, .int x1, .int x2, .int x3] (wX4 cI a0 a1 a2 M SV MX ML MA MH) (wX4 cI a0 a1 a2 o.2 SV MX ML MA MH) (some (.int o.1)) := by
  refine Ct.of (cc := cX4_aims) (maxL := 6) (ret := (some .int)) (by decide) rfl (Nat.le_of_ble_eq_true rfl) ?_
  intro p e s m args below meth c A F hP hD hS ls hl
  obtain ⟨hx, hb, hml, hr, hown, hts, hlk, hK, hA⟩ := F
  have hown : s.vm.findClass RX4 = some m.cls := hown
  have hl : lv_has ls 6 [(0, .ref a0), (1, .int x1), (2, .int x2), (3, .int x3)] := hl
  unfold fX4_aims at hf
  refine lv_iload_n hx hb dX4_aims_0 rfl (lv_at hl 3 rfl) ?_
  refine lv_if_eq (tgt := 8) hx hb dX4_aims_1 (by decide) (fun c1 => ?_) (fun c1 => ?_)
  · have hf := kIfT c1 hf
    refine lv_aload_n hx hb dX4_aims_8 rfl (lv_at hl 0 rfl) ?_
    refine lv_iload_n hx hb dX4_aims_9 rfl (lv_at hl 1 rfl) ?_
    refine lv_iload_n hx hb dX4_aims_10 rfl (lv_at hl 2 rfl) ?_
    refine lv_iconst (v := (1 : Int32)) hx hb dX4_aims_11 (by decide) ?_
    obtain ⟨v2, h3, hf⟩ := kBind hf
    refine kgoR (krunV (wc := (wX4 cI a0 a1 a2 M SV MX ML MA MH)) (As := [.int x1, .int x2, .int (1 : Int32)]) (rest := []) (ci := 4) hx hb hml hown hts hK (kX4_stepsTo l D cI a0 a1 a2 M SV MX ML MA MH x1 x2 (1 : Int32) v2 h3) gX4_aims_X4_stepsTo rfl rfl rfl hdX4_stepsTo ⟨Nat.le_of_ble_eq_true rfl, Nat.le_of_ble_eq_true rfl⟩ hP hD rfl rfl rfl rfl hl.1 rfl (Nat.le_of_ble_eq_true rfl) dX4_aims_12 ⟨Nat.zero_le _, Nat.zero_le _⟩) hP hD hS hA [0, 1, 2] rfl (fun H locs hP hS => ?_)
    refine lv_bipush (v := (18 : Int32)) hx hb dX4_aims_15 (by decide) ?_
    refine lv_icmp_gt (tgt := 24) hx hb dX4_aims_17 (by decide) (fun c4 => ?_) (fun c4 => ?_)
    · have hf := kIfT c4 hf
      refine lv_iconst (v := (-1 : Int32)) hx hb dX4_aims_24 (by decide) ?_
      refine lv_istore (lv' := [(4, .int (-1 : Int32)), (0, .ref a0), (1, .int x1), (2, .int x2), (3, .int x3)]) hx hb dX4_aims_25 hl (by decide) rfl (fun ls hl => ?_)
      refine lv_aload_n hx hb dX4_aims_27 rfl (lv_at hl 1 rfl) ?_
      refine lv_iload_n hx hb dX4_aims_28 rfl (lv_at hl 2 rfl) ?_
      refine lv_iload_n hx hb dX4_aims_29 rfl (lv_at hl 3 rfl) ?_
      refine lv_iload hx hb dX4_aims_30 (lv_at hl 0 rfl) ?_
      obtain ⟨v5, h6, hf⟩ := kBind hf
      refine kgoR (krunV (wc := (wX4 cI a0 a1 a2 M SV MX ML MA MH)) (As := [.int x1, .int x2, .int (-1 : Int32)]) (rest := []) (ci := 4) hx hb hml hown hts hK (kX4_stepsTo l D cI a0 a1 a2 M SV MX ML MA MH x1 x2 (-1 : Int32) v5 h6) gX4_aims_X4_stepsTo rfl rfl rfl hdX4_stepsTo ⟨Nat.le_of_ble_eq_true rfl, Nat.le_of_ble_eq_true rfl⟩ hP hD rfl rfl rfl rfl hl.1 rfl (Nat.le_of_ble_eq_true rfl) dX4_aims_32 ⟨Nat.zero_le _, Nat.zero_le _⟩) hP hD hS hA [0, 1, 2] rfl (fun H locs hP hS => ?_)
      refine lv_istore (lv' := [(5, .int v5), (4, .int (-1 : Int32)), (0, .ref a0), (1, .int x1), (2, .int x2), (3, .int x3)]) hx hb dX4_aims_35 hl (by decide) rfl (fun ls hl => ?_)
      refine lv_aload_n hx hb dX4_aims_37 rfl (lv_at hl 2 rfl) ?_
      refine lv_iload_n hx hb dX4_aims_38 rfl (lv_at hl 3 rfl) ?_
      refine lv_iconst (v := (3 : Int32)) hx hb dX4_aims_39 (by decide) ?_
      refine lv_iload_n hx hb dX4_aims_40 rfl (lv_at hl 4 rfl) ?_
      obtain ⟨v7, h8, hf⟩ := kBind hf
      refine kgoA (krunV (wc := (wX4 cI a0 a1 a2 M SV MX ML MA MH)) (As := [.int x1, .int (3 : Int32), .int x2]) (rest := []) (ci := 4) hx hb hml hown hts hK (kX4_sets l D cI a0 a1 a2 M SV MX ML MA MH x1 (3 : Int32) x2 v7 h8) gX4_aims_X4_sets rfl rfl rfl hdX4_sets ⟨Nat.le_of_ble_eq_true rfl, Nat.le_of_ble_eq_true rfl⟩ hP hD rfl rfl rfl rfl hl.1 rfl (Nat.le_of_ble_eq_true rfl) dX4_aims_41 ⟨Nat.zero_le _, Nat.zero_le _⟩) hD hS hA (fun H locs hP hD hS => ?_)
      refine lv_aload_n hx hb dX4_aims_44 rfl (lv_at hl 2 rfl) ?_
      refine lv_iload_n hx hb dX4_aims_45 rfl (lv_at hl 3 rfl) ?_
      refine lv_iconst (v := (4 : Int32)) hx hb dX4_aims_46 (by decide) ?_
      refine lv_iload hx hb dX4_aims_47 (lv_at hl 1 rfl) ?_
      obtain ⟨v9, h10, hf⟩ := kBind hf
      refine kgoA (krunV (wc := (wX4 cI a0 a1 a2 v7 SV MX ML MA MH)) (As := [.int x1, .int (4 : Int32), .int (-1 : Int32)]) (rest := []) (ci := 4) hx hb hml hown hts hK (kX4_sets l D cI a0 a1 a2 v7 SV MX ML MA MH x1 (4 : Int32) (-1 : Int32) v9 h10) gX4_aims_X4_sets rfl rfl rfl hdX4_sets ⟨Nat.le_of_ble_eq_true rfl, Nat.le_of_ble_eq_true rfl⟩ hP hD rfl rfl rfl rfl hl.1 rfl (Nat.le_of_ble_eq_true rfl) dX4_aims_49 ⟨Nat.zero_le _, Nat.zero_le _⟩) hD hS hA (fun H locs hP hD hS => ?_)
      refine lv_iload hx hb dX4_aims_52 (lv_at hl 0 rfl) ?_
      refine lv_if_ne (tgt := 62) hx hb dX4_aims_54 (by decide) (fun c11 => ?_) (fun c11 => ?_)
      · have hf := kIfF c11 hf
        refine lv_iload hx hb dX4_aims_62 (lv_at hl 0 rfl) ?_
        have he := Option.some.inj hf
        subst he
        exact kreti hx hb hr hlk hP hD hS dX4_aims_64
      · have hf := kIfT c11 hf
        refine lv_aload_n hx hb dX4_aims_57 rfl (lv_at hl 2 rfl) ?_
        refine lv_iload_n hx hb dX4_aims_58 rfl (lv_at hl 3 rfl) ?_
        obtain ⟨v12, h13, hf⟩ := kBind hf
        refine kgoA (krunV (wc := (wX4 cI a0 a1 a2 v9 SV MX ML MA MH)) (As := [.int x1]) (rest := []) (ci := 4) hx hb hml hown hts hK (kX4_noTarget l D cI a0 a1 a2 v9 SV MX ML MA MH x1 v12 h13) gX4_aims_X4_noTarget rfl rfl rfl hdX4_noTarget ⟨Nat.le_of_ble_eq_true rfl, Nat.le_of_ble_eq_true rfl⟩ hP hD rfl rfl rfl rfl hl.1 rfl (Nat.le_of_ble_eq_true rfl) dX4_aims_59 ⟨Nat.zero_le _, Nat.zero_le _⟩) hD hS hA (fun H locs hP hD hS => ?_)
        refine lv_iload hx hb dX4_aims_62 (lv_at hl 0 rfl) ?_
        have he := Option.some.inj hf
        subst he
        exact kreti hx hb hr hlk hP hD hS dX4_aims_64
    · have hf := kIfF c4 hf
      refine lv_iconst (v := (1 : Int32)) hx hb dX4_aims_20 (by decide) ?_
      refine lv_goto (tgt := 25) hx hb dX4_aims_21 (by decide) ?_
      refine lv_istore (lv' := [(4, .int (1 : Int32)), (0, .ref a0), (1, .int x1), (2, .int x2), (3, .int x3)]) hx hb dX4_aims_25 hl (by decide) rfl (fun ls hl => ?_)
      refine lv_aload_n hx hb dX4_aims_27 rfl (lv_at hl 1 rfl) ?_
      refine lv_iload_n hx hb dX4_aims_28 rfl (lv_at hl 2 rfl) ?_
      refine lv_iload_n hx hb dX4_aims_29 rfl (lv_at hl 3 rfl) ?_
      refine lv_iload hx hb dX4_aims_30 (lv_at hl 0 rfl) ?_
      obtain ⟨v14, h15, hf⟩ := kBind hf
      refine kgoR (krunV (wc := (wX4 cI a0 a1 a2 M SV MX ML MA MH)) (As := [.int x1, .int x2, .int (1 : Int32)]) (rest := []) (ci := 4) hx hb hml hown hts hK (kX4_stepsTo l D cI a0 a1 a2 M SV MX ML MA MH x1 x2 (1 : Int32) v14 h15) gX4_aims_X4_stepsTo rfl rfl rfl hdX4_stepsTo ⟨Nat.le_of_ble_eq_true rfl, Nat.le_of_ble_eq_true rfl⟩ hP hD rfl rfl rfl rfl hl.1 rfl (Nat.le_of_ble_eq_true rfl) dX4_aims_32 ⟨Nat.zero_le _, Nat.zero_le _⟩) hP hD hS hA [0, 1, 2] rfl (fun H locs hP hS => ?_)
      refine lv_istore (lv' := [(5, .int v14), (4, .int (1 : Int32)), (0, .ref a0), (1, .int x1), (2, .int x2), (3, .int x3)]) hx hb dX4_aims_35 hl (by decide) rfl (fun ls hl => ?_)
      refine lv_aload_n hx hb dX4_aims_37 rfl (lv_at hl 2 rfl) ?_
      refine lv_iload_n hx hb dX4_aims_38 rfl (lv_at hl 3 rfl) ?_
      refine lv_iconst (v := (3 : Int32)) hx hb dX4_aims_39 (by decide) ?_
      refine lv_iload_n hx hb dX4_aims_40 rfl (lv_at hl 4 rfl) ?_
      obtain ⟨v16, h17, hf⟩ := kBind hf
      refine kgoA (krunV (wc := (wX4 cI a0 a1 a2 M SV MX ML MA MH)) (As := [.int x1, .int (3 : Int32), .int x2]) (rest := []) (ci := 4) hx hb hml hown hts hK (kX4_sets l D cI a0 a1 a2 M SV MX ML MA MH x1 (3 : Int32) x2 v16 h17) gX4_aims_X4_sets rfl rfl rfl hdX4_sets ⟨Nat.le_of_ble_eq_true rfl, Nat.le_of_ble_eq_true rfl⟩ hP hD rfl rfl rfl rfl hl.1 rfl (Nat.le_of_ble_eq_true rfl) dX4_aims_41 ⟨Nat.zero_le _, Nat.zero_le _⟩) hD hS hA (fun H locs hP hD hS => ?_)
      refine lv_aload_n hx hb dX4_aims_44 rfl (lv_at hl 2 rfl) ?_
      refine lv_iload_n hx hb dX4_aims_45 rfl (lv_at hl 3 rfl) ?_
      refine lv_iconst (v := (4 : Int32)) hx hb dX4_aims_46 (by decide) ?_
      refine lv_iload hx hb dX4_aims_47 (lv_at hl 1 rfl) ?_
      obtain ⟨v18, h19, hf⟩ := kBind hf
      refine kgoA (krunV (wc := (wX4 cI a0 a1 a2 v16 SV MX ML MA MH)) (As := [.int x1, .int (4 : Int32), .int (1 : Int32)]) (rest := []) (ci := 4) hx hb hml hown hts hK (kX4_sets l D cI a0 a1 a2 v16 SV MX ML MA MH x1 (4 : Int32) (1 : Int32) v18 h19) gX4_aims_X4_sets rfl rfl rfl hdX4_sets ⟨Nat.le_of_ble_eq_true rfl, Nat.le_of_ble_eq_true rfl⟩ hP hD rfl rfl rfl rfl hl.1 rfl (Nat.le_of_ble_eq_true rfl) dX4_aims_49 ⟨Nat.zero_le _, Nat.zero_le _⟩) hD hS hA (fun H locs hP hD hS => ?_)
      refine lv_iload hx hb dX4_aims_52 (lv_at hl 0 rfl) ?_
      refine lv_if_ne (tgt := 62) hx hb dX4_aims_54 (by decide) (fun c20 => ?_) (fun c20 => ?_)
      · have hf := kIfF c20 hf
        refine lv_iload hx hb dX4_aims_62 (lv_at hl 0 rfl) ?_
        have he := Option.some.inj hf
        subst he
        exact kreti hx hb hr hlk hP hD hS dX4_aims_64
      · have hf := kIfT c20 hf
        refine lv_aload_n hx hb dX4_aims_57 rfl (lv_at hl 2 rfl) ?_
        refine lv_iload_n hx hb dX4_aims_58 rfl (lv_at hl 3 rfl) ?_
        obtain ⟨v21, h22, hf⟩ := kBind hf
        refine kgoA (krunV (wc := (wX4 cI a0 a1 a2 v18 SV MX ML MA MH)) (As := [.int x1]) (rest := []) (ci := 4) hx hb hml hown hts hK (kX4_noTarget l D cI a0 a1 a2 v18 SV MX ML MA MH x1 v21 h22) gX4_aims_X4_noTarget rfl rfl rfl hdX4_noTarget ⟨Nat.le_of_ble_eq_true rfl, Nat.le_of_ble_eq_true rfl⟩ hP hD rfl rfl rfl rfl hl.1 rfl (Nat.le_of_ble_eq_true rfl) dX4_aims_59 ⟨Nat.zero_le _, Nat.zero_le _⟩) hD hS hA (fun H locs hP hD hS => ?_)
        refine lv_iload hx hb dX4_aims_62 (lv_at hl 0 rfl) ?_
        have he := Option.some.inj hf
        subst he
        exact kreti hx hb hr hlk hP hD hS dX4_aims_64
  · have hf := kIfF c1 hf
    refine lv_iload_n hx hb dX4_aims_4 rfl (lv_at hl 3 rfl) ?_
    refine lv_goto (tgt := 25) hx hb dX4_aims_5 (by decide) ?_
    refine lv_istore (lv' := [(4, .int x3), (0, .ref a0), (1, .int x1), (2, .int x2), (3, .int x3)]) hx hb dX4_aims_25 hl (by decide) rfl (fun ls hl => ?_)
    refine lv_aload_n hx hb dX4_aims_27 rfl (lv_at hl 1 rfl) ?_
    refine lv_iload_n hx hb dX4_aims_28 rfl (lv_at hl 2 rfl) ?_
    refine lv_iload_n hx hb dX4_aims_29 rfl (lv_at hl 3 rfl) ?_
    refine lv_iload hx hb dX4_aims_30 (lv_at hl 0 rfl) ?_
    obtain ⟨v23, h24, hf⟩ := kBind hf
    refine kgoR (krunV (wc := (wX4 cI a0 a1 a2 M SV MX ML MA MH)) (As := [.int x1, .int x2, .int x3]) (rest := []) (ci := 4) hx hb hml hown hts hK (kX4_stepsTo l D cI a0 a1 a2 M SV MX ML MA MH x1 x2 x3 v23 h24) gX4_aims_X4_stepsTo rfl rfl rfl hdX4_stepsTo ⟨Nat.le_of_ble_eq_true rfl, Nat.le_of_ble_eq_true rfl⟩ hP hD rfl rfl rfl rfl hl.1 rfl (Nat.le_of_ble_eq_true rfl) dX4_aims_32 ⟨Nat.zero_le _, Nat.zero_le _⟩) hP hD hS hA [0, 1, 2] rfl (fun H locs hP hS => ?_)
    refine lv_istore (lv' := [(5, .int v23), (4, .int x3), (0, .ref a0), (1, .int x1), (2, .int x2), (3, .int x3)]) hx hb dX4_aims_35 hl (by decide) rfl (fun ls hl => ?_)
    refine lv_aload_n hx hb dX4_aims_37 rfl (lv_at hl 2 rfl) ?_
    refine lv_iload_n hx hb dX4_aims_38 rfl (lv_at hl 3 rfl) ?_
    refine lv_iconst (v := (3 : Int32)) hx hb dX4_aims_39 (by decide) ?_
    refine lv_iload_n hx hb dX4_aims_40 rfl (lv_at hl 4 rfl) ?_
    obtain ⟨v25, h26, hf⟩ := kBind hf
    refine kgoA (krunV (wc := (wX4 cI a0 a1 a2 M SV MX ML MA MH)) (As := [.int x1, .int (3 : Int32), .int x2]) (rest := []) (ci := 4) hx hb hml hown hts hK (kX4_sets l D cI a0 a1 a2 M SV MX ML MA MH x1 (3 : Int32) x2 v25 h26) gX4_aims_X4_sets rfl rfl rfl hdX4_sets ⟨Nat.le_of_ble_eq_true rfl, Nat.le_of_ble_eq_true rfl⟩ hP hD rfl rfl rfl rfl hl.1 rfl (Nat.le_of_ble_eq_true rfl) dX4_aims_41 ⟨Nat.zero_le _, Nat.zero_le _⟩) hD hS hA (fun H locs hP hD hS => ?_)
    refine lv_aload_n hx hb dX4_aims_44 rfl (lv_at hl 2 rfl) ?_
    refine lv_iload_n hx hb dX4_aims_45 rfl (lv_at hl 3 rfl) ?_
    refine lv_iconst (v := (4 : Int32)) hx hb dX4_aims_46 (by decide) ?_
    refine lv_iload hx hb dX4_aims_47 (lv_at hl 1 rfl) ?_
    obtain ⟨v27, h28, hf⟩ := kBind hf
    refine kgoA (krunV (wc := (wX4 cI a0 a1 a2 v25 SV MX ML MA MH)) (As := [.int x1, .int (4 : Int32), .int x3]) (rest := []) (ci := 4) hx hb hml hown hts hK (kX4_sets l D cI a0 a1 a2 v25 SV MX ML MA MH x1 (4 : Int32) x3 v27 h28) gX4_aims_X4_sets rfl rfl rfl hdX4_sets ⟨Nat.le_of_ble_eq_true rfl, Nat.le_of_ble_eq_true rfl⟩ hP hD rfl rfl rfl rfl hl.1 rfl (Nat.le_of_ble_eq_true rfl) dX4_aims_49 ⟨Nat.zero_le _, Nat.zero_le _⟩) hD hS hA (fun H locs hP hD hS => ?_)
    refine lv_iload hx hb dX4_aims_52 (lv_at hl 0 rfl) ?_
    refine lv_if_ne (tgt := 62) hx hb dX4_aims_54 (by decide) (fun c29 => ?_) (fun c29 => ?_)
    · have hf := kIfF c29 hf
      refine lv_iload hx hb dX4_aims_62 (lv_at hl 0 rfl) ?_
      have he := Option.some.inj hf
      subst he
      exact kreti hx hb hr hlk hP hD hS dX4_aims_64
    · have hf := kIfT c29 hf
      refine lv_aload_n hx hb dX4_aims_57 rfl (lv_at hl 2 rfl) ?_
      refine lv_iload_n hx hb dX4_aims_58 rfl (lv_at hl 3 rfl) ?_
      obtain ⟨v30, h31, hf⟩ := kBind hf
      refine kgoA (krunV (wc := (wX4 cI a0 a1 a2 v27 SV MX ML MA MH)) (As := [.int x1]) (rest := []) (ci := 4) hx hb hml hown hts hK (kX4_noTarget l D cI a0 a1 a2 v27 SV MX ML MA MH x1 v30 h31) gX4_aims_X4_noTarget rfl rfl rfl hdX4_noTarget ⟨Nat.le_of_ble_eq_true rfl, Nat.le_of_ble_eq_true rfl⟩ hP hD rfl rfl rfl rfl hl.1 rfl (Nat.le_of_ble_eq_true rfl) dX4_aims_59 ⟨Nat.zero_le _, Nat.zero_le _⟩) hD hS hA (fun H locs hP hD hS => ?_)
      refine lv_iload hx hb dX4_aims_62 (lv_at hl 0 rfl) ?_
      have he := Option.some.inj hf
      subst he
      exact kreti hx hb hr hlk hP hD hS dX4_aims_64
set_option maxHeartbeats 4000000 in
set_option maxRecDepth 100000 in
theorem kX4_hasTarget (l : Launch) (D : va_G) (cI : ClassId) (a0 a1 a2 : Nat) (M : (Nat → Int32)) (SV : Int32) (MX : (Nat → Int32)) (ML : Int32) (MA : Int32) (MH : Int64) (x1 : Int32) (o : Bool) (hf : fX4_hasTarget M x1 = some o) : Ct l yX4_hasTarget wsX4_hasTarget { frames := 1, cells := 0, slots := 0, locals := 22 } D cI [.ref a0, .int x1] (wX4 cI a0 a1 a2 M SV MX ML MA MH) (wX4 cI a0 a1 a2 M SV MX ML MA MH) (some (.int (bI o))) := by
  refine Ct.of (cc := cX4_hasTarget) (maxL := 2) (ret := (some .boolean)) (by decide) rfl (Nat.le_of_ble_eq_true rfl) ?_
  intro p e s m args below meth c A F hP hD hS ls hl
  obtain ⟨hx, hb, hml, hr, hown, hts, hlk, hK, hA⟩ := F
  have hown : s.vm.findClass RX4 = some m.cls := hown
  have hl : lv_has ls 2 [(0, .ref a0), (1, .int x1)] := hl
  unfold fX4_hasTarget at hf
  refine lv_aload_n hx hb dX4_hasTarget_0 rfl (lv_at hl 0 rfl) ?_
  refine lv_iload_n hx hb dX4_hasTarget_1 rfl (lv_at hl 1 rfl) ?_
  refine lv_iconst (v := (3 : Int32)) hx hb dX4_hasTarget_2 (by decide) ?_
  obtain ⟨v1, h2, hf⟩ := kBind hf
  refine kgoR (krunV (wc := (wX4 cI a0 a1 a2 M SV MX ML MA MH)) (As := [.int x1, .int (3 : Int32)]) (rest := []) (ci := 4) hx hb hml hown hts hK (kX4_of l D cI a0 a1 a2 M SV MX ML MA MH x1 (3 : Int32) v1 h2) gX4_hasTarget_X4_of rfl rfl rfl hdX4_of ⟨Nat.le_of_ble_eq_true rfl, Nat.le_of_ble_eq_true rfl⟩ hP hD rfl rfl rfl rfl hl.1 rfl (Nat.le_of_ble_eq_true rfl) dX4_hasTarget_3 ⟨Nat.zero_le _, Nat.zero_le _⟩) hP hD hS hA [0, 1, 2] rfl (fun H locs hP hS => ?_)
  refine lv_bipush (v := (-100 : Int32)) hx hb dX4_hasTarget_6 (by decide) ?_
  refine lv_icmp_eq (tgt := 15) hx hb dX4_hasTarget_8 (by decide) (fun c3 => ?_) (fun c3 => ?_)
  · have hf := kIfT c3 hf
    refine lv_iconst (v := (0 : Int32)) hx hb dX4_hasTarget_15 (by decide) ?_
    have he := Option.some.inj hf
    subst he
    exact kretz hx hb hr hlk hP hD hS dX4_hasTarget_16
  · have hf := kIfF c3 hf
    refine lv_iconst (v := (1 : Int32)) hx hb dX4_hasTarget_11 (by decide) ?_
    refine lv_goto (tgt := 16) hx hb dX4_hasTarget_12 (by decide) ?_
    have he := Option.some.inj hf
    subst he
    exact kretz hx hb hr hlk hP hD hS dX4_hasTarget_16
set_option maxHeartbeats 4000000 in
set_option maxRecDepth 100000 in
theorem kX4_targets (l : Launch) (D : va_G) (cI : ClassId) (fu : Nat) (a0 a1 a2 : Nat) (M : (Nat → Int32)) (SV : Int32) (MX : (Nat → Int32)) (ML : Int32) (MA : Int32) (MH : Int64) (o : Int32) (hf : fX4_targets fu M = some o) : Ct l yX4_targets wsX4_targets { frames := 2, cells := 0, slots := 0, locals := 43 } D cI [.ref a0] (wX4 cI a0 a1 a2 M SV MX ML MA MH) (wX4 cI a0 a1 a2 M SV MX ML MA MH) (some (.int o)) := by
  refine Ct.of (cc := cX4_targets) (maxL := 3) (ret := (some .int)) (by decide) rfl (Nat.le_of_ble_eq_true rfl) ?_
  intro p e s m args below meth c A F hP hD hS ls hl
  obtain ⟨hx, hb, hml, hr, hown, hts, hlk, hK, hA⟩ := F
  have hown : s.vm.findClass RX4 = some m.cls := hown
  have hl : lv_has ls 3 [(0, .ref a0)] := hl
  have hinX4 : ∀ w ∈ wsX40, w ∈ wsX4_targets := by decide +kernel
  have hfl7 := hts (.fieldLink RX4 7 "CraneGuardModel" "row" "[I") (by decide +kernel)
  unfold fX4_targets at hf
  refine lv_iconst (v := (0 : Int32)) hx hb dX4_targets_0 (by decide) ?_
  refine lv_istore_n (lv' := [(1, .int (0 : Int32)), (0, .ref a0)]) hx hb dX4_targets_1 rfl hl (by decide) rfl (fun ls hl => ?_)
  refine lv_iconst (v := (0 : Int32)) hx hb dX4_targets_2 (by decide) ?_
  refine lv_istore_n (lv' := [(2, .int (0 : Int32)), (1, .int (0 : Int32)), (0, .ref a0)]) hx hb dX4_targets_3 rfl hl (by decide) rfl (fun ls hl => ?_)
  have hl : lv_has ls 3 [(2, .int (0 : Int32)), (1, .int (0 : Int32)), (0, .ref a0)] := hl
  refine klp hf (fun t4 : Int32 × Int32 => (wX4 cI a0 a1 a2 M SV MX ML MA MH)) 3 (fun t4 : Int32 × Int32 => [(2, .int t4.2), (1, .int t4.1), (0, .ref a0)]) ?_ hP hD hS hl
  intro t4 x4_ hf hI1 hO1 H locs ls hP hD hS hl
  unfold fX4_targets_L4 at hf
  have hP : va_P D vwCl (wX4 cI a0 a1 a2 M SV MX ML MA MH) H := hP
  have hD : va_D A (wX4 cI a0 a1 a2 M SV MX ML MA MH) := hD
  have hl : lv_has ls 3 [(2, .int t4.2), (1, .int t4.1), (0, .ref a0)] := hl
  refine lv_iload_n hx hb dX4_targets_4 rfl (lv_at hl 0 rfl) ?_
  refine lv_aload_n hx hb dX4_targets_5 rfl (lv_at hl 2 rfl) ?_
  refine va_get (D := D) (ci := 4) (v := .ref a1) (C := RX4) (T := TX4) (N := 6) hx hb hts hinX4 hown hK.1 hP 0 rfl rfl 0 (by decide) hfl7 (fun _ h9 => h9) rfl dX4_targets_6 ?_
  refine lv_iconst (v := (2 : Int32)) hx hb dX4_targets_9 (by decide) ?_
  obtain ⟨v11, h12, hf⟩ := kBind hf
  refine krd hx hb hK hP 1 rfl h12 dX4_targets_10 ?_
  refine lv_icmp_ge (tgt := 36) hx hb dX4_targets_11 (by decide) (fun c13 => ?_) (fun c13 => ?_)
  · have hf := kIfT c13 hf
    refine lv_iload_n hx hb dX4_targets_36 rfl (lv_at hl 1 rfl) ?_
    have he := Option.some.inj hf
    have he := hO1 _ he.symm
    subst he
    exact kreti hx hb hr hlk hP hD hS dX4_targets_37
  · have hf := kIfF c13 hf
    refine lv_iload_n hx hb dX4_targets_14 rfl (lv_at hl 1 rfl) ?_
    refine lv_aload_n hx hb dX4_targets_15 rfl (lv_at hl 2 rfl) ?_
    refine lv_iload_n hx hb dX4_targets_16 rfl (lv_at hl 0 rfl) ?_
    obtain ⟨v14, h15, hf⟩ := kBind hf
    refine kgoR (krunV (wc := (wX4 cI a0 a1 a2 M SV MX ML MA MH)) (As := [.int t4.2]) (rest := [.int t4.1]) (ci := 4) hx hb hml hown hts hK (kX4_hasTarget l D cI a0 a1 a2 M SV MX ML MA MH t4.2 v14 h15) gX4_targets_X4_hasTarget rfl rfl rfl hdX4_hasTarget ⟨Nat.le_of_ble_eq_true rfl, Nat.le_of_ble_eq_true rfl⟩ hP hD rfl rfl rfl rfl hl.1 rfl (Nat.le_of_ble_eq_true rfl) dX4_targets_17 ⟨Nat.zero_le _, Nat.zero_le _⟩) hP hD hS hA [0, 1, 2] rfl (fun H locs hP hS => ?_)
    refine kif_eqb (tgt := 27) hx hb dX4_targets_20 (by decide) (fun c16 => ?_) (fun c16 => ?_)
    · have hf := kIfF c16 hf
      refine lv_iconst (v := (0 : Int32)) hx hb dX4_targets_27 (by decide) ?_
      refine lv_iadd hx hb dX4_targets_28 ?_
      refine lv_istore_n (lv' := [(1, .int (t4.1 + (0 : Int32))), (2, .int t4.2), (0, .ref a0)]) hx hb dX4_targets_29 rfl hl (by decide) rfl (fun ls hl => ?_)
      refine lv_iinc (v := t4.2 + (1 : Int32)) (lv' := [(2, .int (t4.2 + (1 : Int32))), (1, .int (t4.1 + (0 : Int32))), (0, .ref a0)]) hx hb dX4_targets_30 hl (k := 1) rfl rfl (by decide) rfl (fun ls hl => ?_)
      refine lv_goto (tgt := 4) hx hb dX4_targets_33 (by decide) ?_
      obtain ⟨z17, hz17⟩ : ∃ z : Int32, z = t4.1 + (0 : Int32) := ⟨_, rfl⟩
      rw [← hz17] at hf
      obtain ⟨z18, hz18⟩ : ∃ z : Int32, z = t4.2 + (1 : Int32) := ⟨_, rfl⟩
      rw [← hz18] at hf
      have he := (Option.some.inj hf).symm
      have hl : lv_has ls 3 [(2, .int z18), (1, .int z17), (0, .ref a0)] := by rw [hz17, hz18]; exact lv_sub hl [0, 1, 2] rfl
      exact hI1 _ he H locs ls hP hD hS hl
    · have hf := kIfT c16 hf
      refine lv_iconst (v := (1 : Int32)) hx hb dX4_targets_23 (by decide) ?_
      refine lv_goto (tgt := 28) hx hb dX4_targets_24 (by decide) ?_
      refine lv_iadd hx hb dX4_targets_28 ?_
      refine lv_istore_n (lv' := [(1, .int (t4.1 + (1 : Int32))), (2, .int t4.2), (0, .ref a0)]) hx hb dX4_targets_29 rfl hl (by decide) rfl (fun ls hl => ?_)
      refine lv_iinc (v := t4.2 + (1 : Int32)) (lv' := [(2, .int (t4.2 + (1 : Int32))), (1, .int (t4.1 + (1 : Int32))), (0, .ref a0)]) hx hb dX4_targets_30 hl (k := 1) rfl rfl (by decide) rfl (fun ls hl => ?_)
      refine lv_goto (tgt := 4) hx hb dX4_targets_33 (by decide) ?_
      obtain ⟨z19, hz19⟩ : ∃ z : Int32, z = t4.1 + (1 : Int32) := ⟨_, rfl⟩
      rw [← hz19] at hf
      obtain ⟨z20, hz20⟩ : ∃ z : Int32, z = t4.2 + (1 : Int32) := ⟨_, rfl⟩
      rw [← hz20] at hf
      have he := (Option.some.inj hf).symm
      have hl : lv_has ls 3 [(2, .int z20), (1, .int z19), (0, .ref a0)] := by rw [hz19, hz20]; exact lv_sub hl [0, 1, 2] rfl
      exact hI1 _ he H locs ls hP hD hS hl
set_option maxHeartbeats 4000000 in
set_option maxRecDepth 100000 in
theorem kX4_isOnStep (l : Launch) (D : va_G) (cI : ClassId) (a0 a1 a2 : Nat) (M : (Nat → Int32)) (SV : Int32) (MX : (Nat → Int32)) (ML : Int32) (MA : Int32) (MH : Int64) (x1 : Int32) (o : Bool) (hf : fX4_isOnStep M x1 = some o) : Ct l yX4_isOnStep wsX4_isOnStep { frames := 1, cells := 0, slots := 0, locals := 22 } D cI [.ref a0, .int x1] (wX4 cI a0 a1 a2 M SV MX ML MA MH) (wX4 cI a0 a1 a2 M SV MX ML MA MH) (some (.int (bI o))) := by
  refine Ct.of (cc := cX4_isOnStep) (maxL := 2) (ret := (some .boolean)) (by decide) rfl (Nat.le_of_ble_eq_true rfl) ?_
  intro p e s m args below meth c A F hP hD hS ls hl
  obtain ⟨hx, hb, hml, hr, hown, hts, hlk, hK, hA⟩ := F
  have hown : s.vm.findClass RX4 = some m.cls := hown
  have hl : lv_has ls 2 [(0, .ref a0), (1, .int x1)] := hl
  unfold fX4_isOnStep at hf
  refine lv_aload_n hx hb dX4_isOnStep_0 rfl (lv_at hl 0 rfl) ?_
  refine lv_iload_n hx hb dX4_isOnStep_1 rfl (lv_at hl 1 rfl) ?_
  refine lv_iconst (v := (5 : Int32)) hx hb dX4_isOnStep_2 (by decide) ?_
  obtain ⟨v1, h2, hf⟩ := kBind hf
  refine kgoR (krunV (wc := (wX4 cI a0 a1 a2 M SV MX ML MA MH)) (As := [.int x1, .int (5 : Int32)]) (rest := []) (ci := 4) hx hb hml hown hts hK (kX4_of l D cI a0 a1 a2 M SV MX ML MA MH x1 (5 : Int32) v1 h2) gX4_isOnStep_X4_of rfl rfl rfl hdX4_of ⟨Nat.le_of_ble_eq_true rfl, Nat.le_of_ble_eq_true rfl⟩ hP hD rfl rfl rfl rfl hl.1 rfl (Nat.le_of_ble_eq_true rfl) dX4_isOnStep_3 ⟨Nat.zero_le _, Nat.zero_le _⟩) hP hD hS hA [0, 1, 2] rfl (fun H locs hP hS => ?_)
  refine lv_if_le (tgt := 13) hx hb dX4_isOnStep_6 (by decide) (fun c3 => ?_) (fun c3 => ?_)
  · have hf := kIfT c3 hf
    refine lv_iconst (v := (0 : Int32)) hx hb dX4_isOnStep_13 (by decide) ?_
    have he := Option.some.inj hf
    subst he
    exact kretz hx hb hr hlk hP hD hS dX4_isOnStep_14
  · have hf := kIfF c3 hf
    refine lv_iconst (v := (1 : Int32)) hx hb dX4_isOnStep_9 (by decide) ?_
    refine lv_goto (tgt := 14) hx hb dX4_isOnStep_10 (by decide) ?_
    have he := Option.some.inj hf
    subst he
    exact kretz hx hb hr hlk hP hD hS dX4_isOnStep_14
set_option maxHeartbeats 4000000 in
set_option maxRecDepth 100000 in
theorem kX4_nextOf (l : Launch) (D : va_G) (cI : ClassId) (a0 a1 a2 : Nat) (M : (Nat → Int32)) (SV : Int32) (MX : (Nat → Int32)) (ML : Int32) (MA : Int32) (MH : Int64) (x1 : Int32) (o : Int32) (hf : fX4_nextOf M x1 = some o) : Ct l yX4_nextOf wsX4_nextOf { frames := 1, cells := 0, slots := 0, locals := 22 } D cI [.ref a0, .int x1] (wX4 cI a0 a1 a2 M SV MX ML MA MH) (wX4 cI a0 a1 a2 M SV MX ML MA MH) (some (.int o)) := by
  refine Ct.of (cc := cX4_nextOf) (maxL := 2) (ret := (some .int)) (by decide) rfl (Nat.le_of_ble_eq_true rfl) ?_
  intro p e s m args below meth c A F hP hD hS ls hl
  obtain ⟨hx, hb, hml, hr, hown, hts, hlk, hK, hA⟩ := F
  have hown : s.vm.findClass RX4 = some m.cls := hown
  have hl : lv_has ls 2 [(0, .ref a0), (1, .int x1)] := hl
  unfold fX4_nextOf at hf
  refine lv_aload_n hx hb dX4_nextOf_0 rfl (lv_at hl 0 rfl) ?_
  refine lv_iload_n hx hb dX4_nextOf_1 rfl (lv_at hl 1 rfl) ?_
  refine lv_iconst (v := (0 : Int32)) hx hb dX4_nextOf_2 (by decide) ?_
  obtain ⟨v1, h2, hf⟩ := kBind hf
  refine kgoR (krunV (wc := (wX4 cI a0 a1 a2 M SV MX ML MA MH)) (As := [.int x1, .int (0 : Int32)]) (rest := []) (ci := 4) hx hb hml hown hts hK (kX4_of l D cI a0 a1 a2 M SV MX ML MA MH x1 (0 : Int32) v1 h2) gX4_nextOf_X4_of rfl rfl rfl hdX4_of ⟨Nat.le_of_ble_eq_true rfl, Nat.le_of_ble_eq_true rfl⟩ hP hD rfl rfl rfl rfl hl.1 rfl (Nat.le_of_ble_eq_true rfl) dX4_nextOf_3 ⟨Nat.zero_le _, Nat.zero_le _⟩) hP hD hS hA [0, 1, 2] rfl (fun H locs hP hS => ?_)
  refine lv_aload_n hx hb dX4_nextOf_6 rfl (lv_at hl 0 rfl) ?_
  refine lv_iload_n hx hb dX4_nextOf_7 rfl (lv_at hl 1 rfl) ?_
  refine lv_iconst (v := (4 : Int32)) hx hb dX4_nextOf_8 (by decide) ?_
  obtain ⟨v3, h4, hf⟩ := kBind hf
  refine kgoR (krunV (wc := (wX4 cI a0 a1 a2 M SV MX ML MA MH)) (As := [.int x1, .int (4 : Int32)]) (rest := [.int v1]) (ci := 4) hx hb hml hown hts hK (kX4_of l D cI a0 a1 a2 M SV MX ML MA MH x1 (4 : Int32) v3 h4) gX4_nextOf_X4_of rfl rfl rfl hdX4_of ⟨Nat.le_of_ble_eq_true rfl, Nat.le_of_ble_eq_true rfl⟩ hP hD rfl rfl rfl rfl hl.1 rfl (Nat.le_of_ble_eq_true rfl) dX4_nextOf_9 ⟨Nat.zero_le _, Nat.zero_le _⟩) hP hD hS hA [0, 1, 2] rfl (fun H locs hP hS => ?_)
  refine lv_iadd hx hb dX4_nextOf_12 ?_
  refine lv_bipush (v := (36 : Int32)) hx hb dX4_nextOf_13 (by decide) ?_
  refine lv_iadd hx hb dX4_nextOf_15 ?_
  refine lv_bipush (v := (36 : Int32)) hx hb dX4_nextOf_16 (by decide) ?_
  refine kirem hx hb dX4_nextOf_18 (by decide) ?_
  obtain ⟨z5, hz5⟩ : ∃ z : Int32, z = jrem ((v1 + v3) + (36 : Int32)) (36 : Int32) := ⟨_, rfl⟩
  rw [← hz5] at hf
  rw [← hz5]
  have he := Option.some.inj hf
  subst he
  exact kreti hx hb hr hlk hP hD hS dX4_nextOf_19
set_option maxHeartbeats 4000000 in
set_option maxRecDepth 100000 in
theorem kX4_contains (l : Launch) (D : va_G) (cI : ClassId) (a0 a1 a2 : Nat) (M : (Nat → Int32)) (SV : Int32) (MX : (Nat → Int32)) (ML : Int32) (MA : Int32) (MH : Int64) (x1 : Int32) (x2 : Int32) (x3 : Int32) (o : Bool) (hf : fX4_contains M x1 x2 x3 = some o) : Ct l yX4_contains wsX4_contains { frames := 1, cells := 0, slots := 0, locals := 22 } D cI [.ref a0, .int x1, .int x2, .int x3] (wX4 cI a0 a1 a2 M SV MX ML MA MH) (wX4 cI a0 a1 a2 M SV MX ML MA MH) (some (.int (bI o))) := by
  refine Ct.of (cc := cX4_contains) (maxL := 6) (ret := (some .boolean)) (by decide) rfl (Nat.le_of_ble_eq_true rfl) ?_
  intro p e s m args below meth c A F hP hD hS ls hl
  obtain ⟨hx, hb, hml, hr, hown, hts, hlk, hK, hA⟩ := F
  have hown : s.vm.findClass RX4 = some m.cls := hown
  have hl : lv_has ls 6 [(0, .ref a0), (1, .int x1), (2, .int x2), (3, .int x3)] := hl
  unfold fX4_contains at hf
  refine lv_aload_n hx hb dX4_contains_0 rfl (lv_at hl 0 rfl) ?_
  refine lv_iload_n hx hb dX4_contains_1 rfl (lv_at hl 1 rfl) ?_
  refine lv_bipush (v := (9 : Int32)) hx hb dX4_contains_2 (by decide) ?_
  refine lv_iconst (v := (2 : Int32)) hx hb dX4_contains_4 (by decide) ?_
  refine lv_iload_n hx hb dX4_contains_5 rfl (lv_at hl 2 rfl) ?_
  refine lv_imul hx hb dX4_contains_6 ?_
  refine lv_iadd hx hb dX4_contains_7 ?_
  obtain ⟨v1, h2, hf⟩ := kBind hf
  refine kgoR (krunV (wc := (wX4 cI a0 a1 a2 M SV MX ML MA MH)) (As := [.int x1, .int ((9 : Int32) + ((2 : Int32) * x2))]) (rest := []) (ci := 4) hx hb hml hown hts hK (kX4_of l D cI a0 a1 a2 M SV MX ML MA MH x1 ((9 : Int32) + ((2 : Int32) * x2)) v1 h2) gX4_contains_X4_of rfl rfl rfl hdX4_of ⟨Nat.le_of_ble_eq_true rfl, Nat.le_of_ble_eq_true rfl⟩ hP hD rfl rfl rfl rfl hl.1 rfl (Nat.le_of_ble_eq_true rfl) dX4_contains_8 ⟨Nat.zero_le _, Nat.zero_le _⟩) hP hD hS hA [0, 1, 2] rfl (fun H locs hP hS => ?_)
  refine lv_istore (lv' := [(4, .int v1), (0, .ref a0), (1, .int x1), (2, .int x2), (3, .int x3)]) hx hb dX4_contains_11 hl (by decide) rfl (fun ls hl => ?_)
  refine lv_aload_n hx hb dX4_contains_13 rfl (lv_at hl 1 rfl) ?_
  refine lv_iload_n hx hb dX4_contains_14 rfl (lv_at hl 2 rfl) ?_
  refine lv_bipush (v := (9 : Int32)) hx hb dX4_contains_15 (by decide) ?_
  refine lv_iconst (v := (2 : Int32)) hx hb dX4_contains_17 (by decide) ?_
  refine lv_iload_n hx hb dX4_contains_18 rfl (lv_at hl 3 rfl) ?_
  refine lv_imul hx hb dX4_contains_19 ?_
  refine lv_iadd hx hb dX4_contains_20 ?_
  refine lv_iconst (v := (1 : Int32)) hx hb dX4_contains_21 (by decide) ?_
  refine lv_iadd hx hb dX4_contains_22 ?_
  obtain ⟨v3, h4, hf⟩ := kBind hf
  refine kgoR (krunV (wc := (wX4 cI a0 a1 a2 M SV MX ML MA MH)) (As := [.int x1, .int (((9 : Int32) + ((2 : Int32) * x2)) + (1 : Int32))]) (rest := []) (ci := 4) hx hb hml hown hts hK (kX4_of l D cI a0 a1 a2 M SV MX ML MA MH x1 (((9 : Int32) + ((2 : Int32) * x2)) + (1 : Int32)) v3 h4) gX4_contains_X4_of rfl rfl rfl hdX4_of ⟨Nat.le_of_ble_eq_true rfl, Nat.le_of_ble_eq_true rfl⟩ hP hD rfl rfl rfl rfl hl.1 rfl (Nat.le_of_ble_eq_true rfl) dX4_contains_23 ⟨Nat.zero_le _, Nat.zero_le _⟩) hP hD hS hA [0, 1, 2] rfl (fun H locs hP hS => ?_)
  refine lv_istore (lv' := [(5, .int v3), (4, .int v1), (0, .ref a0), (1, .int x1), (2, .int x2), (3, .int x3)]) hx hb dX4_contains_26 hl (by decide) rfl (fun ls hl => ?_)
  refine lv_iload hx hb dX4_contains_28 (lv_at hl 1 rfl) ?_
  refine lv_bipush (v := (-100 : Int32)) hx hb dX4_contains_30 (by decide) ?_
  refine lv_icmp_eq (tgt := 63) hx hb dX4_contains_32 (by decide) (fun c5 => ?_) (fun c5 => ?_)
  · have hf := kIfT c5 hf
    refine lv_iconst (v := (0 : Int32)) hx hb dX4_contains_63 (by decide) ?_
    have he := Option.some.inj hf
    subst he
    exact kretz hx hb hr hlk hP hD hS dX4_contains_64
  · have hf := kIfF c5 hf
    refine lv_iload_n hx hb dX4_contains_35 rfl (lv_at hl 5 rfl) ?_
    refine lv_iload hx hb dX4_contains_36 (lv_at hl 1 rfl) ?_
    refine lv_isub hx hb dX4_contains_38 ?_
    refine lv_bipush (v := (36 : Int32)) hx hb dX4_contains_39 (by decide) ?_
    refine lv_iadd hx hb dX4_contains_41 ?_
    refine lv_bipush (v := (36 : Int32)) hx hb dX4_contains_42 (by decide) ?_
    refine kirem hx hb dX4_contains_44 (by decide) ?_
    refine lv_iload hx hb dX4_contains_45 (lv_at hl 0 rfl) ?_
    refine lv_iload hx hb dX4_contains_47 (lv_at hl 1 rfl) ?_
    refine lv_isub hx hb dX4_contains_49 ?_
    refine lv_bipush (v := (36 : Int32)) hx hb dX4_contains_50 (by decide) ?_
    refine lv_iadd hx hb dX4_contains_52 ?_
    refine lv_bipush (v := (36 : Int32)) hx hb dX4_contains_53 (by decide) ?_
    refine kirem hx hb dX4_contains_55 (by decide) ?_
    refine lv_icmp_gt (tgt := 63) hx hb dX4_contains_56 (by decide) (fun c6 => ?_) (fun c6 => ?_)
    · have hf := kIfT c6 hf
      refine lv_iconst (v := (0 : Int32)) hx hb dX4_contains_63 (by decide) ?_
      have he := Option.some.inj hf
      subst he
      exact kretz hx hb hr hlk hP hD hS dX4_contains_64
    · have hf := kIfF c6 hf
      refine lv_iconst (v := (1 : Int32)) hx hb dX4_contains_59 (by decide) ?_
      refine lv_goto (tgt := 64) hx hb dX4_contains_60 (by decide) ?_
      have he := Option.some.inj hf
      subst he
      exact kretz hx hb hr hlk hP hD hS dX4_contains_64
set_option maxHeartbeats 4000000 in
set_option maxRecDepth 100000 in
theorem kX4_hasArc (l : Launch) (D : va_G) (cI : ClassId) (a0 a1 a2 : Nat) (M : (Nat → Int32)) (SV : Int32) (MX : (Nat → Int32)) (ML : Int32) (MA : Int32) (MH : Int64) (x1 : Int32) (x2 : Int32) (o : Bool) (hf : fX4_hasArc M x1 x2 = some o) : Ct l yX4_hasArc wsX4_hasArc { frames := 1, cells := 0, slots := 0, locals := 22 } D cI [.ref a0, .int x1, .int x2] (wX4 cI a0 a1 a2 M SV MX ML MA MH) (wX4 cI a0 a1 a2 M SV MX ML MA MH) (some (.int (bI o))) := by
  refine Ct.of (cc := cX4_hasArc) (maxL := 3) (ret := (some .boolean)) (by decide) rfl (Nat.le_of_ble_eq_true rfl) ?_
  intro p e s m args below meth c A F hP hD hS ls hl
  obtain ⟨hx, hb, hml, hr, hown, hts, hlk, hK, hA⟩ := F
  have hown : s.vm.findClass RX4 = some m.cls := hown
  have hl : lv_has ls 3 [(0, .ref a0), (1, .int x1), (2, .int x2)] := hl
  unfold fX4_hasArc at hf
  refine lv_aload_n hx hb dX4_hasArc_0 rfl (lv_at hl 0 rfl) ?_
  refine lv_iload_n hx hb dX4_hasArc_1 rfl (lv_at hl 1 rfl) ?_
  refine lv_bipush (v := (9 : Int32)) hx hb dX4_hasArc_2 (by decide) ?_
  refine lv_iconst (v := (2 : Int32)) hx hb dX4_hasArc_4 (by decide) ?_
  refine lv_iload_n hx hb dX4_hasArc_5 rfl (lv_at hl 2 rfl) ?_
  refine lv_imul hx hb dX4_hasArc_6 ?_
  refine lv_iadd hx hb dX4_hasArc_7 ?_
  obtain ⟨v1, h2, hf⟩ := kBind hf
  refine kgoR (krunV (wc := (wX4 cI a0 a1 a2 M SV MX ML MA MH)) (As := [.int x1, .int ((9 : Int32) + ((2 : Int32) * x2))]) (rest := []) (ci := 4) hx hb hml hown hts hK (kX4_of l D cI a0 a1 a2 M SV MX ML MA MH x1 ((9 : Int32) + ((2 : Int32) * x2)) v1 h2) gX4_hasArc_X4_of rfl rfl rfl hdX4_of ⟨Nat.le_of_ble_eq_true rfl, Nat.le_of_ble_eq_true rfl⟩ hP hD rfl rfl rfl rfl hl.1 rfl (Nat.le_of_ble_eq_true rfl) dX4_hasArc_8 ⟨Nat.zero_le _, Nat.zero_le _⟩) hP hD hS hA [0, 1, 2] rfl (fun H locs hP hS => ?_)
  refine lv_bipush (v := (-100 : Int32)) hx hb dX4_hasArc_11 (by decide) ?_
  refine lv_icmp_eq (tgt := 20) hx hb dX4_hasArc_13 (by decide) (fun c3 => ?_) (fun c3 => ?_)
  · have hf := kIfT c3 hf
    refine lv_iconst (v := (0 : Int32)) hx hb dX4_hasArc_20 (by decide) ?_
    have he := Option.some.inj hf
    subst he
    exact kretz hx hb hr hlk hP hD hS dX4_hasArc_21
  · have hf := kIfF c3 hf
    refine lv_iconst (v := (1 : Int32)) hx hb dX4_hasArc_16 (by decide) ?_
    refine lv_goto (tgt := 21) hx hb dX4_hasArc_17 (by decide) ?_
    have he := Option.some.inj hf
    subst he
    exact kretz hx hb hr hlk hP hD hS dX4_hasArc_21
set_option maxHeartbeats 4000000 in
set_option maxRecDepth 100000 in
theorem kX4_occupies (l : Launch) (D : va_G) (cI : ClassId) (a0 a1 a2 : Nat) (M : (Nat → Int32)) (SV : Int32) (MX : (Nat → Int32)) (ML : Int32) (MA : Int32) (MH : Int64) (x1 : Int32) (x2 : Int32) (o : Bool) (hf : fX4_occupies M x1 x2 = some o) : Ct l yX4_occupies wsX4_occupies { frames := 2, cells := 0, slots := 0, locals := 47 } D cI [.ref a0, .int x1, .int x2] (wX4 cI a0 a1 a2 M SV MX ML MA MH) (wX4 cI a0 a1 a2 M SV MX ML MA MH) (some (.int (bI o))) := by
  refine Ct.of (cc := cX4_occupies) (maxL := 3) (ret := (some .boolean)) (by decide) rfl (Nat.le_of_ble_eq_true rfl) ?_
  intro p e s m args below meth c A F hP hD hS ls hl
  obtain ⟨hx, hb, hml, hr, hown, hts, hlk, hK, hA⟩ := F
  have hown : s.vm.findClass RX4 = some m.cls := hown
  have hl : lv_has ls 3 [(0, .ref a0), (1, .int x1), (2, .int x2)] := hl
  unfold fX4_occupies at hf
  refine lv_aload_n hx hb dX4_occupies_0 rfl (lv_at hl 0 rfl) ?_
  refine lv_iload_n hx hb dX4_occupies_1 rfl (lv_at hl 1 rfl) ?_
  refine lv_iload_n hx hb dX4_occupies_2 rfl (lv_at hl 2 rfl) ?_
  refine lv_aload_n hx hb dX4_occupies_3 rfl (lv_at hl 0 rfl) ?_
  refine lv_iload_n hx hb dX4_occupies_4 rfl (lv_at hl 1 rfl) ?_
  refine lv_iconst (v := (0 : Int32)) hx hb dX4_occupies_5 (by decide) ?_
  obtain ⟨v1, h2, hf⟩ := kBind hf
  refine kgoR (krunV (wc := (wX4 cI a0 a1 a2 M SV MX ML MA MH)) (As := [.int x1, .int (0 : Int32)]) (rest := [.int x2, .int x1, .ref a0]) (ci := 4) hx hb hml hown hts hK (kX4_of l D cI a0 a1 a2 M SV MX ML MA MH x1 (0 : Int32) v1 h2) gX4_occupies_X4_of rfl rfl rfl hdX4_of ⟨Nat.le_of_ble_eq_true rfl, Nat.le_of_ble_eq_true rfl⟩ hP hD rfl rfl rfl rfl hl.1 rfl (Nat.le_of_ble_eq_true rfl) dX4_occupies_6 ⟨Nat.zero_le _, Nat.zero_le _⟩) hP hD hS hA [0, 1, 2] rfl (fun H locs hP hS => ?_)
  obtain ⟨v3, h4, hf⟩ := kBind hf
  refine kgoR (krunV (wc := (wX4 cI a0 a1 a2 M SV MX ML MA MH)) (As := [.int x1, .int x2, .int v1]) (rest := []) (ci := 4) hx hb hml hown hts hK (kX4_contains l D cI a0 a1 a2 M SV MX ML MA MH x1 x2 v1 v3 h4) gX4_occupies_X4_contains rfl rfl rfl hdX4_contains ⟨Nat.le_of_ble_eq_true rfl, Nat.le_of_ble_eq_true rfl⟩ hP hD rfl rfl rfl rfl hl.1 rfl (Nat.le_of_ble_eq_true rfl) dX4_occupies_9 ⟨Nat.zero_le _, Nat.zero_le _⟩) hP hD hS hA [0, 1, 2] rfl (fun H locs hP hS => ?_)
  refine kif_neb (tgt := 57) hx hb dX4_occupies_12 (by decide) (fun c5 => ?_) (fun c5 => ?_)
  · have hf := kIfT c5 hf
    refine lv_iconst (v := (1 : Int32)) hx hb dX4_occupies_57 (by decide) ?_
    refine lv_goto (tgt := 62) hx hb dX4_occupies_58 (by decide) ?_
    have he := Option.some.inj hf
    subst he
    exact kretz hx hb hr hlk hP hD hS dX4_occupies_62
  · have hf := kIfF c5 hf
    refine lv_aload_n hx hb dX4_occupies_15 rfl (lv_at hl 0 rfl) ?_
    refine lv_iload_n hx hb dX4_occupies_16 rfl (lv_at hl 1 rfl) ?_
    obtain ⟨v6, h7, hf⟩ := kBind hf
    refine kgoR (krunV (wc := (wX4 cI a0 a1 a2 M SV MX ML MA MH)) (As := [.int x1]) (rest := []) (ci := 4) hx hb hml hown hts hK (kX4_isOnStep l D cI a0 a1 a2 M SV MX ML MA MH x1 v6 h7) gX4_occupies_X4_isOnStep rfl rfl rfl hdX4_isOnStep ⟨Nat.le_of_ble_eq_true rfl, Nat.le_of_ble_eq_true rfl⟩ hP hD rfl rfl rfl rfl hl.1 rfl (Nat.le_of_ble_eq_true rfl) dX4_occupies_17 ⟨Nat.zero_le _, Nat.zero_le _⟩) hP hD hS hA [0, 1, 2] rfl (fun H locs hP hS => ?_)
    refine kif_eqb (tgt := 37) hx hb dX4_occupies_20 (by decide) (fun c8 => ?_) (fun c8 => ?_)
    · have hf := kIfF c8 hf
      refine lv_aload_n hx hb dX4_occupies_37 rfl (lv_at hl 0 rfl) ?_
      refine lv_iload_n hx hb dX4_occupies_38 rfl (lv_at hl 1 rfl) ?_
      refine lv_bipush (v := (7 : Int32)) hx hb dX4_occupies_39 (by decide) ?_
      obtain ⟨v9, h10, hf⟩ := kBind hf
      refine kgoR (krunV (wc := (wX4 cI a0 a1 a2 M SV MX ML MA MH)) (As := [.int x1, .int (7 : Int32)]) (rest := []) (ci := 4) hx hb hml hown hts hK (kX4_of l D cI a0 a1 a2 M SV MX ML MA MH x1 (7 : Int32) v9 h10) gX4_occupies_X4_of rfl rfl rfl hdX4_of ⟨Nat.le_of_ble_eq_true rfl, Nat.le_of_ble_eq_true rfl⟩ hP hD rfl rfl rfl rfl hl.1 rfl (Nat.le_of_ble_eq_true rfl) dX4_occupies_41 ⟨Nat.zero_le _, Nat.zero_le _⟩) hP hD hS hA [0, 1, 2] rfl (fun H locs hP hS => ?_)
      refine lv_iconst (v := (1 : Int32)) hx hb dX4_occupies_44 (by decide) ?_
      refine lv_icmp_ne (tgt := 61) hx hb dX4_occupies_45 (by decide) (fun c11 => ?_) (fun c11 => ?_)
      · have hf := kIfF c11 hf
        refine lv_iconst (v := (0 : Int32)) hx hb dX4_occupies_61 (by decide) ?_
        have he := Option.some.inj hf
        subst he
        exact kretz hx hb hr hlk hP hD hS dX4_occupies_62
      · have hf := kIfT c11 hf
        refine lv_aload_n hx hb dX4_occupies_48 rfl (lv_at hl 0 rfl) ?_
        refine lv_iload_n hx hb dX4_occupies_49 rfl (lv_at hl 1 rfl) ?_
        refine lv_iload_n hx hb dX4_occupies_50 rfl (lv_at hl 2 rfl) ?_
        obtain ⟨v12, h13, hf⟩ := kBind hf
        refine kgoR (krunV (wc := (wX4 cI a0 a1 a2 M SV MX ML MA MH)) (As := [.int x1, .int x2]) (rest := []) (ci := 4) hx hb hml hown hts hK (kX4_hasArc l D cI a0 a1 a2 M SV MX ML MA MH x1 x2 v12 h13) gX4_occupies_X4_hasArc rfl rfl rfl hdX4_hasArc ⟨Nat.le_of_ble_eq_true rfl, Nat.le_of_ble_eq_true rfl⟩ hP hD rfl rfl rfl rfl hl.1 rfl (Nat.le_of_ble_eq_true rfl) dX4_occupies_51 ⟨Nat.zero_le _, Nat.zero_le _⟩) hP hD hS hA [0, 1, 2] rfl (fun H locs hP hS => ?_)
        refine kif_eqb (tgt := 61) hx hb dX4_occupies_54 (by decide) (fun c14 => ?_) (fun c14 => ?_)
        · have hf := kIfF c14 hf
          refine lv_iconst (v := (0 : Int32)) hx hb dX4_occupies_61 (by decide) ?_
          have he := Option.some.inj hf
          subst he
          exact kretz hx hb hr hlk hP hD hS dX4_occupies_62
        · have hf := kIfT c14 hf
          refine lv_iconst (v := (1 : Int32)) hx hb dX4_occupies_57 (by decide) ?_
          refine lv_goto (tgt := 62) hx hb dX4_occupies_58 (by decide) ?_
          have he := Option.some.inj hf
          subst he
          exact kretz hx hb hr hlk hP hD hS dX4_occupies_62
    · have hf := kIfT c8 hf
      refine lv_aload_n hx hb dX4_occupies_23 rfl (lv_at hl 0 rfl) ?_
      refine lv_iload_n hx hb dX4_occupies_24 rfl (lv_at hl 1 rfl) ?_
      refine lv_iload_n hx hb dX4_occupies_25 rfl (lv_at hl 2 rfl) ?_
      refine lv_aload_n hx hb dX4_occupies_26 rfl (lv_at hl 0 rfl) ?_
      refine lv_iload_n hx hb dX4_occupies_27 rfl (lv_at hl 1 rfl) ?_
      obtain ⟨v15, h16, hf⟩ := kBind hf
      refine kgoR (krunV (wc := (wX4 cI a0 a1 a2 M SV MX ML MA MH)) (As := [.int x1]) (rest := [.int x2, .int x1, .ref a0]) (ci := 4) hx hb hml hown hts hK (kX4_nextOf l D cI a0 a1 a2 M SV MX ML MA MH x1 v15 h16) gX4_occupies_X4_nextOf rfl rfl rfl hdX4_nextOf ⟨Nat.le_of_ble_eq_true rfl, Nat.le_of_ble_eq_true rfl⟩ hP hD rfl rfl rfl rfl hl.1 rfl (Nat.le_of_ble_eq_true rfl) dX4_occupies_28 ⟨Nat.zero_le _, Nat.zero_le _⟩) hP hD hS hA [0, 1, 2] rfl (fun H locs hP hS => ?_)
      obtain ⟨v17, h18, hf⟩ := kBind hf
      refine kgoR (krunV (wc := (wX4 cI a0 a1 a2 M SV MX ML MA MH)) (As := [.int x1, .int x2, .int v15]) (rest := []) (ci := 4) hx hb hml hown hts hK (kX4_contains l D cI a0 a1 a2 M SV MX ML MA MH x1 x2 v15 v17 h18) gX4_occupies_X4_contains rfl rfl rfl hdX4_contains ⟨Nat.le_of_ble_eq_true rfl, Nat.le_of_ble_eq_true rfl⟩ hP hD rfl rfl rfl rfl hl.1 rfl (Nat.le_of_ble_eq_true rfl) dX4_occupies_31 ⟨Nat.zero_le _, Nat.zero_le _⟩) hP hD hS hA [0, 1, 2] rfl (fun H locs hP hS => ?_)
      refine kif_neb (tgt := 57) hx hb dX4_occupies_34 (by decide) (fun c19 => ?_) (fun c19 => ?_)
      · have hf := kIfT c19 hf
        refine lv_iconst (v := (1 : Int32)) hx hb dX4_occupies_57 (by decide) ?_
        refine lv_goto (tgt := 62) hx hb dX4_occupies_58 (by decide) ?_
        have he := Option.some.inj hf
        subst he
        exact kretz hx hb hr hlk hP hD hS dX4_occupies_62
      · have hf := kIfF c19 hf
        refine lv_aload_n hx hb dX4_occupies_37 rfl (lv_at hl 0 rfl) ?_
        refine lv_iload_n hx hb dX4_occupies_38 rfl (lv_at hl 1 rfl) ?_
        refine lv_bipush (v := (7 : Int32)) hx hb dX4_occupies_39 (by decide) ?_
        obtain ⟨v20, h21, hf⟩ := kBind hf
        refine kgoR (krunV (wc := (wX4 cI a0 a1 a2 M SV MX ML MA MH)) (As := [.int x1, .int (7 : Int32)]) (rest := []) (ci := 4) hx hb hml hown hts hK (kX4_of l D cI a0 a1 a2 M SV MX ML MA MH x1 (7 : Int32) v20 h21) gX4_occupies_X4_of rfl rfl rfl hdX4_of ⟨Nat.le_of_ble_eq_true rfl, Nat.le_of_ble_eq_true rfl⟩ hP hD rfl rfl rfl rfl hl.1 rfl (Nat.le_of_ble_eq_true rfl) dX4_occupies_41 ⟨Nat.zero_le _, Nat.zero_le _⟩) hP hD hS hA [0, 1, 2] rfl (fun H locs hP hS => ?_)
        refine lv_iconst (v := (1 : Int32)) hx hb dX4_occupies_44 (by decide) ?_
        refine lv_icmp_ne (tgt := 61) hx hb dX4_occupies_45 (by decide) (fun c22 => ?_) (fun c22 => ?_)
        · have hf := kIfF c22 hf
          refine lv_iconst (v := (0 : Int32)) hx hb dX4_occupies_61 (by decide) ?_
          have he := Option.some.inj hf
          subst he
          exact kretz hx hb hr hlk hP hD hS dX4_occupies_62
        · have hf := kIfT c22 hf
          refine lv_aload_n hx hb dX4_occupies_48 rfl (lv_at hl 0 rfl) ?_
          refine lv_iload_n hx hb dX4_occupies_49 rfl (lv_at hl 1 rfl) ?_
          refine lv_iload_n hx hb dX4_occupies_50 rfl (lv_at hl 2 rfl) ?_
          obtain ⟨v23, h24, hf⟩ := kBind hf
          refine kgoR (krunV (wc := (wX4 cI a0 a1 a2 M SV MX ML MA MH)) (As := [.int x1, .int x2]) (rest := []) (ci := 4) hx hb hml hown hts hK (kX4_hasArc l D cI a0 a1 a2 M SV MX ML MA MH x1 x2 v23 h24) gX4_occupies_X4_hasArc rfl rfl rfl hdX4_hasArc ⟨Nat.le_of_ble_eq_true rfl, Nat.le_of_ble_eq_true rfl⟩ hP hD rfl rfl rfl rfl hl.1 rfl (Nat.le_of_ble_eq_true rfl) dX4_occupies_51 ⟨Nat.zero_le _, Nat.zero_le _⟩) hP hD hS hA [0, 1, 2] rfl (fun H locs hP hS => ?_)
          refine kif_eqb (tgt := 61) hx hb dX4_occupies_54 (by decide) (fun c25 => ?_) (fun c25 => ?_)
          · have hf := kIfF c25 hf
            refine lv_iconst (v := (0 : Int32)) hx hb dX4_occupies_61 (by decide) ?_
            have he := Option.some.inj hf
            subst he
            exact kretz hx hb hr hlk hP hD hS dX4_occupies_62
          · have hf := kIfT c25 hf
            refine lv_iconst (v := (1 : Int32)) hx hb dX4_occupies_57 (by decide) ?_
            refine lv_goto (tgt := 62) hx hb dX4_occupies_58 (by decide) ?_
            have he := Option.some.inj hf
            subst he
            exact kretz hx hb hr hlk hP hD hS dX4_occupies_62
set_option maxHeartbeats 4000000 in
set_option maxRecDepth 100000 in
theorem kX4_inWay (l : Launch) (D : va_G) (cI : ClassId) (fu : Nat) (a0 a1 a2 : Nat) (M : (Nat → Int32)) (SV : Int32) (MX : (Nat → Int32)) (ML : Int32) (MA : Int32) (MH : Int64) (x1 : Int32) (o : Int32) (hf : fX4_inWay fu M x1 = some o) : Ct l yX4_inWay wsX4_inWay { frames := 3, cells := 0, slots := 0, locals := 69 } D cI [.ref a0, .int x1] (wX4 cI a0 a1 a2 M SV MX ML MA MH) (wX4 cI a0 a1 a2 M SV MX ML MA MH) (some (.int o)) := by
  refine Ct.of (cc := cX4_inWay) (maxL := 5) (ret := (some .int)) (by decide) rfl (Nat.le_of_ble_eq_true rfl) ?_
  intro p e s m args below meth c A F hP hD hS ls hl
  obtain ⟨hx, hb, hml, hr, hown, hts, hlk, hK, hA⟩ := F
  have hown : s.vm.findClass RX4 = some m.cls := hown
  have hl : lv_has ls 5 [(0, .ref a0), (1, .int x1)] := hl
  have hinX4 : ∀ w ∈ wsX40, w ∈ wsX4_inWay := by decide +kernel
  have hfl7 := hts (.fieldLink RX4 7 "CraneGuardModel" "row" "[I") (by decide +kernel)
  unfold fX4_inWay at hf
  refine lv_bipush (v := (-100 : Int32)) hx hb dX4_inWay_0 (by decide) ?_
  refine lv_istore_n (lv' := [(2, .int (-100 : Int32)), (0, .ref a0), (1, .int x1)]) hx hb dX4_inWay_2 rfl hl (by decide) rfl (fun ls hl => ?_)
  refine lv_aload_n hx hb dX4_inWay_3 rfl (lv_at hl 1 rfl) ?_
  refine va_get (D := D) (ci := 4) (v := .ref a1) (C := RX4) (T := TX4) (N := 6) hx hb hts hinX4 hown hK.1 hP 0 rfl rfl 0 (by decide) hfl7 (fun _ h9 => h9) rfl dX4_inWay_4 ?_
  refine lv_iconst (v := (2 : Int32)) hx hb dX4_inWay_7 (by decide) ?_
  obtain ⟨v1, h2, hf⟩ := kBind hf
  refine krd hx hb hK hP 1 rfl h2 dX4_inWay_8 ?_
  refine lv_iconst (v := (1 : Int32)) hx hb dX4_inWay_9 (by decide) ?_
  refine lv_isub hx hb dX4_inWay_10 ?_
  refine lv_istore_n (lv' := [(3, .int (v1 - (1 : Int32))), (2, .int (-100 : Int32)), (0, .ref a0), (1, .int x1)]) hx hb dX4_inWay_11 rfl hl (by decide) rfl (fun ls hl => ?_)
  obtain ⟨z34, hz34⟩ : ∃ z : Int32, z = v1 - (1 : Int32) := ⟨_, rfl⟩
  rw [← hz34] at hf
  have hl : lv_has ls 5 [(3, .int z34), (2, .int (-100 : Int32)), (0, .ref a0), (1, .int x1)] := by rw [hz34]; exact hl
  refine klp hf (fun t12 : Int32 × Int32 => (wX4 cI a0 a1 a2 M SV MX ML MA MH)) 5 (fun t12 : Int32 × Int32 => [(3, .int t12.2), (2, .int t12.1), (0, .ref a0), (1, .int x1)]) ?_ hP hD hS hl
  intro t12 x12_ hf hI1 hO1 H locs ls hP hD hS hl
  unfold fX4_inWay_L12 at hf
  have hP : va_P D vwCl (wX4 cI a0 a1 a2 M SV MX ML MA MH) H := hP
  have hD : va_D A (wX4 cI a0 a1 a2 M SV MX ML MA MH) := hD
  have hl : lv_has ls 5 [(3, .int t12.2), (2, .int t12.1), (0, .ref a0), (1, .int x1)] := hl
  refine lv_iload_n hx hb dX4_inWay_12 rfl (lv_at hl 0 rfl) ?_
  refine lv_if_lt (tgt := 74) hx hb dX4_inWay_13 (by decide) (fun c35 => ?_) (fun c35 => ?_)
  · have hf := kIfT c35 hf
    refine lv_iload_n hx hb dX4_inWay_74 rfl (lv_at hl 1 rfl) ?_
    have he := Option.some.inj hf
    have he := hO1 _ he.symm
    subst he
    exact kreti hx hb hr hlk hP hD hS dX4_inWay_75
  · have hf := kIfF c35 hf
    refine lv_iconst (v := (0 : Int32)) hx hb dX4_inWay_16 (by decide) ?_
    refine lv_istore (lv' := [(4, .int (0 : Int32)), (3, .int t12.2), (2, .int t12.1), (0, .ref a0), (1, .int x1)]) hx hb dX4_inWay_17 hl (by decide) rfl (fun ls hl => ?_)
    have hl : lv_has ls 5 [(4, .int (0 : Int32)), (3, .int t12.2), (2, .int t12.1), (0, .ref a0), (1, .int x1)] := hl
    refine klp hf (fun t19 : Int32 × Int32 => (wX4 cI a0 a1 a2 M SV MX ML MA MH)) 5 (fun t19 : Int32 × Int32 => [(4, .int t19.2), (3, .int t12.2), (2, .int t19.1), (0, .ref a0), (1, .int x1)]) ?_ hP hD hS hl
    intro t19 x19_ hf hI2 hO2 H locs ls hP hD hS hl
    unfold fX4_inWay_L19 at hf
    have hP : va_P D vwCl (wX4 cI a0 a1 a2 M SV MX ML MA MH) H := hP
    have hD : va_D A (wX4 cI a0 a1 a2 M SV MX ML MA MH) := hD
    have hl : lv_has ls 5 [(4, .int t19.2), (3, .int t12.2), (2, .int t19.1), (0, .ref a0), (1, .int x1)] := hl
    refine lv_iload hx hb dX4_inWay_19 (lv_at hl 0 rfl) ?_
    refine lv_bipush (v := (6 : Int32)) hx hb dX4_inWay_21 (by decide) ?_
    refine lv_icmp_ge (tgt := 68) hx hb dX4_inWay_23 (by decide) (fun c36 => ?_) (fun c36 => ?_)
    · have hf := kIfT c36 hf
      refine lv_iinc (v := t12.2 + (-1 : Int32)) (lv' := [(3, .int (t12.2 + (-1 : Int32))), (4, .int t19.2), (2, .int t19.1), (0, .ref a0), (1, .int x1)]) hx hb dX4_inWay_68 hl (k := 1) rfl (congrArg (fun z : Int32 => t12.2 + z) (by decide)) (by decide) rfl (fun ls hl => ?_)
      refine lv_goto (tgt := 12) hx hb dX4_inWay_71 (by decide) ?_
      obtain ⟨z37, hz37⟩ : ∃ z : Int32, z = t12.2 + (-1 : Int32) := ⟨_, rfl⟩
      rw [← hz37] at hf
      have he := (Option.some.inj hf).symm
      have he := (hO2 _ he).symm
      have hl : lv_has ls 5 [(3, .int z37), (2, .int t19.1), (0, .ref a0), (1, .int x1)] := by rw [hz37]; exact lv_sub hl [0, 2, 3, 4] rfl
      exact hI1 _ he H locs ls hP hD hS hl
    · have hf := kIfF c36 hf
      refine lv_iload_n hx hb dX4_inWay_26 rfl (lv_at hl 1 rfl) ?_
      refine lv_iload_n hx hb dX4_inWay_27 rfl (lv_at hl 4 rfl) ?_
      refine lv_icmp_eq (tgt := 60) hx hb dX4_inWay_28 (by decide) (fun c38 => ?_) (fun c38 => ?_)
      · have hf := kIfT c38 hf
        refine lv_iload_n hx hb dX4_inWay_60 rfl (lv_at hl 2 rfl) ?_
        refine lv_istore_n (lv' := [(2, .int t19.1), (4, .int t19.2), (3, .int t12.2), (0, .ref a0), (1, .int x1)]) hx hb dX4_inWay_61 rfl hl (by decide) rfl (fun ls hl => ?_)
        refine lv_iinc (v := t19.2 + (1 : Int32)) (lv' := [(4, .int (t19.2 + (1 : Int32))), (2, .int t19.1), (3, .int t12.2), (0, .ref a0), (1, .int x1)]) hx hb dX4_inWay_62 hl (k := 1) rfl rfl (by decide) rfl (fun ls hl => ?_)
        refine lv_goto (tgt := 19) hx hb dX4_inWay_65 (by decide) ?_
        obtain ⟨z39, hz39⟩ : ∃ z : Int32, z = t19.2 + (1 : Int32) := ⟨_, rfl⟩
        rw [← hz39] at hf
        have he := (Option.some.inj hf).symm
        have hl : lv_has ls 5 [(4, .int z39), (3, .int t12.2), (2, .int t19.1), (0, .ref a0), (1, .int x1)] := by rw [hz39]; exact lv_sub hl [0, 2, 1, 3, 4] rfl
        exact hI2 _ he H locs ls hP hD hS hl
      · have hf := kIfF c38 hf
        refine lv_aload_n hx hb dX4_inWay_31 rfl (lv_at hl 3 rfl) ?_
        refine lv_iload_n hx hb dX4_inWay_32 rfl (lv_at hl 4 rfl) ?_
        refine lv_iload hx hb dX4_inWay_33 (lv_at hl 0 rfl) ?_
        refine lv_aload_n hx hb dX4_inWay_35 rfl (lv_at hl 3 rfl) ?_
        refine lv_iload_n hx hb dX4_inWay_36 rfl (lv_at hl 4 rfl) ?_
        obtain ⟨v40, h41, hf⟩ := kBind hf
        refine kgoR (krunV (wc := (wX4 cI a0 a1 a2 M SV MX ML MA MH)) (As := [.int x1]) (rest := [.int t19.2, .int x1, .ref a0]) (ci := 4) hx hb hml hown hts hK (kX4_nextOf l D cI a0 a1 a2 M SV MX ML MA MH x1 v40 h41) gX4_inWay_X4_nextOf rfl rfl rfl hdX4_nextOf ⟨Nat.le_of_ble_eq_true rfl, Nat.le_of_ble_eq_true rfl⟩ hP hD rfl rfl rfl rfl hl.1 rfl (Nat.le_of_ble_eq_true rfl) dX4_inWay_37 ⟨Nat.zero_le _, Nat.zero_le _⟩) hP hD hS hA [0, 1, 2] rfl (fun H locs hP hS => ?_)
        obtain ⟨v42, h43, hf⟩ := kBind hf
        refine kgoR (krunV (wc := (wX4 cI a0 a1 a2 M SV MX ML MA MH)) (As := [.int x1, .int t19.2, .int v40]) (rest := []) (ci := 4) hx hb hml hown hts hK (kX4_contains l D cI a0 a1 a2 M SV MX ML MA MH x1 t19.2 v40 v42 h43) gX4_inWay_X4_contains rfl rfl rfl hdX4_contains ⟨Nat.le_of_ble_eq_true rfl, Nat.le_of_ble_eq_true rfl⟩ hP hD rfl rfl rfl rfl hl.1 rfl (Nat.le_of_ble_eq_true rfl) dX4_inWay_40 ⟨Nat.zero_le _, Nat.zero_le _⟩) hP hD hS hA [0, 1, 2] rfl (fun H locs hP hS => ?_)
        refine kif_eqb (tgt := 60) hx hb dX4_inWay_43 (by decide) (fun c44 => ?_) (fun c44 => ?_)
        · have hf := kIfF c44 hf
          refine lv_iload_n hx hb dX4_inWay_60 rfl (lv_at hl 2 rfl) ?_
          refine lv_istore_n (lv' := [(2, .int t19.1), (4, .int t19.2), (3, .int t12.2), (0, .ref a0), (1, .int x1)]) hx hb dX4_inWay_61 rfl hl (by decide) rfl (fun ls hl => ?_)
          refine lv_iinc (v := t19.2 + (1 : Int32)) (lv' := [(4, .int (t19.2 + (1 : Int32))), (2, .int t19.1), (3, .int t12.2), (0, .ref a0), (1, .int x1)]) hx hb dX4_inWay_62 hl (k := 1) rfl rfl (by decide) rfl (fun ls hl => ?_)
          refine lv_goto (tgt := 19) hx hb dX4_inWay_65 (by decide) ?_
          obtain ⟨z45, hz45⟩ : ∃ z : Int32, z = t19.2 + (1 : Int32) := ⟨_, rfl⟩
          rw [← hz45] at hf
          have he := (Option.some.inj hf).symm
          have hl : lv_has ls 5 [(4, .int z45), (3, .int t12.2), (2, .int t19.1), (0, .ref a0), (1, .int x1)] := by rw [hz45]; exact lv_sub hl [0, 2, 1, 3, 4] rfl
          exact hI2 _ he H locs ls hP hD hS hl
        · have hf := kIfT c44 hf
          refine lv_aload_n hx hb dX4_inWay_46 rfl (lv_at hl 3 rfl) ?_
          refine lv_iload_n hx hb dX4_inWay_47 rfl (lv_at hl 1 rfl) ?_
          refine lv_iload hx hb dX4_inWay_48 (lv_at hl 0 rfl) ?_
          obtain ⟨v46, h47, hf⟩ := kBind hf
          refine kgoR (krunV (wc := (wX4 cI a0 a1 a2 M SV MX ML MA MH)) (As := [.int t12.2, .int t19.2]) (rest := []) (ci := 4) hx hb hml hown hts hK (kX4_occupies l D cI a0 a1 a2 M SV MX ML MA MH t12.2 t19.2 v46 h47) gX4_inWay_X4_occupies rfl rfl rfl hdX4_occupies ⟨Nat.le_of_ble_eq_true rfl, Nat.le_of_ble_eq_true rfl⟩ hP hD rfl rfl rfl rfl hl.1 rfl (Nat.le_of_ble_eq_true rfl) dX4_inWay_50 ⟨Nat.zero_le _, Nat.zero_le _⟩) hP hD hS hA [0, 1, 2] rfl (fun H locs hP hS => ?_)
          refine kif_eqb (tgt := 60) hx hb dX4_inWay_53 (by decide) (fun c48 => ?_) (fun c48 => ?_)
          · have hf := kIfF c48 hf
            refine lv_iload_n hx hb dX4_inWay_60 rfl (lv_at hl 2 rfl) ?_
            refine lv_istore_n (lv' := [(2, .int t19.1), (4, .int t19.2), (3, .int t12.2), (0, .ref a0), (1, .int x1)]) hx hb dX4_inWay_61 rfl hl (by decide) rfl (fun ls hl => ?_)
            refine lv_iinc (v := t19.2 + (1 : Int32)) (lv' := [(4, .int (t19.2 + (1 : Int32))), (2, .int t19.1), (3, .int t12.2), (0, .ref a0), (1, .int x1)]) hx hb dX4_inWay_62 hl (k := 1) rfl rfl (by decide) rfl (fun ls hl => ?_)
            refine lv_goto (tgt := 19) hx hb dX4_inWay_65 (by decide) ?_
            obtain ⟨z49, hz49⟩ : ∃ z : Int32, z = t19.2 + (1 : Int32) := ⟨_, rfl⟩
            rw [← hz49] at hf
            have he := (Option.some.inj hf).symm
            have hl : lv_has ls 5 [(4, .int z49), (3, .int t12.2), (2, .int t19.1), (0, .ref a0), (1, .int x1)] := by rw [hz49]; exact lv_sub hl [0, 2, 1, 3, 4] rfl
            exact hI2 _ he H locs ls hP hD hS hl
          · have hf := kIfT c48 hf
            refine lv_iload_n hx hb dX4_inWay_56 rfl (lv_at hl 1 rfl) ?_
            refine lv_goto (tgt := 61) hx hb dX4_inWay_57 (by decide) ?_
            refine lv_istore_n (lv' := [(2, .int t12.2), (4, .int t19.2), (3, .int t12.2), (0, .ref a0), (1, .int x1)]) hx hb dX4_inWay_61 rfl hl (by decide) rfl (fun ls hl => ?_)
            refine lv_iinc (v := t19.2 + (1 : Int32)) (lv' := [(4, .int (t19.2 + (1 : Int32))), (2, .int t12.2), (3, .int t12.2), (0, .ref a0), (1, .int x1)]) hx hb dX4_inWay_62 hl (k := 1) rfl rfl (by decide) rfl (fun ls hl => ?_)
            refine lv_goto (tgt := 19) hx hb dX4_inWay_65 (by decide) ?_
            obtain ⟨z50, hz50⟩ : ∃ z : Int32, z = t19.2 + (1 : Int32) := ⟨_, rfl⟩
            rw [← hz50] at hf
            have he := (Option.some.inj hf).symm
            have hl : lv_has ls 5 [(4, .int z50), (3, .int t12.2), (2, .int t12.2), (0, .ref a0), (1, .int x1)] := by rw [hz50]; exact lv_sub hl [0, 2, 1, 3, 4] rfl
            exact hI2 _ he H locs ls hP hD hS hl
set_option maxHeartbeats 4000000 in
set_option maxRecDepth 100000 in
theorem kX4_isBlocked (l : Launch) (D : va_G) (cI : ClassId) (fu : Nat) (a0 a1 a2 : Nat) (M : (Nat → Int32)) (SV : Int32) (MX : (Nat → Int32)) (ML : Int32) (MA : Int32) (MH : Int64) (x1 : Int32) (o : Bool) (hf : fX4_isBlocked fu M x1 = some o) : Ct l yX4_isBlocked wsX4_isBlocked { frames := 4, cells := 0, slots := 0, locals := 93 } D cI [.ref a0, .int x1] (wX4 cI a0 a1 a2 M SV MX ML MA MH) (wX4 cI a0 a1 a2 M SV MX ML MA MH) (some (.int (bI o))) := by
  refine Ct.of (cc := cX4_isBlocked) (maxL := 2) (ret := (some .boolean)) (by decide) rfl (Nat.le_of_ble_eq_true rfl) ?_
  intro p e s m args below meth c A F hP hD hS ls hl
  obtain ⟨hx, hb, hml, hr, hown, hts, hlk, hK, hA⟩ := F
  have hown : s.vm.findClass RX4 = some m.cls := hown
  have hl : lv_has ls 2 [(0, .ref a0), (1, .int x1)] := hl
  unfold fX4_isBlocked at hf
  refine lv_aload_n hx hb dX4_isBlocked_0 rfl (lv_at hl 0 rfl) ?_
  refine lv_iload_n hx hb dX4_isBlocked_1 rfl (lv_at hl 1 rfl) ?_
  obtain ⟨v1, h2, hf⟩ := kBind hf
  refine kgoR (krunV (wc := (wX4 cI a0 a1 a2 M SV MX ML MA MH)) (As := [.int x1]) (rest := []) (ci := 4) hx hb hml hown hts hK (kX4_hasTarget l D cI a0 a1 a2 M SV MX ML MA MH x1 v1 h2) gX4_isBlocked_X4_hasTarget rfl rfl rfl hdX4_hasTarget ⟨Nat.le_of_ble_eq_true rfl, Nat.le_of_ble_eq_true rfl⟩ hP hD rfl rfl rfl rfl hl.1 rfl (Nat.le_of_ble_eq_true rfl) dX4_isBlocked_2 ⟨Nat.zero_le _, Nat.zero_le _⟩) hP hD hS hA [0, 1, 2] rfl (fun H locs hP hS => ?_)
  refine kif_eqb (tgt := 30) hx hb dX4_isBlocked_5 (by decide) (fun c3 => ?_) (fun c3 => ?_)
  · have hf := kIfF c3 hf
    refine lv_iconst (v := (0 : Int32)) hx hb dX4_isBlocked_30 (by decide) ?_
    have he := Option.some.inj hf
    subst he
    exact kretz hx hb hr hlk hP hD hS dX4_isBlocked_31
  · have hf := kIfT c3 hf
    refine lv_aload_n hx hb dX4_isBlocked_8 rfl (lv_at hl 0 rfl) ?_
    refine lv_iload_n hx hb dX4_isBlocked_9 rfl (lv_at hl 1 rfl) ?_
    obtain ⟨v4, h5, hf⟩ := kBind hf
    refine kgoR (krunV (wc := (wX4 cI a0 a1 a2 M SV MX ML MA MH)) (As := [.int x1]) (rest := []) (ci := 4) hx hb hml hown hts hK (kX4_isOnStep l D cI a0 a1 a2 M SV MX ML MA MH x1 v4 h5) gX4_isBlocked_X4_isOnStep rfl rfl rfl hdX4_isOnStep ⟨Nat.le_of_ble_eq_true rfl, Nat.le_of_ble_eq_true rfl⟩ hP hD rfl rfl rfl rfl hl.1 rfl (Nat.le_of_ble_eq_true rfl) dX4_isBlocked_10 ⟨Nat.zero_le _, Nat.zero_le _⟩) hP hD hS hA [0, 1, 2] rfl (fun H locs hP hS => ?_)
    refine kif_neb (tgt := 30) hx hb dX4_isBlocked_13 (by decide) (fun c6 => ?_) (fun c6 => ?_)
    · have hf := kIfT c6 hf
      refine lv_iconst (v := (0 : Int32)) hx hb dX4_isBlocked_30 (by decide) ?_
      have he := Option.some.inj hf
      subst he
      exact kretz hx hb hr hlk hP hD hS dX4_isBlocked_31
    · have hf := kIfF c6 hf
      refine lv_aload_n hx hb dX4_isBlocked_16 rfl (lv_at hl 0 rfl) ?_
      refine lv_iload_n hx hb dX4_isBlocked_17 rfl (lv_at hl 1 rfl) ?_
      obtain ⟨v7, h8, hf⟩ := kBind hf
      refine kgoR (krunV (wc := (wX4 cI a0 a1 a2 M SV MX ML MA MH)) (As := [.int x1]) (rest := []) (ci := 4) hx hb hml hown hts hK (kX4_inWay l D cI fu a0 a1 a2 M SV MX ML MA MH x1 v7 h8) gX4_isBlocked_X4_inWay rfl rfl rfl hdX4_inWay ⟨Nat.le_of_ble_eq_true rfl, Nat.le_of_ble_eq_true rfl⟩ hP hD rfl rfl rfl rfl hl.1 rfl (Nat.le_of_ble_eq_true rfl) dX4_isBlocked_18 ⟨Nat.zero_le _, Nat.zero_le _⟩) hP hD hS hA [0, 1, 2] rfl (fun H locs hP hS => ?_)
      refine lv_bipush (v := (-100 : Int32)) hx hb dX4_isBlocked_21 (by decide) ?_
      refine lv_icmp_eq (tgt := 30) hx hb dX4_isBlocked_23 (by decide) (fun c9 => ?_) (fun c9 => ?_)
      · have hf := kIfT c9 hf
        refine lv_iconst (v := (0 : Int32)) hx hb dX4_isBlocked_30 (by decide) ?_
        have he := Option.some.inj hf
        subst he
        exact kretz hx hb hr hlk hP hD hS dX4_isBlocked_31
      · have hf := kIfF c9 hf
        refine lv_iconst (v := (1 : Int32)) hx hb dX4_isBlocked_26 (by decide) ?_
        refine lv_goto (tgt := 31) hx hb dX4_isBlocked_27 (by decide) ?_
        have he := Option.some.inj hf
        subst he
        exact kretz hx hb hr hlk hP hD hS dX4_isBlocked_31
