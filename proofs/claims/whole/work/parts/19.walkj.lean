set_option maxHeartbeats 4000000 in
set_option maxRecDepth 100000 in
theorem kX4_readsAll (l : Launch) (D : va_G) (cI : ClassId) (fu : Nat) (a0 a1 a2 : Nat) (M : (Nat → Int32)) (SV : Int32) (MX : (Nat → Int32)) (ML : Int32) (MA : Int32) (MH : Int64) (x1 : Bool) (o : Bool × (Nat → Int32) × Int32) (hf : fX4_readsAll fu M MX ML x1 = some o) : Ct l yX4_readsAll wsX4_readsAll { frames := 4, cells := 0, slots := 0, locals := 97 } D cI [.ref a0, .int (bI x1)] (wX4 cI a0 a1 a2 M SV MX ML MA MH) (wX4 cI a0 a1 a2 o.2.1 SV MX ML o.2.2 MH) (some (.int (bI o.1))) := by
  refine Ct.of (cc := cX4_readsAll) (maxL := 4) (ret := (some .boolean)) (by decide) rfl (Nat.le_of_ble_eq_true rfl) ?_
  intro p e s m args below meth c A F hP hD hS ls hl
  obtain ⟨hx, hb, hml, hr, hown, hts, hlk, hK, hA⟩ := F
  have hown : s.vm.findClass RX4 = some m.cls := hown
  have hl : lv_has ls 4 [(0, .ref a0), (1, .int (bI x1))] := hl
  have hinX4 : ∀ w ∈ wsX40, w ∈ wsX4_readsAll := by decide +kernel
  have hfl124 := hts (.fieldLink RX4 124 "CraneGuardModel" "at" "I") (by decide +kernel)
  unfold fX4_readsAll at hf
  refine lv_aload_n hx hb dX4_readsAll_0 rfl (lv_at hl 0 rfl) ?_
  refine lv_iconst (v := (0 : Int32)) hx hb dX4_readsAll_1 (by decide) ?_
  refine va_put (D := D) (ci := 4) (v := .int (0 : Int32)) (ty := .int) (C := RX4) (T := TX4) (N := 6) hx hb hts hinX4 tyX4 tyX4_ok nmX4 hown hK.1 hP hD hS 0 rfl rfl 4 (by decide) hfl124 (fun _ h9 => h9) rfl (by decide +kernel) rfl rfl (Nat.le_of_ble_eq_true rfl) dX4_readsAll_2 (fun H locs hP hD hS => ?_)
  have hP : va_P D vwCl (wX4 cI a0 a1 a2 M SV MX ML (0 : Int32) MH) H := hP
  have hD : va_D A (wX4 cI a0 a1 a2 M SV MX ML (0 : Int32) MH) := hD
  refine lv_aload_n hx hb dX4_readsAll_5 rfl (lv_at hl 0 rfl) ?_
  refine lv_iload_n hx hb dX4_readsAll_6 rfl (lv_at hl 1 rfl) ?_
  obtain ⟨v1, h2, hf⟩ := kBind hf
  refine kgoA (krunV (wc := (wX4 cI a0 a1 a2 M SV MX ML (0 : Int32) MH)) (As := [.int (bI x1)]) (rest := []) (ci := 4) hx hb hml hown hts hK (kX4_readsCommand l D cI fu a0 a1 a2 M SV MX ML (0 : Int32) MH x1 v1 h2) gX4_readsAll_X4_readsCommand rfl rfl rfl hdX4_readsCommand ⟨Nat.le_of_ble_eq_true rfl, Nat.le_of_ble_eq_true rfl⟩ hP hD rfl rfl rfl rfl hl.1 rfl (Nat.le_of_ble_eq_true rfl) dX4_readsAll_7 ⟨Nat.zero_le _, Nat.zero_le _⟩) hD hS hA (fun H locs hP hD hS => ?_)
  refine lv_istore_n (lv' := [(2, .int (bI v1.1)), (0, .ref a0), (1, .int (bI x1))]) hx hb dX4_readsAll_10 rfl hl (by decide) rfl (fun ls hl => ?_)
  refine lv_aload_n hx hb dX4_readsAll_11 rfl (lv_at hl 1 rfl) ?_
  obtain ⟨v3, h4, hf⟩ := kBind hf
  refine kgoA (krunV (wc := (wX4 cI a0 a1 a2 v1.2.1 SV MX ML v1.2.2 MH)) (As := []) (rest := []) (ci := 4) hx hb hml hown hts hK (kX4_here l D cI fu a0 a1 a2 v1.2.1 SV MX ML v1.2.2 MH v3 h4) gX4_readsAll_X4_here rfl rfl rfl hdX4_here ⟨Nat.le_of_ble_eq_true rfl, Nat.le_of_ble_eq_true rfl⟩ hP hD rfl rfl rfl rfl hl.1 rfl (Nat.le_of_ble_eq_true rfl) dX4_readsAll_12 ⟨Nat.zero_le _, Nat.zero_le _⟩) hD hS hA (fun H locs hP hD hS => ?_)
  refine lv_istore_n (lv' := [(3, .int v3.1), (2, .int (bI v1.1)), (0, .ref a0), (1, .int (bI x1))]) hx hb dX4_readsAll_15 rfl hl (by decide) rfl (fun ls hl => ?_)
  have hl : lv_has ls 4 [(3, .int v3.1), (2, .int (bI v1.1)), (0, .ref a0), (1, .int (bI x1))] := hl
  refine klp hf (fun t16 : (Nat → Int32) × Int32 × Bool × Int32 => (wX4 cI a0 a1 a2 t16.1 SV MX ML t16.2.1 MH)) 4 (fun t16 : (Nat → Int32) × Int32 × Bool × Int32 => [(3, .int t16.2.2.2), (2, .int (bI t16.2.2.1)), (0, .ref a0), (1, .int (bI x1))]) ?_ hP hD hS hl
  intro t16 x16_ hf hI1 hO1 H locs ls hP hD hS hl
  unfold fX4_readsAll_L16 at hf
  have hP : va_P D vwCl (wX4 cI a0 a1 a2 t16.1 SV MX ML t16.2.1 MH) H := hP
  have hD : va_D A (wX4 cI a0 a1 a2 t16.1 SV MX ML t16.2.1 MH) := hD
  have hl : lv_has ls 4 [(3, .int t16.2.2.2), (2, .int (bI t16.2.2.1)), (0, .ref a0), (1, .int (bI x1))] := hl
  refine lv_iload_n hx hb dX4_readsAll_16 rfl (lv_at hl 1 rfl) ?_
  refine kif_eqb (tgt := 65) hx hb dX4_readsAll_17 (by decide) (fun c14 => ?_) (fun c14 => ?_)
  · have hf := kIfF c14 hf
    refine lv_iload_n hx hb dX4_readsAll_65 rfl (lv_at hl 1 rfl) ?_
    have he := Option.some.inj hf
    have he := hO1 _ he.symm
    subst he
    exact kretz hx hb hr hlk hP hD hS dX4_readsAll_66
  · have hf := kIfT c14 hf
    refine lv_iload_n hx hb dX4_readsAll_20 rfl (lv_at hl 0 rfl) ?_
    refine lv_iconst (v := (-1 : Int32)) hx hb dX4_readsAll_21 (by decide) ?_
    refine lv_icmp_eq (tgt := 65) hx hb dX4_readsAll_22 (by decide) (fun c15 => ?_) (fun c15 => ?_)
    · have hf := kIfT c15 hf
      refine lv_iload_n hx hb dX4_readsAll_65 rfl (lv_at hl 1 rfl) ?_
      have he := Option.some.inj hf
      have he := hO1 _ he.symm
      subst he
      exact kretz hx hb hr hlk hP hD hS dX4_readsAll_66
    · have hf := kIfF c15 hf
      refine lv_iload_n hx hb dX4_readsAll_25 rfl (lv_at hl 0 rfl) ?_
      refine lv_bipush (v := (59 : Int32)) hx hb dX4_readsAll_26 (by decide) ?_
      refine lv_icmp_ne (tgt := 35) hx hb dX4_readsAll_28 (by decide) (fun c16 => ?_) (fun c16 => ?_)
      · have hf := kIfF c16 hf
        refine lv_iconst (v := (0 : Int32)) hx hb dX4_readsAll_35 (by decide) ?_
        refine lv_istore_n (lv' := [(2, .int (0 : Int32)), (3, .int t16.2.2.2), (0, .ref a0), (1, .int (bI x1))]) hx hb dX4_readsAll_36 rfl hl (by decide) rfl (fun ls hl => ?_)
        refine lv_iload_n hx hb dX4_readsAll_37 rfl (lv_at hl 0 rfl) ?_
        refine lv_if_eq (tgt := 16) hx hb dX4_readsAll_38 (by decide) (fun c17 => ?_) (fun c17 => ?_)
        · have he := (Option.some.inj hf).symm
          have hl : lv_has ls 4 [(3, .int t16.2.2.2), (2, .int (bI false)), (0, .ref a0), (1, .int (bI x1))] := lv_sub hl [1, 0, 2, 3] rfl
          exact hI1 _ he H locs ls hP hD hS hl
        · exact absurd c17 (by decide)
      · have hf := kIfT c16 hf
        refine lv_iconst (v := (1 : Int32)) hx hb dX4_readsAll_31 (by decide) ?_
        refine lv_goto (tgt := 36) hx hb dX4_readsAll_32 (by decide) ?_
        refine lv_istore_n (lv' := [(2, .int (1 : Int32)), (3, .int t16.2.2.2), (0, .ref a0), (1, .int (bI x1))]) hx hb dX4_readsAll_36 rfl hl (by decide) rfl (fun ls hl => ?_)
        refine lv_iload_n hx hb dX4_readsAll_37 rfl (lv_at hl 0 rfl) ?_
        refine lv_if_eq (tgt := 16) hx hb dX4_readsAll_38 (by decide) (fun c18 => ?_) (fun c18 => ?_)
        · exact absurd c18 (by decide)
        · refine lv_aload_n hx hb dX4_readsAll_41 rfl (lv_at hl 2 rfl) ?_
          refine lv_dup hx hb dX4_readsAll_42 rfl ?_
          refine va_get (D := D) (ci := 4) (v := .int t16.2.1) (C := RX4) (T := TX4) (N := 6) hx hb hts hinX4 hown hK.1 hP 0 rfl rfl 4 (by decide) hfl124 (fun _ h9 => h9) rfl dX4_readsAll_43 ?_
          refine lv_iconst (v := (1 : Int32)) hx hb dX4_readsAll_46 (by decide) ?_
          refine lv_iadd hx hb dX4_readsAll_47 ?_
          refine va_put (D := D) (ci := 4) (v := .int (t16.2.1 + (1 : Int32))) (ty := .int) (C := RX4) (T := TX4) (N := 6) hx hb hts hinX4 tyX4 tyX4_ok nmX4 hown hK.1 hP hD hS 0 rfl rfl 4 (by decide) hfl124 (fun _ h9 => h9) rfl (by decide +kernel) rfl rfl (Nat.le_of_ble_eq_true rfl) dX4_readsAll_48 (fun H locs hP hD hS => ?_)
          have hP : va_P D vwCl (wX4 cI a0 a1 a2 t16.1 SV MX ML (t16.2.1 + (1 : Int32)) MH) H := hP
          have hD : va_D A (wX4 cI a0 a1 a2 t16.1 SV MX ML (t16.2.1 + (1 : Int32)) MH) := hD
          refine lv_aload_n hx hb dX4_readsAll_51 rfl (lv_at hl 2 rfl) ?_
          refine lv_iload_n hx hb dX4_readsAll_52 rfl (lv_at hl 3 rfl) ?_
          obtain ⟨v19, h20, hf⟩ := kBind hf
          refine kgoA (krunV (wc := (wX4 cI a0 a1 a2 t16.1 SV MX ML (t16.2.1 + (1 : Int32)) MH)) (As := [.int (bI x1)]) (rest := []) (ci := 4) hx hb hml hown hts hK (kX4_readsCommand l D cI fu a0 a1 a2 t16.1 SV MX ML (t16.2.1 + (1 : Int32)) MH x1 v19 h20) gX4_readsAll_X4_readsCommand rfl rfl rfl hdX4_readsCommand ⟨Nat.le_of_ble_eq_true rfl, Nat.le_of_ble_eq_true rfl⟩ hP hD rfl rfl rfl rfl hl.1 rfl (Nat.le_of_ble_eq_true rfl) dX4_readsAll_53 ⟨Nat.zero_le _, Nat.zero_le _⟩) hD hS hA (fun H locs hP hD hS => ?_)
          refine lv_istore_n (lv' := [(2, .int (bI v19.1)), (3, .int t16.2.2.2), (0, .ref a0), (1, .int (bI x1))]) hx hb dX4_readsAll_56 rfl hl (by decide) rfl (fun ls hl => ?_)
          refine lv_aload_n hx hb dX4_readsAll_57 rfl (lv_at hl 2 rfl) ?_
          obtain ⟨v21, h22, hf⟩ := kBind hf
          refine kgoA (krunV (wc := (wX4 cI a0 a1 a2 v19.2.1 SV MX ML v19.2.2 MH)) (As := []) (rest := []) (ci := 4) hx hb hml hown hts hK (kX4_here l D cI fu a0 a1 a2 v19.2.1 SV MX ML v19.2.2 MH v21 h22) gX4_readsAll_X4_here rfl rfl rfl hdX4_here ⟨Nat.le_of_ble_eq_true rfl, Nat.le_of_ble_eq_true rfl⟩ hP hD rfl rfl rfl rfl hl.1 rfl (Nat.le_of_ble_eq_true rfl) dX4_readsAll_58 ⟨Nat.zero_le _, Nat.zero_le _⟩) hD hS hA (fun H locs hP hD hS => ?_)
          refine lv_istore_n (lv' := [(3, .int v21.1), (2, .int (bI v19.1)), (0, .ref a0), (1, .int (bI x1))]) hx hb dX4_readsAll_61 rfl hl (by decide) rfl (fun ls hl => ?_)
          refine lv_goto (tgt := 16) hx hb dX4_readsAll_62 (by decide) ?_
          have he := (Option.some.inj hf).symm
          have hl : lv_has ls 4 [(3, .int v21.1), (2, .int (bI v19.1)), (0, .ref a0), (1, .int (bI x1))] := lv_sub hl [0, 1, 2, 3] rfl
          exact hI1 _ he H locs ls hP hD hS hl
set_option maxHeartbeats 4000000 in
set_option maxRecDepth 100000 in
theorem kX4_command (l : Launch) (D : va_G) (cI : ClassId) (fu : Nat) (a0 a1 a2 : Nat) (M : (Nat → Int32)) (SV : Int32) (MX : (Nat → Int32)) (ML : Int32) (MA : Int32) (MH : Int64) (o : Int32 × (Nat → Int32) × Int32 × Int32) (hf : fX4_command fu M SV MX ML = some o) : Ct l yX4_command wsX4_command { frames := 5, cells := 0, slots := 0, locals := 120 } D cI [.ref a0] (wX4 cI a0 a1 a2 M SV MX ML MA MH) (wX4 cI a0 a1 a2 o.2.1 o.2.2.1 MX ML o.2.2.2 MH) (some (.int o.1)) := by
  refine Ct.of (cc := cX4_command) (maxL := 2) (ret := (some .int)) (by decide) rfl (Nat.le_of_ble_eq_true rfl) ?_
  intro p e s m args below meth c A F hP hD hS ls hl
  obtain ⟨hx, hb, hml, hr, hown, hts, hlk, hK, hA⟩ := F
  have hown : s.vm.findClass RX4 = some m.cls := hown
  have hl : lv_has ls 2 [(0, .ref a0)] := hl
  unfold fX4_command at hf
  refine lv_aload_n hx hb dX4_command_0 rfl (lv_at hl 0 rfl) ?_
  refine lv_iconst (v := (0 : Int32)) hx hb dX4_command_1 (by decide) ?_
  obtain ⟨v1, h2, hf⟩ := kBind hf
  refine kgoA (krunV (wc := (wX4 cI a0 a1 a2 M SV MX ML MA MH)) (As := [.int (bI false)]) (rest := []) (ci := 4) hx hb hml hown hts hK (kX4_readsAll l D cI fu a0 a1 a2 M SV MX ML MA MH false v1 h2) gX4_command_X4_readsAll rfl rfl rfl hdX4_readsAll ⟨Nat.le_of_ble_eq_true rfl, Nat.le_of_ble_eq_true rfl⟩ hP hD rfl rfl rfl rfl hl.1 rfl (Nat.le_of_ble_eq_true rfl) dX4_command_2 ⟨Nat.zero_le _, Nat.zero_le _⟩) hD hS hA (fun H locs hP hD hS => ?_)
  refine kif_neb (tgt := 11) hx hb dX4_command_5 (by decide) (fun c3 => ?_) (fun c3 => ?_)
  · have hf := kIfT c3 hf
    refine lv_aload_n hx hb dX4_command_11 rfl (lv_at hl 0 rfl) ?_
    obtain ⟨v4, h5, hf⟩ := kBind hf
    refine kgoA (krunV (wc := (wX4 cI a0 a1 a2 v1.2.1 SV MX ML v1.2.2 MH)) (As := []) (rest := []) (ci := 4) hx hb hml hown hts hK (kX4_saves l D cI fu a0 a1 a2 v1.2.1 SV MX ML v1.2.2 MH v4 h5) gX4_command_X4_saves rfl rfl rfl hdX4_saves ⟨Nat.le_of_ble_eq_true rfl, Nat.le_of_ble_eq_true rfl⟩ hP hD rfl rfl rfl rfl hl.1 rfl (Nat.le_of_ble_eq_true rfl) dX4_command_12 ⟨Nat.zero_le _, Nat.zero_le _⟩) hD hS hA (fun H locs hP hD hS => ?_)
    refine lv_aload_n hx hb dX4_command_15 rfl (lv_at hl 0 rfl) ?_
    refine lv_iconst (v := (1 : Int32)) hx hb dX4_command_16 (by decide) ?_
    obtain ⟨v6, h7, hf⟩ := kBind hf
    refine kgoA (krunV (wc := (wX4 cI a0 a1 a2 v4.1 v4.2 MX ML v1.2.2 MH)) (As := [.int (bI true)]) (rest := []) (ci := 4) hx hb hml hown hts hK (kX4_readsAll l D cI fu a0 a1 a2 v4.1 v4.2 MX ML v1.2.2 MH true v6 h7) gX4_command_X4_readsAll rfl rfl rfl hdX4_readsAll ⟨Nat.le_of_ble_eq_true rfl, Nat.le_of_ble_eq_true rfl⟩ hP hD rfl rfl rfl rfl hl.1 rfl (Nat.le_of_ble_eq_true rfl) dX4_command_17 ⟨Nat.zero_le _, Nat.zero_le _⟩) hD hS hA (fun H locs hP hD hS => ?_)
    refine lv_istore_n (lv' := [(1, .int (bI v6.1)), (0, .ref a0)]) hx hb dX4_command_20 rfl hl (by decide) rfl (fun ls hl => ?_)
    refine lv_aload_n hx hb dX4_command_21 rfl (lv_at hl 1 rfl) ?_
    obtain ⟨v8, h9, hf⟩ := kBind hf
    refine kgoR (krunV (wc := (wX4 cI a0 a1 a2 v6.2.1 v4.2 MX ML v6.2.2 MH)) (As := []) (rest := []) (ci := 4) hx hb hml hown hts hK (kX4_targets l D cI fu a0 a1 a2 v6.2.1 v4.2 MX ML v6.2.2 MH v8 h9) gX4_command_X4_targets rfl rfl rfl hdX4_targets ⟨Nat.le_of_ble_eq_true rfl, Nat.le_of_ble_eq_true rfl⟩ hP hD rfl rfl rfl rfl hl.1 rfl (Nat.le_of_ble_eq_true rfl) dX4_command_22 ⟨Nat.zero_le _, Nat.zero_le _⟩) hP hD hS hA [0, 1, 2] rfl (fun H locs hP hS => ?_)
    have he := Option.some.inj hf
    subst he
    exact kreti hx hb hr hlk hP hD hS dX4_command_25
  · have hf := kIfF c3 hf
    refine lv_bipush (v := (-103 : Int32)) hx hb dX4_command_8 (by decide) ?_
    have he := Option.some.inj hf
    subst he
    exact kreti hx hb hr hlk hP hD hS dX4_command_10
set_option maxHeartbeats 4000000 in
set_option maxRecDepth 100000 in
theorem kX4_conflicts (l : Launch) (D : va_G) (cI : ClassId) (fu : Nat) (a0 a1 a2 : Nat) (M : (Nat → Int32)) (SV : Int32) (MX : (Nat → Int32)) (ML : Int32) (MA : Int32) (MH : Int64) (o : Int32) (hf : fX4_conflicts fu M = some o) : Ct l yX4_conflicts wsX4_conflicts { frames := 6, cells := 0, slots := 0, locals := 136 } D cI [.ref a0] (wX4 cI a0 a1 a2 M SV MX ML MA MH) (wX4 cI a0 a1 a2 M SV MX ML MA MH) (some (.int o)) := by
  refine Ct.of (cc := cX4_conflicts) (maxL := 1) (ret := (some .int)) (by decide) rfl (Nat.le_of_ble_eq_true rfl) ?_
  intro p e s m args below meth c A F hP hD hS ls hl
  obtain ⟨hx, hb, hml, hr, hown, hts, hlk, hK, hA⟩ := F
  have hown : s.vm.findClass RX4 = some m.cls := hown
  have hl : lv_has ls 1 [(0, .ref a0)] := hl
  unfold fX4_conflicts at hf
  refine lv_aload_n hx hb dX4_conflicts_0 rfl (lv_at hl 0 rfl) ?_
  obtain ⟨v1, h2, hf⟩ := kBind hf
  refine kgoR (krunV (wc := (wX4 cI a0 a1 a2 M SV MX ML MA MH)) (As := []) (rest := []) (ci := 4) hx hb hml hown hts hK (kX4_clashes l D cI fu a0 a1 a2 M SV MX ML MA MH v1 h2) gX4_conflicts_X4_clashes rfl rfl rfl hdX4_clashes ⟨Nat.le_of_ble_eq_true rfl, Nat.le_of_ble_eq_true rfl⟩ hP hD rfl rfl rfl rfl hl.1 rfl (Nat.le_of_ble_eq_true rfl) dX4_conflicts_1 ⟨Nat.zero_le _, Nat.zero_le _⟩) hP hD hS hA [0, 1, 2] rfl (fun H locs hP hS => ?_)
  have he := Option.some.inj hf
  subst he
  exact kreti hx hb hr hlk hP hD hS dX4_conflicts_4
set_option maxHeartbeats 4000000 in
set_option maxRecDepth 100000 in
theorem kX4_zonesOf (l : Launch) (D : va_G) (cI : ClassId) (fu : Nat) (a0 a1 a2 : Nat) (M : (Nat → Int32)) (SV : Int32) (MX : (Nat → Int32)) (ML : Int32) (MA : Int32) (MH : Int64) (x1 : Int32) (o : Int32) (hf : fX4_zonesOf fu M x1 = some o) : Ct l yX4_zonesOf wsX4_zonesOf { frames := 3, cells := 0, slots := 0, locals := 69 } D cI [.ref a0, .int x1] (wX4 cI a0 a1 a2 M SV MX ML MA MH) (wX4 cI a0 a1 a2 M SV MX ML MA MH) (some (.int o)) := by
  refine Ct.of (cc := cX4_zonesOf) (maxL := 4) (ret := (some .int)) (by decide) rfl (Nat.le_of_ble_eq_true rfl) ?_
  intro p e s m args below meth c A F hP hD hS ls hl
  obtain ⟨hx, hb, hml, hr, hown, hts, hlk, hK, hA⟩ := F
  have hown : s.vm.findClass RX4 = some m.cls := hown
  have hl : lv_has ls 4 [(0, .ref a0), (1, .int x1)] := hl
  unfold fX4_zonesOf at hf
  refine lv_iconst (v := (0 : Int32)) hx hb dX4_zonesOf_0 (by decide) ?_
  refine lv_istore_n (lv' := [(2, .int (0 : Int32)), (0, .ref a0), (1, .int x1)]) hx hb dX4_zonesOf_1 rfl hl (by decide) rfl (fun ls hl => ?_)
  refine lv_iconst (v := (0 : Int32)) hx hb dX4_zonesOf_2 (by decide) ?_
  refine lv_istore_n (lv' := [(3, .int (0 : Int32)), (2, .int (0 : Int32)), (0, .ref a0), (1, .int x1)]) hx hb dX4_zonesOf_3 rfl hl (by decide) rfl (fun ls hl => ?_)
  have hl : lv_has ls 4 [(3, .int (0 : Int32)), (2, .int (0 : Int32)), (0, .ref a0), (1, .int x1)] := hl
  refine klp hf (fun t4 : Int32 × Int32 => (wX4 cI a0 a1 a2 M SV MX ML MA MH)) 4 (fun t4 : Int32 × Int32 => [(3, .int t4.2), (2, .int t4.1), (0, .ref a0), (1, .int x1)]) ?_ hP hD hS hl
  intro t4 x4_ hf hI1 hO1 H locs ls hP hD hS hl
  unfold fX4_zonesOf_L4 at hf
  have hP : va_P D vwCl (wX4 cI a0 a1 a2 M SV MX ML MA MH) H := hP
  have hD : va_D A (wX4 cI a0 a1 a2 M SV MX ML MA MH) := hD
  have hl : lv_has ls 4 [(3, .int t4.2), (2, .int t4.1), (0, .ref a0), (1, .int x1)] := hl
  refine lv_iload_n hx hb dX4_zonesOf_4 rfl (lv_at hl 0 rfl) ?_
  refine lv_bipush (v := (6 : Int32)) hx hb dX4_zonesOf_5 (by decide) ?_
  refine lv_icmp_ge (tgt := 35) hx hb dX4_zonesOf_7 (by decide) (fun c9 => ?_) (fun c9 => ?_)
  · have hf := kIfT c9 hf
    refine lv_iload_n hx hb dX4_zonesOf_35 rfl (lv_at hl 1 rfl) ?_
    have he := Option.some.inj hf
    have he := hO1 _ he.symm
    subst he
    exact kreti hx hb hr hlk hP hD hS dX4_zonesOf_36
  · have hf := kIfF c9 hf
    refine lv_iload_n hx hb dX4_zonesOf_10 rfl (lv_at hl 1 rfl) ?_
    refine lv_aload_n hx hb dX4_zonesOf_11 rfl (lv_at hl 2 rfl) ?_
    refine lv_iload_n hx hb dX4_zonesOf_12 rfl (lv_at hl 3 rfl) ?_
    refine lv_iload_n hx hb dX4_zonesOf_13 rfl (lv_at hl 0 rfl) ?_
    obtain ⟨v10, h11, hf⟩ := kBind hf
    refine kgoR (krunV (wc := (wX4 cI a0 a1 a2 M SV MX ML MA MH)) (As := [.int x1, .int t4.2]) (rest := [.int t4.1]) (ci := 4) hx hb hml hown hts hK (kX4_occupies l D cI a0 a1 a2 M SV MX ML MA MH x1 t4.2 v10 h11) gX4_zonesOf_X4_occupies rfl rfl rfl hdX4_occupies ⟨Nat.le_of_ble_eq_true rfl, Nat.le_of_ble_eq_true rfl⟩ hP hD rfl rfl rfl rfl hl.1 rfl (Nat.le_of_ble_eq_true rfl) dX4_zonesOf_14 ⟨Nat.zero_le _, Nat.zero_le _⟩) hP hD hS hA [0, 1, 2] rfl (fun H locs hP hS => ?_)
    refine kif_eqb (tgt := 26) hx hb dX4_zonesOf_17 (by decide) (fun c12 => ?_) (fun c12 => ?_)
    · have hf := kIfF c12 hf
      refine lv_iconst (v := (0 : Int32)) hx hb dX4_zonesOf_26 (by decide) ?_
      refine lv_ior hx hb dX4_zonesOf_27 ?_
      refine lv_istore_n (lv' := [(2, .int (t4.1 ||| (0 : Int32))), (3, .int t4.2), (0, .ref a0), (1, .int x1)]) hx hb dX4_zonesOf_28 rfl hl (by decide) rfl (fun ls hl => ?_)
      refine lv_iinc (v := t4.2 + (1 : Int32)) (lv' := [(3, .int (t4.2 + (1 : Int32))), (2, .int (t4.1 ||| (0 : Int32))), (0, .ref a0), (1, .int x1)]) hx hb dX4_zonesOf_29 hl (k := 1) rfl rfl (by decide) rfl (fun ls hl => ?_)
      refine lv_goto (tgt := 4) hx hb dX4_zonesOf_32 (by decide) ?_
      obtain ⟨z13, hz13⟩ : ∃ z : Int32, z = t4.1 ||| (0 : Int32) := ⟨_, rfl⟩
      rw [← hz13] at hf
      obtain ⟨z14, hz14⟩ : ∃ z : Int32, z = t4.2 + (1 : Int32) := ⟨_, rfl⟩
      rw [← hz14] at hf
      have he := (Option.some.inj hf).symm
      have hl : lv_has ls 4 [(3, .int z14), (2, .int z13), (0, .ref a0), (1, .int x1)] := by rw [hz13, hz14]; exact lv_sub hl [0, 1, 2, 3] rfl
      exact hI1 _ he H locs ls hP hD hS hl
    · have hf := kIfT c12 hf
      refine lv_iconst (v := (1 : Int32)) hx hb dX4_zonesOf_20 (by decide) ?_
      refine lv_iload_n hx hb dX4_zonesOf_21 rfl (lv_at hl 0 rfl) ?_
      refine kishl hx hb dX4_zonesOf_22 ?_
      refine lv_goto (tgt := 27) hx hb dX4_zonesOf_23 (by decide) ?_
      refine lv_ior hx hb dX4_zonesOf_27 ?_
      refine lv_istore_n (lv' := [(2, .int (t4.1 ||| (jshl (1 : Int32) t4.2))), (3, .int t4.2), (0, .ref a0), (1, .int x1)]) hx hb dX4_zonesOf_28 rfl hl (by decide) rfl (fun ls hl => ?_)
      refine lv_iinc (v := t4.2 + (1 : Int32)) (lv' := [(3, .int (t4.2 + (1 : Int32))), (2, .int (t4.1 ||| (jshl (1 : Int32) t4.2))), (0, .ref a0), (1, .int x1)]) hx hb dX4_zonesOf_29 hl (k := 1) rfl rfl (by decide) rfl (fun ls hl => ?_)
      refine lv_goto (tgt := 4) hx hb dX4_zonesOf_32 (by decide) ?_
      obtain ⟨z15, hz15⟩ : ∃ z : Int32, z = t4.1 ||| (jshl (1 : Int32) t4.2) := ⟨_, rfl⟩
      rw [← hz15] at hf
      obtain ⟨z16, hz16⟩ : ∃ z : Int32, z = t4.2 + (1 : Int32) := ⟨_, rfl⟩
      rw [← hz16] at hf
      have he := (Option.some.inj hf).symm
      have hl : lv_has ls 4 [(3, .int z16), (2, .int z15), (0, .ref a0), (1, .int x1)] := by rw [hz15, hz16]; exact lv_sub hl [0, 1, 2, 3] rfl
      exact hI1 _ he H locs ls hP hD hS hl
set_option maxHeartbeats 4000000 in
set_option maxRecDepth 100000 in
theorem kX4_property (l : Launch) (D : va_G) (cI : ClassId) (fu : Nat) (a0 a1 a2 : Nat) (M : (Nat → Int32)) (SV : Int32) (MX : (Nat → Int32)) (ML : Int32) (MA : Int32) (MH : Int64) (x1 : Int32) (x2 : Int32) (o : Int32) (hf : fX4_property fu M x1 x2 = some o) : Ct l yX4_property wsX4_property { frames := 4, cells := 0, slots := 0, locals := 92 } D cI [.ref a0, .int x1, .int x2] (wX4 cI a0 a1 a2 M SV MX ML MA MH) (wX4 cI a0 a1 a2 M SV MX ML MA MH) (some (.int o)) := by
  refine Ct.of (cc := cX4_property) (maxL := 3) (ret := (some .int)) (by decide) rfl (Nat.le_of_ble_eq_true rfl) ?_
  intro p e s m args below meth c A F hP hD hS ls hl
  obtain ⟨hx, hb, hml, hr, hown, hts, hlk, hK, hA⟩ := F
  have hown : s.vm.findClass RX4 = some m.cls := hown
  have hl : lv_has ls 3 [(0, .ref a0), (1, .int x1), (2, .int x2)] := hl
  unfold fX4_property at hf
  refine lv_iload_n hx hb dX4_property_0 rfl (lv_at hl 2 rfl) ?_
  refine lv_bipush (v := (8 : Int32)) hx hb dX4_property_1 (by decide) ?_
  refine lv_icmp_ne (tgt := 14) hx hb dX4_property_3 (by decide) (fun c1 => ?_) (fun c1 => ?_)
  · have hf := kIfF c1 hf
    refine lv_iload_n hx hb dX4_property_14 rfl (lv_at hl 2 rfl) ?_
    refine lv_bipush (v := (9 : Int32)) hx hb dX4_property_15 (by decide) ?_
    refine lv_icmp_ne (tgt := 30) hx hb dX4_property_17 (by decide) (fun c2 => ?_) (fun c2 => ?_)
    · have hf := kIfF c2 hf
      refine lv_aload_n hx hb dX4_property_30 rfl (lv_at hl 0 rfl) ?_
      refine lv_iload_n hx hb dX4_property_31 rfl (lv_at hl 1 rfl) ?_
      refine lv_iload_n hx hb dX4_property_32 rfl (lv_at hl 2 rfl) ?_
      obtain ⟨v3, h4, hf⟩ := kBind hf
      refine kgoR (krunV (wc := (wX4 cI a0 a1 a2 M SV MX ML MA MH)) (As := [.int x1, .int x2]) (rest := []) (ci := 4) hx hb hml hown hts hK (kX4_of l D cI a0 a1 a2 M SV MX ML MA MH x1 x2 v3 h4) gX4_property_X4_of rfl rfl rfl hdX4_of ⟨Nat.le_of_ble_eq_true rfl, Nat.le_of_ble_eq_true rfl⟩ hP hD rfl rfl rfl rfl hl.1 rfl (Nat.le_of_ble_eq_true rfl) dX4_property_33 ⟨Nat.zero_le _, Nat.zero_le _⟩) hP hD hS hA [0, 1, 2] rfl (fun H locs hP hS => ?_)
      have he := Option.some.inj hf
      subst he
      exact kreti hx hb hr hlk hP hD hS dX4_property_36
    · have hf := kIfT c2 hf
      refine lv_aload_n hx hb dX4_property_20 rfl (lv_at hl 0 rfl) ?_
      refine lv_iload_n hx hb dX4_property_21 rfl (lv_at hl 1 rfl) ?_
      refine lv_bipush (v := (8 : Int32)) hx hb dX4_property_22 (by decide) ?_
      obtain ⟨v5, h6, hf⟩ := kBind hf
      refine kgoR (krunV (wc := (wX4 cI a0 a1 a2 M SV MX ML MA MH)) (As := [.int x1, .int (8 : Int32)]) (rest := []) (ci := 4) hx hb hml hown hts hK (kX4_of l D cI a0 a1 a2 M SV MX ML MA MH x1 (8 : Int32) v5 h6) gX4_property_X4_of rfl rfl rfl hdX4_of ⟨Nat.le_of_ble_eq_true rfl, Nat.le_of_ble_eq_true rfl⟩ hP hD rfl rfl rfl rfl hl.1 rfl (Nat.le_of_ble_eq_true rfl) dX4_property_24 ⟨Nat.zero_le _, Nat.zero_le _⟩) hP hD hS hA [0, 1, 2] rfl (fun H locs hP hS => ?_)
      refine lv_goto (tgt := 36) hx hb dX4_property_27 (by decide) ?_
      have he := Option.some.inj hf
      subst he
      exact kreti hx hb hr hlk hP hD hS dX4_property_36
  · have hf := kIfT c1 hf
    refine lv_aload_n hx hb dX4_property_6 rfl (lv_at hl 0 rfl) ?_
    refine lv_iload_n hx hb dX4_property_7 rfl (lv_at hl 1 rfl) ?_
    obtain ⟨v7, h8, hf⟩ := kBind hf
    refine kgoR (krunV (wc := (wX4 cI a0 a1 a2 M SV MX ML MA MH)) (As := [.int x1]) (rest := []) (ci := 4) hx hb hml hown hts hK (kX4_zonesOf l D cI fu a0 a1 a2 M SV MX ML MA MH x1 v7 h8) gX4_property_X4_zonesOf rfl rfl rfl hdX4_zonesOf ⟨Nat.le_of_ble_eq_true rfl, Nat.le_of_ble_eq_true rfl⟩ hP hD rfl rfl rfl rfl hl.1 rfl (Nat.le_of_ble_eq_true rfl) dX4_property_8 ⟨Nat.zero_le _, Nat.zero_le _⟩) hP hD hS hA [0, 1, 2] rfl (fun H locs hP hS => ?_)
    refine lv_goto (tgt := 36) hx hb dX4_property_11 (by decide) ?_
    have he := Option.some.inj hf
    subst he
    exact kreti hx hb hr hlk hP hD hS dX4_property_36
set_option maxHeartbeats 4000000 in
set_option maxRecDepth 100000 in
theorem kX4_crane (l : Launch) (D : va_G) (cI : ClassId) (fu : Nat) (a0 a1 a2 : Nat) (M : (Nat → Int32)) (SV : Int32) (MX : (Nat → Int32)) (ML : Int32) (MA : Int32) (MH : Int64) (x1 : Int32) (x2 : Int32) (o : Int32) (hf : fX4_crane fu M x1 x2 = some o) : Ct l yX4_crane wsX4_crane { frames := 5, cells := 0, slots := 0, locals := 114 } D cI [.ref a0, .int x1, .int x2] (wX4 cI a0 a1 a2 M SV MX ML MA MH) (wX4 cI a0 a1 a2 M SV MX ML MA MH) (some (.int o)) := by
  refine Ct.of (cc := cX4_crane) (maxL := 3) (ret := (some .int)) (by decide) rfl (Nat.le_of_ble_eq_true rfl) ?_
  intro p e s m args below meth c A F hP hD hS ls hl
  obtain ⟨hx, hb, hml, hr, hown, hts, hlk, hK, hA⟩ := F
  have hown : s.vm.findClass RX4 = some m.cls := hown
  have hl : lv_has ls 3 [(0, .ref a0), (1, .int x1), (2, .int x2)] := hl
  unfold fX4_crane at hf
  refine lv_aload_n hx hb dX4_crane_0 rfl (lv_at hl 0 rfl) ?_
  refine lv_iload_n hx hb dX4_crane_1 rfl (lv_at hl 1 rfl) ?_
  obtain ⟨v1, h2, hf⟩ := kBind hf
  refine kgoR (krunV (wc := (wX4 cI a0 a1 a2 M SV MX ML MA MH)) (As := [.int x1]) (rest := []) (ci := 4) hx hb hml hown hts hK (kX4_isCrane l D cI a0 a1 a2 M SV MX ML MA MH x1 v1 h2) gX4_crane_X4_isCrane rfl rfl rfl hdX4_isCrane ⟨Nat.le_of_ble_eq_true rfl, Nat.le_of_ble_eq_true rfl⟩ hP hD rfl rfl rfl rfl hl.1 rfl (Nat.le_of_ble_eq_true rfl) dX4_crane_2 ⟨Nat.zero_le _, Nat.zero_le _⟩) hP hD hS hA [0, 1, 2] rfl (fun H locs hP hS => ?_)
  refine kif_neb (tgt := 11) hx hb dX4_crane_5 (by decide) (fun c3 => ?_) (fun c3 => ?_)
  · have hf := kIfT c3 hf
    refine lv_iload_n hx hb dX4_crane_11 rfl (lv_at hl 2 rfl) ?_
    refine lv_iconst (v := (0 : Int32)) hx hb dX4_crane_12 (by decide) ?_
    refine lv_bipush (v := (9 : Int32)) hx hb dX4_crane_13 (by decide) ?_
    obtain ⟨v4, h5, hf⟩ := kBind hf
    refine kgoR (krunS (wc := ([] : va_W)) (As := [.int x2, .int (0 : Int32), .int (9 : Int32)]) (rest := []) hx hb hml hown hts hK (kX4_in l D cI x2 (0 : Int32) (9 : Int32) v4 h5) gX4_crane_X4_in rfl rfl rfl hdX4_in ⟨Nat.le_of_ble_eq_true rfl, Nat.le_of_ble_eq_true rfl⟩ k_P0 (k_D0 A) rfl hl.1 rfl (Nat.le_of_ble_eq_true rfl) dX4_crane_15 ⟨Nat.zero_le _, Nat.zero_le _⟩) hP hD hS hA [] rfl (fun H locs hP hS => ?_)
    refine kif_eqb (tgt := 30) hx hb dX4_crane_18 (by decide) (fun c6 => ?_) (fun c6 => ?_)
    · have hf := kIfF c6 hf
      refine lv_bipush (v := (-102 : Int32)) hx hb dX4_crane_30 (by decide) ?_
      have he := Option.some.inj hf
      subst he
      exact kreti hx hb hr hlk hP hD hS dX4_crane_32
    · have hf := kIfT c6 hf
      refine lv_aload_n hx hb dX4_crane_21 rfl (lv_at hl 0 rfl) ?_
      refine lv_iload_n hx hb dX4_crane_22 rfl (lv_at hl 1 rfl) ?_
      refine lv_iload_n hx hb dX4_crane_23 rfl (lv_at hl 2 rfl) ?_
      obtain ⟨v7, h8, hf⟩ := kBind hf
      refine kgoR (krunV (wc := (wX4 cI a0 a1 a2 M SV MX ML MA MH)) (As := [.int x1, .int x2]) (rest := []) (ci := 4) hx hb hml hown hts hK (kX4_property l D cI fu a0 a1 a2 M SV MX ML MA MH x1 x2 v7 h8) gX4_crane_X4_property rfl rfl rfl hdX4_property ⟨Nat.le_of_ble_eq_true rfl, Nat.le_of_ble_eq_true rfl⟩ hP hD rfl rfl rfl rfl hl.1 rfl (Nat.le_of_ble_eq_true rfl) dX4_crane_24 ⟨Nat.zero_le _, Nat.zero_le _⟩) hP hD hS hA [0, 1, 2] rfl (fun H locs hP hS => ?_)
      refine lv_goto (tgt := 32) hx hb dX4_crane_27 (by decide) ?_
      have he := Option.some.inj hf
      subst he
      exact kreti hx hb hr hlk hP hD hS dX4_crane_32
  · have hf := kIfF c3 hf
    refine lv_bipush (v := (-101 : Int32)) hx hb dX4_crane_8 (by decide) ?_
    have he := Option.some.inj hf
    subst he
    exact kreti hx hb hr hlk hP hD hS dX4_crane_10
set_option maxHeartbeats 4000000 in
set_option maxRecDepth 100000 in
theorem kX4_cranes (l : Launch) (D : va_G) (cI : ClassId) (a0 a1 a2 : Nat) (M : (Nat → Int32)) (SV : Int32) (MX : (Nat → Int32)) (ML : Int32) (MA : Int32) (MH : Int64) (o : Int32) (hf : fX4_cranes M = some o) : Ct l yX4_cranes wsX4_cranes { frames := 0, cells := 0, slots := 0, locals := 0 } D cI [.ref a0] (wX4 cI a0 a1 a2 M SV MX ML MA MH) (wX4 cI a0 a1 a2 M SV MX ML MA MH) (some (.int o)) := by
  refine Ct.of (cc := cX4_cranes) (maxL := 1) (ret := (some .int)) (by decide) rfl (Nat.le_of_ble_eq_true rfl) ?_
  intro p e s m args below meth c A F hP hD hS ls hl
  obtain ⟨hx, hb, hml, hr, hown, hts, hlk, hK, hA⟩ := F
  have hown : s.vm.findClass RX4 = some m.cls := hown
  have hl : lv_has ls 1 [(0, .ref a0)] := hl
  have hinX4 : ∀ w ∈ wsX40, w ∈ wsX4_cranes := by decide +kernel
  have hfl7 := hts (.fieldLink RX4 7 "CraneGuardModel" "row" "[I") (by decide +kernel)
  unfold fX4_cranes at hf
  refine lv_aload_n hx hb dX4_cranes_0 rfl (lv_at hl 0 rfl) ?_
  refine va_get (D := D) (ci := 4) (v := .ref a1) (C := RX4) (T := TX4) (N := 6) hx hb hts hinX4 hown hK.1 hP 0 rfl rfl 0 (by decide) hfl7 (fun _ h9 => h9) rfl dX4_cranes_1 ?_
  refine lv_iconst (v := (2 : Int32)) hx hb dX4_cranes_4 (by decide) ?_
  obtain ⟨v1, h2, hf⟩ := kBind hf
  refine krd hx hb hK hP 1 rfl h2 dX4_cranes_5 ?_
  have he := Option.some.inj hf
  subst he
  exact kreti hx hb hr hlk hP hD hS dX4_cranes_6
set_option maxHeartbeats 4000000 in
set_option maxRecDepth 100000 in
theorem kX4_cycle (l : Launch) (D : va_G) (cI : ClassId) (fu : Nat) (a0 a1 a2 : Nat) (M : (Nat → Int32)) (SV : Int32) (MX : (Nat → Int32)) (ML : Int32) (MA : Int32) (MH : Int64) (o : Int32) (hf : fX4_cycle fu M = some o) : Ct l yX4_cycle wsX4_cycle { frames := 5, cells := 0, slots := 0, locals := 114 } D cI [.ref a0] (wX4 cI a0 a1 a2 M SV MX ML MA MH) (wX4 cI a0 a1 a2 M SV MX ML MA MH) (some (.int o)) := by
  refine Ct.of (cc := cX4_cycle) (maxL := 6) (ret := (some .int)) (by decide) rfl (Nat.le_of_ble_eq_true rfl) ?_
  intro p e s m args below meth c A F hP hD hS ls hl
  obtain ⟨hx, hb, hml, hr, hown, hts, hlk, hK, hA⟩ := F
  have hown : s.vm.findClass RX4 = some m.cls := hown
  have hl : lv_has ls 6 [(0, .ref a0)] := hl
  have hinX4 : ∀ w ∈ wsX40, w ∈ wsX4_cycle := by decide +kernel
  have hfl7 := hts (.fieldLink RX4 7 "CraneGuardModel" "row" "[I") (by decide +kernel)
  unfold fX4_cycle at hf
  refine lv_iconst (v := (0 : Int32)) hx hb dX4_cycle_0 (by decide) ?_
  refine lv_istore_n (lv' := [(1, .int (0 : Int32)), (0, .ref a0)]) hx hb dX4_cycle_1 rfl hl (by decide) rfl (fun ls hl => ?_)
  refine lv_iconst (v := (0 : Int32)) hx hb dX4_cycle_2 (by decide) ?_
  refine lv_istore_n (lv' := [(2, .int (0 : Int32)), (1, .int (0 : Int32)), (0, .ref a0)]) hx hb dX4_cycle_3 rfl hl (by decide) rfl (fun ls hl => ?_)
  have hl : lv_has ls 6 [(2, .int (0 : Int32)), (1, .int (0 : Int32)), (0, .ref a0)] := hl
  refine klp hf (fun t4 : Int32 × Int32 => (wX4 cI a0 a1 a2 M SV MX ML MA MH)) 6 (fun t4 : Int32 × Int32 => [(2, .int t4.2), (1, .int t4.1), (0, .ref a0)]) ?_ hP hD hS hl
  intro t4 x4_ hf hI1 hO1 H locs ls hP hD hS hl
  unfold fX4_cycle_L4 at hf
  have hP : va_P D vwCl (wX4 cI a0 a1 a2 M SV MX ML MA MH) H := hP
  have hD : va_D A (wX4 cI a0 a1 a2 M SV MX ML MA MH) := hD
  have hl : lv_has ls 6 [(2, .int t4.2), (1, .int t4.1), (0, .ref a0)] := hl
  refine lv_iload_n hx hb dX4_cycle_4 rfl (lv_at hl 0 rfl) ?_
  refine lv_aload_n hx hb dX4_cycle_5 rfl (lv_at hl 2 rfl) ?_
  refine va_get (D := D) (ci := 4) (v := .ref a1) (C := RX4) (T := TX4) (N := 6) hx hb hts hinX4 hown hK.1 hP 0 rfl rfl 0 (by decide) hfl7 (fun _ h9 => h9) rfl dX4_cycle_6 ?_
  refine lv_iconst (v := (2 : Int32)) hx hb dX4_cycle_9 (by decide) ?_
  obtain ⟨v62, h63, hf⟩ := kBind hf
  refine krd hx hb hK hP 1 rfl h63 dX4_cycle_10 ?_
  refine lv_icmp_ge (tgt := 97) hx hb dX4_cycle_11 (by decide) (fun c64 => ?_) (fun c64 => ?_)
  · have hf := kIfT c64 hf
    refine lv_iload_n hx hb dX4_cycle_97 rfl (lv_at hl 1 rfl) ?_
    have he := Option.some.inj hf
    have he := hO1 _ he.symm
    subst he
    exact kreti hx hb hr hlk hP hD hS dX4_cycle_98
  · have hf := kIfF c64 hf
    refine lv_iload_n hx hb dX4_cycle_14 rfl (lv_at hl 0 rfl) ?_
    refine lv_istore_n (lv' := [(3, .int t4.2), (2, .int t4.2), (1, .int t4.1), (0, .ref a0)]) hx hb dX4_cycle_15 rfl hl (by decide) rfl (fun ls hl => ?_)
    refine lv_iconst (v := (0 : Int32)) hx hb dX4_cycle_16 (by decide) ?_
    refine lv_istore (lv' := [(4, .int (0 : Int32)), (3, .int t4.2), (2, .int t4.2), (1, .int t4.1), (0, .ref a0)]) hx hb dX4_cycle_17 hl (by decide) rfl (fun ls hl => ?_)
    refine lv_iconst (v := (0 : Int32)) hx hb dX4_cycle_19 (by decide) ?_
    refine lv_istore (lv' := [(5, .int (0 : Int32)), (4, .int (0 : Int32)), (3, .int t4.2), (2, .int t4.2), (1, .int t4.1), (0, .ref a0)]) hx hb dX4_cycle_20 hl (by decide) rfl (fun ls hl => ?_)
    have hl : lv_has ls 6 [(5, .int (0 : Int32)), (4, .int (bI false)), (3, .int t4.2), (2, .int t4.2), (1, .int t4.1), (0, .ref a0)] := hl
    refine klp hf (fun t22 : Int32 × Bool × Int32 => (wX4 cI a0 a1 a2 M SV MX ML MA MH)) 6 (fun t22 : Int32 × Bool × Int32 => [(5, .int t22.2.2), (4, .int (bI t22.2.1)), (3, .int t22.1), (2, .int t4.2), (1, .int t4.1), (0, .ref a0)]) ?_ hP hD hS hl
    intro t22 x22_ hf hI2 hO2 H locs ls hP hD hS hl
    unfold fX4_cycle_L22 at hf
    have hP : va_P D vwCl (wX4 cI a0 a1 a2 M SV MX ML MA MH) H := hP
    have hD : va_D A (wX4 cI a0 a1 a2 M SV MX ML MA MH) := hD
    have hl : lv_has ls 6 [(5, .int t22.2.2), (4, .int (bI t22.2.1)), (3, .int t22.1), (2, .int t4.2), (1, .int t4.1), (0, .ref a0)] := hl
    refine lv_iload hx hb dX4_cycle_22 (lv_at hl 0 rfl) ?_
    refine lv_iconst (v := (4 : Int32)) hx hb dX4_cycle_24 (by decide) ?_
    refine lv_icmp_ge (tgt := 76) hx hb dX4_cycle_25 (by decide) (fun c65 => ?_) (fun c65 => ?_)
    · have hf := kIfT c65 hf
      refine lv_iload_n hx hb dX4_cycle_76 rfl (lv_at hl 4 rfl) ?_
      refine lv_iload hx hb dX4_cycle_77 (lv_at hl 1 rfl) ?_
      refine kif_eqb (tgt := 88) hx hb dX4_cycle_79 (by decide) (fun c66 => ?_) (fun c66 => ?_)
      · have hf := kIfF c66 hf
        refine lv_iconst (v := (0 : Int32)) hx hb dX4_cycle_88 (by decide) ?_
        refine lv_ior hx hb dX4_cycle_89 ?_
        refine lv_istore_n (lv' := [(1, .int (t4.1 ||| (0 : Int32))), (5, .int t22.2.2), (4, .int (bI t22.2.1)), (3, .int t22.1), (2, .int t4.2), (0, .ref a0)]) hx hb dX4_cycle_90 rfl hl (by decide) rfl (fun ls hl => ?_)
        refine lv_iinc (v := t4.2 + (1 : Int32)) (lv' := [(2, .int (t4.2 + (1 : Int32))), (1, .int (t4.1 ||| (0 : Int32))), (5, .int t22.2.2), (4, .int (bI t22.2.1)), (3, .int t22.1), (0, .ref a0)]) hx hb dX4_cycle_91 hl (k := 4) rfl rfl (by decide) rfl (fun ls hl => ?_)
        refine lv_goto (tgt := 4) hx hb dX4_cycle_94 (by decide) ?_
        obtain ⟨z67, hz67⟩ : ∃ z : Int32, z = t4.1 ||| (0 : Int32) := ⟨_, rfl⟩
        rw [← hz67] at hf
        obtain ⟨z68, hz68⟩ : ∃ z : Int32, z = t4.2 + (1 : Int32) := ⟨_, rfl⟩
        rw [← hz68] at hf
        have he := (Option.some.inj hf).symm
        have he := (hO2 _ he).symm
        have hl : lv_has ls 6 [(2, .int z68), (1, .int z67), (0, .ref a0)] := by rw [hz67, hz68]; exact lv_sub hl [0, 1, 5] rfl
        exact hI1 _ he H locs ls hP hD hS hl
      · have hf := kIfT c66 hf
        refine lv_iconst (v := (1 : Int32)) hx hb dX4_cycle_82 (by decide) ?_
        refine lv_iload_n hx hb dX4_cycle_83 rfl (lv_at hl 3 rfl) ?_
        refine kishl hx hb dX4_cycle_84 ?_
        refine lv_goto (tgt := 89) hx hb dX4_cycle_85 (by decide) ?_
        refine lv_ior hx hb dX4_cycle_89 ?_
        refine lv_istore_n (lv' := [(1, .int (t4.1 ||| (jshl (1 : Int32) t4.2))), (5, .int t22.2.2), (4, .int (bI t22.2.1)), (3, .int t22.1), (2, .int t4.2), (0, .ref a0)]) hx hb dX4_cycle_90 rfl hl (by decide) rfl (fun ls hl => ?_)
        refine lv_iinc (v := t4.2 + (1 : Int32)) (lv' := [(2, .int (t4.2 + (1 : Int32))), (1, .int (t4.1 ||| (jshl (1 : Int32) t4.2))), (5, .int t22.2.2), (4, .int (bI t22.2.1)), (3, .int t22.1), (0, .ref a0)]) hx hb dX4_cycle_91 hl (k := 4) rfl rfl (by decide) rfl (fun ls hl => ?_)
        refine lv_goto (tgt := 4) hx hb dX4_cycle_94 (by decide) ?_
        obtain ⟨z69, hz69⟩ : ∃ z : Int32, z = t4.1 ||| (jshl (1 : Int32) t4.2) := ⟨_, rfl⟩
        rw [← hz69] at hf
        obtain ⟨z70, hz70⟩ : ∃ z : Int32, z = t4.2 + (1 : Int32) := ⟨_, rfl⟩
        rw [← hz70] at hf
        have he := (Option.some.inj hf).symm
        have he := (hO2 _ he).symm
        have hl : lv_has ls 6 [(2, .int z70), (1, .int z69), (0, .ref a0)] := by rw [hz69, hz70]; exact lv_sub hl [0, 1, 5] rfl
        exact hI1 _ he H locs ls hP hD hS hl
    · have hf := kIfF c65 hf
      refine lv_iload_n hx hb dX4_cycle_28 rfl (lv_at hl 2 rfl) ?_
      refine lv_bipush (v := (-100 : Int32)) hx hb dX4_cycle_29 (by decide) ?_
      refine lv_icmp_eq (tgt := 76) hx hb dX4_cycle_31 (by decide) (fun c71 => ?_) (fun c71 => ?_)
      · have hf := kIfT c71 hf
        refine lv_iload_n hx hb dX4_cycle_76 rfl (lv_at hl 4 rfl) ?_
        refine lv_iload hx hb dX4_cycle_77 (lv_at hl 1 rfl) ?_
        refine kif_eqb (tgt := 88) hx hb dX4_cycle_79 (by decide) (fun c72 => ?_) (fun c72 => ?_)
        · have hf := kIfF c72 hf
          refine lv_iconst (v := (0 : Int32)) hx hb dX4_cycle_88 (by decide) ?_
          refine lv_ior hx hb dX4_cycle_89 ?_
          refine lv_istore_n (lv' := [(1, .int (t4.1 ||| (0 : Int32))), (5, .int t22.2.2), (4, .int (bI t22.2.1)), (3, .int t22.1), (2, .int t4.2), (0, .ref a0)]) hx hb dX4_cycle_90 rfl hl (by decide) rfl (fun ls hl => ?_)
          refine lv_iinc (v := t4.2 + (1 : Int32)) (lv' := [(2, .int (t4.2 + (1 : Int32))), (1, .int (t4.1 ||| (0 : Int32))), (5, .int t22.2.2), (4, .int (bI t22.2.1)), (3, .int t22.1), (0, .ref a0)]) hx hb dX4_cycle_91 hl (k := 4) rfl rfl (by decide) rfl (fun ls hl => ?_)
          refine lv_goto (tgt := 4) hx hb dX4_cycle_94 (by decide) ?_
          obtain ⟨z73, hz73⟩ : ∃ z : Int32, z = t4.1 ||| (0 : Int32) := ⟨_, rfl⟩
          rw [← hz73] at hf
          obtain ⟨z74, hz74⟩ : ∃ z : Int32, z = t4.2 + (1 : Int32) := ⟨_, rfl⟩
          rw [← hz74] at hf
          have he := (Option.some.inj hf).symm
          have he := (hO2 _ he).symm
          have hl : lv_has ls 6 [(2, .int z74), (1, .int z73), (0, .ref a0)] := by rw [hz73, hz74]; exact lv_sub hl [0, 1, 5] rfl
          exact hI1 _ he H locs ls hP hD hS hl
        · have hf := kIfT c72 hf
          refine lv_iconst (v := (1 : Int32)) hx hb dX4_cycle_82 (by decide) ?_
          refine lv_iload_n hx hb dX4_cycle_83 rfl (lv_at hl 3 rfl) ?_
          refine kishl hx hb dX4_cycle_84 ?_
          refine lv_goto (tgt := 89) hx hb dX4_cycle_85 (by decide) ?_
          refine lv_ior hx hb dX4_cycle_89 ?_
          refine lv_istore_n (lv' := [(1, .int (t4.1 ||| (jshl (1 : Int32) t4.2))), (5, .int t22.2.2), (4, .int (bI t22.2.1)), (3, .int t22.1), (2, .int t4.2), (0, .ref a0)]) hx hb dX4_cycle_90 rfl hl (by decide) rfl (fun ls hl => ?_)
          refine lv_iinc (v := t4.2 + (1 : Int32)) (lv' := [(2, .int (t4.2 + (1 : Int32))), (1, .int (t4.1 ||| (jshl (1 : Int32) t4.2))), (5, .int t22.2.2), (4, .int (bI t22.2.1)), (3, .int t22.1), (0, .ref a0)]) hx hb dX4_cycle_91 hl (k := 4) rfl rfl (by decide) rfl (fun ls hl => ?_)
          refine lv_goto (tgt := 4) hx hb dX4_cycle_94 (by decide) ?_
          obtain ⟨z75, hz75⟩ : ∃ z : Int32, z = t4.1 ||| (jshl (1 : Int32) t4.2) := ⟨_, rfl⟩
          rw [← hz75] at hf
          obtain ⟨z76, hz76⟩ : ∃ z : Int32, z = t4.2 + (1 : Int32) := ⟨_, rfl⟩
          rw [← hz76] at hf
          have he := (Option.some.inj hf).symm
          have he := (hO2 _ he).symm
          have hl : lv_has ls 6 [(2, .int z76), (1, .int z75), (0, .ref a0)] := by rw [hz75, hz76]; exact lv_sub hl [0, 1, 5] rfl
          exact hI1 _ he H locs ls hP hD hS hl
      · have hf := kIfF c71 hf
        refine lv_iload hx hb dX4_cycle_34 (lv_at hl 1 rfl) ?_
        refine kif_neb (tgt := 76) hx hb dX4_cycle_36 (by decide) (fun c77 => ?_) (fun c77 => ?_)
        · have hf := kIfT c77 hf
          refine lv_iload_n hx hb dX4_cycle_76 rfl (lv_at hl 4 rfl) ?_
          refine lv_iload hx hb dX4_cycle_77 (lv_at hl 1 rfl) ?_
          refine kif_eqb (tgt := 88) hx hb dX4_cycle_79 (by decide) (fun c78 => ?_) (fun c78 => ?_)
          · have hf := kIfF c78 hf
            refine lv_iconst (v := (0 : Int32)) hx hb dX4_cycle_88 (by decide) ?_
            refine lv_ior hx hb dX4_cycle_89 ?_
            refine lv_istore_n (lv' := [(1, .int (t4.1 ||| (0 : Int32))), (5, .int t22.2.2), (4, .int (bI t22.2.1)), (3, .int t22.1), (2, .int t4.2), (0, .ref a0)]) hx hb dX4_cycle_90 rfl hl (by decide) rfl (fun ls hl => ?_)
            refine lv_iinc (v := t4.2 + (1 : Int32)) (lv' := [(2, .int (t4.2 + (1 : Int32))), (1, .int (t4.1 ||| (0 : Int32))), (5, .int t22.2.2), (4, .int (bI t22.2.1)), (3, .int t22.1), (0, .ref a0)]) hx hb dX4_cycle_91 hl (k := 4) rfl rfl (by decide) rfl (fun ls hl => ?_)
            refine lv_goto (tgt := 4) hx hb dX4_cycle_94 (by decide) ?_
            obtain ⟨z79, hz79⟩ : ∃ z : Int32, z = t4.1 ||| (0 : Int32) := ⟨_, rfl⟩
            rw [← hz79] at hf
            obtain ⟨z80, hz80⟩ : ∃ z : Int32, z = t4.2 + (1 : Int32) := ⟨_, rfl⟩
            rw [← hz80] at hf
            have he := (Option.some.inj hf).symm
            have he := (hO2 _ he).symm
            have hl : lv_has ls 6 [(2, .int z80), (1, .int z79), (0, .ref a0)] := by rw [hz79, hz80]; exact lv_sub hl [0, 1, 5] rfl
            exact hI1 _ he H locs ls hP hD hS hl
          · have hf := kIfT c78 hf
            refine lv_iconst (v := (1 : Int32)) hx hb dX4_cycle_82 (by decide) ?_
            refine lv_iload_n hx hb dX4_cycle_83 rfl (lv_at hl 3 rfl) ?_
            refine kishl hx hb dX4_cycle_84 ?_
            refine lv_goto (tgt := 89) hx hb dX4_cycle_85 (by decide) ?_
            refine lv_ior hx hb dX4_cycle_89 ?_
            refine lv_istore_n (lv' := [(1, .int (t4.1 ||| (jshl (1 : Int32) t4.2))), (5, .int t22.2.2), (4, .int (bI t22.2.1)), (3, .int t22.1), (2, .int t4.2), (0, .ref a0)]) hx hb dX4_cycle_90 rfl hl (by decide) rfl (fun ls hl => ?_)
            refine lv_iinc (v := t4.2 + (1 : Int32)) (lv' := [(2, .int (t4.2 + (1 : Int32))), (1, .int (t4.1 ||| (jshl (1 : Int32) t4.2))), (5, .int t22.2.2), (4, .int (bI t22.2.1)), (3, .int t22.1), (0, .ref a0)]) hx hb dX4_cycle_91 hl (k := 4) rfl rfl (by decide) rfl (fun ls hl => ?_)
            refine lv_goto (tgt := 4) hx hb dX4_cycle_94 (by decide) ?_
            obtain ⟨z81, hz81⟩ : ∃ z : Int32, z = t4.1 ||| (jshl (1 : Int32) t4.2) := ⟨_, rfl⟩
            rw [← hz81] at hf
            obtain ⟨z82, hz82⟩ : ∃ z : Int32, z = t4.2 + (1 : Int32) := ⟨_, rfl⟩
            rw [← hz82] at hf
            have he := (Option.some.inj hf).symm
            have he := (hO2 _ he).symm
            have hl : lv_has ls 6 [(2, .int z82), (1, .int z81), (0, .ref a0)] := by rw [hz81, hz82]; exact lv_sub hl [0, 1, 5] rfl
            exact hI1 _ he H locs ls hP hD hS hl
        · have hf := kIfF c77 hf
          refine lv_aload_n hx hb dX4_cycle_39 rfl (lv_at hl 5 rfl) ?_
          refine lv_iload_n hx hb dX4_cycle_40 rfl (lv_at hl 2 rfl) ?_
          obtain ⟨v83, h84, hf⟩ := kBind hf
          refine kgoR (krunV (wc := (wX4 cI a0 a1 a2 M SV MX ML MA MH)) (As := [.int t22.1]) (rest := []) (ci := 4) hx hb hml hown hts hK (kX4_isBlocked l D cI fu a0 a1 a2 M SV MX ML MA MH t22.1 v83 h84) gX4_cycle_X4_isBlocked rfl rfl rfl hdX4_isBlocked ⟨Nat.le_of_ble_eq_true rfl, Nat.le_of_ble_eq_true rfl⟩ hP hD rfl rfl rfl rfl hl.1 rfl (Nat.le_of_ble_eq_true rfl) dX4_cycle_41 ⟨Nat.zero_le _, Nat.zero_le _⟩) hP hD hS hA [0, 1, 2] rfl (fun H locs hP hS => ?_)
          refine kif_eqb (tgt := 55) hx hb dX4_cycle_44 (by decide) (fun c85 => ?_) (fun c85 => ?_)
          · have hf := kIfF c85 hf
            refine lv_bipush (v := (-100 : Int32)) hx hb dX4_cycle_55 (by decide) ?_
            refine lv_istore_n (lv' := [(3, .int (-100 : Int32)), (5, .int t22.2.2), (4, .int (bI t22.2.1)), (2, .int t4.2), (1, .int t4.1), (0, .ref a0)]) hx hb dX4_cycle_57 rfl hl (by decide) rfl (fun ls hl => ?_)
            refine lv_iload_n hx hb dX4_cycle_58 rfl (lv_at hl 0 rfl) ?_
            refine lv_iload_n hx hb dX4_cycle_59 rfl (lv_at hl 3 rfl) ?_
            refine lv_icmp_ne (tgt := 67) hx hb dX4_cycle_60 (by decide) (fun c86 => ?_) (fun c86 => ?_)
            · have hf := kIfF c86 hf
              refine lv_iconst (v := (0 : Int32)) hx hb dX4_cycle_67 (by decide) ?_
              refine lv_istore (lv' := [(4, .int (0 : Int32)), (3, .int (-100 : Int32)), (5, .int t22.2.2), (2, .int t4.2), (1, .int t4.1), (0, .ref a0)]) hx hb dX4_cycle_68 hl (by decide) rfl (fun ls hl => ?_)
              refine lv_iinc (v := t22.2.2 + (1 : Int32)) (lv' := [(5, .int (t22.2.2 + (1 : Int32))), (4, .int (0 : Int32)), (3, .int (-100 : Int32)), (2, .int t4.2), (1, .int t4.1), (0, .ref a0)]) hx hb dX4_cycle_70 hl (k := 2) rfl rfl (by decide) rfl (fun ls hl => ?_)
              refine lv_goto (tgt := 22) hx hb dX4_cycle_73 (by decide) ?_
              obtain ⟨z87, hz87⟩ : ∃ z : Int32, z = t22.2.2 + (1 : Int32) := ⟨_, rfl⟩
              rw [← hz87] at hf
              have he := (Option.some.inj hf).symm
              have hl : lv_has ls 6 [(5, .int z87), (4, .int (bI false)), (3, .int (-100 : Int32)), (2, .int t4.2), (1, .int t4.1), (0, .ref a0)] := by rw [hz87]; exact lv_sub hl [0, 1, 2, 3, 4, 5] rfl
              exact hI2 _ he H locs ls hP hD hS hl
            · have hf := kIfT c86 hf
              refine lv_iconst (v := (1 : Int32)) hx hb dX4_cycle_63 (by decide) ?_
              refine lv_goto (tgt := 68) hx hb dX4_cycle_64 (by decide) ?_
              refine lv_istore (lv' := [(4, .int (1 : Int32)), (3, .int (-100 : Int32)), (5, .int t22.2.2), (2, .int t4.2), (1, .int t4.1), (0, .ref a0)]) hx hb dX4_cycle_68 hl (by decide) rfl (fun ls hl => ?_)
              refine lv_iinc (v := t22.2.2 + (1 : Int32)) (lv' := [(5, .int (t22.2.2 + (1 : Int32))), (4, .int (1 : Int32)), (3, .int (-100 : Int32)), (2, .int t4.2), (1, .int t4.1), (0, .ref a0)]) hx hb dX4_cycle_70 hl (k := 2) rfl rfl (by decide) rfl (fun ls hl => ?_)
              refine lv_goto (tgt := 22) hx hb dX4_cycle_73 (by decide) ?_
              obtain ⟨z88, hz88⟩ : ∃ z : Int32, z = t22.2.2 + (1 : Int32) := ⟨_, rfl⟩
              rw [← hz88] at hf
              have he := (Option.some.inj hf).symm
              have hl : lv_has ls 6 [(5, .int z88), (4, .int (bI true)), (3, .int (-100 : Int32)), (2, .int t4.2), (1, .int t4.1), (0, .ref a0)] := by rw [hz88]; exact lv_sub hl [0, 1, 2, 3, 4, 5] rfl
              exact hI2 _ he H locs ls hP hD hS hl
          · have hf := kIfT c85 hf
            refine lv_aload_n hx hb dX4_cycle_47 rfl (lv_at hl 5 rfl) ?_
            refine lv_iload_n hx hb dX4_cycle_48 rfl (lv_at hl 2 rfl) ?_
            obtain ⟨v89, h90, hf⟩ := kBind hf
            refine kgoR (krunV (wc := (wX4 cI a0 a1 a2 M SV MX ML MA MH)) (As := [.int t22.1]) (rest := []) (ci := 4) hx hb hml hown hts hK (kX4_inWay l D cI fu a0 a1 a2 M SV MX ML MA MH t22.1 v89 h90) gX4_cycle_X4_inWay rfl rfl rfl hdX4_inWay ⟨Nat.le_of_ble_eq_true rfl, Nat.le_of_ble_eq_true rfl⟩ hP hD rfl rfl rfl rfl hl.1 rfl (Nat.le_of_ble_eq_true rfl) dX4_cycle_49 ⟨Nat.zero_le _, Nat.zero_le _⟩) hP hD hS hA [0, 1, 2] rfl (fun H locs hP hS => ?_)
            refine lv_goto (tgt := 57) hx hb dX4_cycle_52 (by decide) ?_
            refine lv_istore_n (lv' := [(3, .int v89), (5, .int t22.2.2), (4, .int (bI t22.2.1)), (2, .int t4.2), (1, .int t4.1), (0, .ref a0)]) hx hb dX4_cycle_57 rfl hl (by decide) rfl (fun ls hl => ?_)
            refine lv_iload_n hx hb dX4_cycle_58 rfl (lv_at hl 0 rfl) ?_
            refine lv_iload_n hx hb dX4_cycle_59 rfl (lv_at hl 3 rfl) ?_
            refine lv_icmp_ne (tgt := 67) hx hb dX4_cycle_60 (by decide) (fun c91 => ?_) (fun c91 => ?_)
            · have hf := kIfF c91 hf
              refine lv_iconst (v := (0 : Int32)) hx hb dX4_cycle_67 (by decide) ?_
              refine lv_istore (lv' := [(4, .int (0 : Int32)), (3, .int v89), (5, .int t22.2.2), (2, .int t4.2), (1, .int t4.1), (0, .ref a0)]) hx hb dX4_cycle_68 hl (by decide) rfl (fun ls hl => ?_)
              refine lv_iinc (v := t22.2.2 + (1 : Int32)) (lv' := [(5, .int (t22.2.2 + (1 : Int32))), (4, .int (0 : Int32)), (3, .int v89), (2, .int t4.2), (1, .int t4.1), (0, .ref a0)]) hx hb dX4_cycle_70 hl (k := 2) rfl rfl (by decide) rfl (fun ls hl => ?_)
              refine lv_goto (tgt := 22) hx hb dX4_cycle_73 (by decide) ?_
              obtain ⟨z92, hz92⟩ : ∃ z : Int32, z = t22.2.2 + (1 : Int32) := ⟨_, rfl⟩
              rw [← hz92] at hf
              have he := (Option.some.inj hf).symm
              have hl : lv_has ls 6 [(5, .int z92), (4, .int (bI false)), (3, .int v89), (2, .int t4.2), (1, .int t4.1), (0, .ref a0)] := by rw [hz92]; exact lv_sub hl [0, 1, 2, 3, 4, 5] rfl
              exact hI2 _ he H locs ls hP hD hS hl
            · have hf := kIfT c91 hf
              refine lv_iconst (v := (1 : Int32)) hx hb dX4_cycle_63 (by decide) ?_
              refine lv_goto (tgt := 68) hx hb dX4_cycle_64 (by decide) ?_
              refine lv_istore (lv' := [(4, .int (1 : Int32)), (3, .int v89), (5, .int t22.2.2), (2, .int t4.2), (1, .int t4.1), (0, .ref a0)]) hx hb dX4_cycle_68 hl (by decide) rfl (fun ls hl => ?_)
              refine lv_iinc (v := t22.2.2 + (1 : Int32)) (lv' := [(5, .int (t22.2.2 + (1 : Int32))), (4, .int (1 : Int32)), (3, .int v89), (2, .int t4.2), (1, .int t4.1), (0, .ref a0)]) hx hb dX4_cycle_70 hl (k := 2) rfl rfl (by decide) rfl (fun ls hl => ?_)
              refine lv_goto (tgt := 22) hx hb dX4_cycle_73 (by decide) ?_
              obtain ⟨z93, hz93⟩ : ∃ z : Int32, z = t22.2.2 + (1 : Int32) := ⟨_, rfl⟩
              rw [← hz93] at hf
              have he := (Option.some.inj hf).symm
              have hl : lv_has ls 6 [(5, .int z93), (4, .int (bI true)), (3, .int v89), (2, .int t4.2), (1, .int t4.1), (0, .ref a0)] := by rw [hz93]; exact lv_sub hl [0, 1, 2, 3, 4, 5] rfl
              exact hI2 _ he H locs ls hP hD hS hl
set_option maxHeartbeats 4000000 in
set_option maxRecDepth 100000 in
theorem kX4_mixes (l : Launch) (D : va_G) (cI : ClassId) (a0 a1 a2 : Nat) (M : (Nat → Int32)) (SV : Int32) (MX : (Nat → Int32)) (ML : Int32) (MA : Int32) (MH : Int64) (x1 : Int32) (o : Int64) (hf : fX4_mixes MH x1 = some o) : Ct l yX4_mixes wsX4_mixes { frames := 0, cells := 0, slots := 0, locals := 0 } D cI [.ref a0, .int x1] (wX4 cI a0 a1 a2 M SV MX ML MA MH) (wX4 cI a0 a1 a2 M SV MX ML MA o) none := by
  refine Ct.of (cc := cX4_mixes) (maxL := 2) (ret := none) (by decide) rfl (Nat.le_of_ble_eq_true rfl) ?_
  intro p e s m args below meth c A F hP hD hS ls hl
  obtain ⟨hx, hb, hml, hr, hown, hts, hlk, hK, hA⟩ := F
  have hown : s.vm.findClass RX4 = some m.cls := hown
  have hl : lv_has ls 2 [(0, .ref a0), (1, .int x1)] := hl
  have hinX4 : ∀ w ∈ wsX40, w ∈ wsX4_mixes := by decide +kernel
  have hfl139 := hts (.fieldLink RX4 139 "CraneGuardModel" "h" "J") (by decide +kernel)
  unfold fX4_mixes at hf
  refine lv_aload_n hx hb dX4_mixes_0 rfl (lv_at hl 0 rfl) ?_
  refine lv_ldc2 (v := (31 : Int64)) hx hb hown (hts (.constantLong RX4 137 (31)) (by decide +kernel)) dX4_mixes_1 ?_
  refine lv_aload_n hx hb dX4_mixes_4 rfl (lv_at hl 0 rfl) ?_
  refine va_get (D := D) (ci := 4) (v := .long MH) (C := RX4) (T := TX4) (N := 6) hx hb hts hinX4 hown hK.1 hP 0 rfl rfl 5 (by decide) hfl139 (fun _ h9 => h9) rfl dX4_mixes_5 ?_
  refine lv_lmul hx hb dX4_mixes_8 ?_
  refine lv_iload_n hx hb dX4_mixes_9 rfl (lv_at hl 1 rfl) ?_
  refine lv_i2l hx hb dX4_mixes_10 rfl ?_
  refine lv_ladd hx hb dX4_mixes_11 ?_
  refine va_put (D := D) (ci := 4) (v := .long (((31 : Int64) * MH) + (Int32.toInt64 x1))) (ty := .long) (C := RX4) (T := TX4) (N := 6) hx hb hts hinX4 tyX4 tyX4_ok nmX4 hown hK.1 hP hD hS 0 rfl rfl 5 (by decide) hfl139 (fun _ h9 => h9) rfl (by decide +kernel) rfl rfl (Nat.le_of_ble_eq_true rfl) dX4_mixes_12 (fun H locs hP hD hS => ?_)
  have hP : va_P D vwCl (wX4 cI a0 a1 a2 M SV MX ML MA (((31 : Int64) * MH) + (Int32.toInt64 x1))) H := hP
  have hD : va_D A (wX4 cI a0 a1 a2 M SV MX ML MA (((31 : Int64) * MH) + (Int32.toInt64 x1))) := hD
  obtain ⟨z1, hz1⟩ : ∃ z : Int64, z = ((31 : Int64) * MH) + (Int32.toInt64 x1) := ⟨_, rfl⟩
  rw [← hz1] at hf
  have hP : va_P D vwCl (wX4 cI a0 a1 a2 M SV MX ML MA z1) H := by rw [hz1]; exact hP
  have hD : va_D A (wX4 cI a0 a1 a2 M SV MX ML MA z1) := by rw [hz1]; exact hD
  have he := Option.some.inj hf
  subst he
  exact kretv hx hb hr hlk hP hD hS dX4_mixes_15
set_option maxHeartbeats 4000000 in
set_option maxRecDepth 100000 in
theorem kX4_digest (l : Launch) (D : va_G) (cI : ClassId) (fu : Nat) (a0 a1 a2 : Nat) (M : (Nat → Int32)) (SV : Int32) (MX : (Nat → Int32)) (ML : Int32) (MA : Int32) (MH : Int64) (o : Int64 × Int64) (hf : fX4_digest fu M = some o) : Ct l yX4_digest wsX4_digest { frames := 5, cells := 0, slots := 0, locals := 114 } D cI [.ref a0] (wX4 cI a0 a1 a2 M SV MX ML MA MH) (wX4 cI a0 a1 a2 M SV MX ML MA o.2) (some (.long o.1)) := by
  refine Ct.of (cc := cX4_digest) (maxL := 3) (ret := (some .long)) (by decide) rfl (Nat.le_of_ble_eq_true rfl) ?_
  intro p e s m args below meth c A F hP hD hS ls hl
  obtain ⟨hx, hb, hml, hr, hown, hts, hlk, hK, hA⟩ := F
  have hown : s.vm.findClass RX4 = some m.cls := hown
  have hl : lv_has ls 3 [(0, .ref a0)] := hl
  have hinX4 : ∀ w ∈ wsX40, w ∈ wsX4_digest := by decide +kernel
  have hfl7 := hts (.fieldLink RX4 7 "CraneGuardModel" "row" "[I") (by decide +kernel)
  have hfl139 := hts (.fieldLink RX4 139 "CraneGuardModel" "h" "J") (by decide +kernel)
  unfold fX4_digest at hf
  refine lv_aload_n hx hb dX4_digest_0 rfl (lv_at hl 0 rfl) ?_
  refine lv_ldc2 (v := (17 : Int64)) hx hb hown (hts (.constantLong RX4 143 (17)) (by decide +kernel)) dX4_digest_1 ?_
  refine va_put (D := D) (ci := 4) (v := .long (17 : Int64)) (ty := .long) (C := RX4) (T := TX4) (N := 6) hx hb hts hinX4 tyX4 tyX4_ok nmX4 hown hK.1 hP hD hS 0 rfl rfl 5 (by decide) hfl139 (fun _ h9 => h9) rfl (by decide +kernel) rfl rfl (Nat.le_of_ble_eq_true rfl) dX4_digest_4 (fun H locs hP hD hS => ?_)
  have hP : va_P D vwCl (wX4 cI a0 a1 a2 M SV MX ML MA (17 : Int64)) H := hP
  have hD : va_D A (wX4 cI a0 a1 a2 M SV MX ML MA (17 : Int64)) := hD
  refine lv_aload_n hx hb dX4_digest_7 rfl (lv_at hl 0 rfl) ?_
  refine lv_aload_n hx hb dX4_digest_8 rfl (lv_at hl 0 rfl) ?_
  refine va_get (D := D) (ci := 4) (v := .ref a1) (C := RX4) (T := TX4) (N := 6) hx hb hts hinX4 hown hK.1 hP 0 rfl rfl 0 (by decide) hfl7 (fun _ h9 => h9) rfl dX4_digest_9 ?_
  refine lv_iconst (v := (0 : Int32)) hx hb dX4_digest_12 (by decide) ?_
  obtain ⟨v1, h2, hf⟩ := kBind hf
  refine krd hx hb hK hP 1 rfl h2 dX4_digest_13 ?_
  obtain ⟨v3, h4, hf⟩ := kBind hf
  refine kgoA (krunV (wc := (wX4 cI a0 a1 a2 M SV MX ML MA (17 : Int64))) (As := [.int v1]) (rest := []) (ci := 4) hx hb hml hown hts hK (kX4_mixes l D cI a0 a1 a2 M SV MX ML MA (17 : Int64) v1 v3 h4) gX4_digest_X4_mixes rfl rfl rfl hdX4_mixes ⟨Nat.le_of_ble_eq_true rfl, Nat.le_of_ble_eq_true rfl⟩ hP hD rfl rfl rfl rfl hl.1 rfl (Nat.le_of_ble_eq_true rfl) dX4_digest_14 ⟨Nat.zero_le _, Nat.zero_le _⟩) hD hS hA (fun H locs hP hD hS => ?_)
  refine lv_aload_n hx hb dX4_digest_17 rfl (lv_at hl 0 rfl) ?_
  refine lv_aload_n hx hb dX4_digest_18 rfl (lv_at hl 0 rfl) ?_
  refine va_get (D := D) (ci := 4) (v := .ref a1) (C := RX4) (T := TX4) (N := 6) hx hb hts hinX4 hown hK.1 hP 0 rfl rfl 0 (by decide) hfl7 (fun _ h9 => h9) rfl dX4_digest_19 ?_
  refine lv_iconst (v := (1 : Int32)) hx hb dX4_digest_22 (by decide) ?_
  obtain ⟨v5, h6, hf⟩ := kBind hf
  refine krd hx hb hK hP 1 rfl h6 dX4_digest_23 ?_
  obtain ⟨v7, h8, hf⟩ := kBind hf
  refine kgoA (krunV (wc := (wX4 cI a0 a1 a2 M SV MX ML MA v3)) (As := [.int v5]) (rest := []) (ci := 4) hx hb hml hown hts hK (kX4_mixes l D cI a0 a1 a2 M SV MX ML MA v3 v5 v7 h8) gX4_digest_X4_mixes rfl rfl rfl hdX4_mixes ⟨Nat.le_of_ble_eq_true rfl, Nat.le_of_ble_eq_true rfl⟩ hP hD rfl rfl rfl rfl hl.1 rfl (Nat.le_of_ble_eq_true rfl) dX4_digest_24 ⟨Nat.zero_le _, Nat.zero_le _⟩) hD hS hA (fun H locs hP hD hS => ?_)
  refine lv_aload_n hx hb dX4_digest_27 rfl (lv_at hl 0 rfl) ?_
  refine lv_aload_n hx hb dX4_digest_28 rfl (lv_at hl 0 rfl) ?_
  refine va_get (D := D) (ci := 4) (v := .ref a1) (C := RX4) (T := TX4) (N := 6) hx hb hts hinX4 hown hK.1 hP 0 rfl rfl 0 (by decide) hfl7 (fun _ h9 => h9) rfl dX4_digest_29 ?_
  refine lv_iconst (v := (2 : Int32)) hx hb dX4_digest_32 (by decide) ?_
  obtain ⟨v9, h10, hf⟩ := kBind hf
  refine krd hx hb hK hP 1 rfl h10 dX4_digest_33 ?_
  obtain ⟨v11, h12, hf⟩ := kBind hf
  refine kgoA (krunV (wc := (wX4 cI a0 a1 a2 M SV MX ML MA v7)) (As := [.int v9]) (rest := []) (ci := 4) hx hb hml hown hts hK (kX4_mixes l D cI a0 a1 a2 M SV MX ML MA v7 v9 v11 h12) gX4_digest_X4_mixes rfl rfl rfl hdX4_mixes ⟨Nat.le_of_ble_eq_true rfl, Nat.le_of_ble_eq_true rfl⟩ hP hD rfl rfl rfl rfl hl.1 rfl (Nat.le_of_ble_eq_true rfl) dX4_digest_34 ⟨Nat.zero_le _, Nat.zero_le _⟩) hD hS hA (fun H locs hP hD hS => ?_)
  refine lv_iconst (v := (0 : Int32)) hx hb dX4_digest_37 (by decide) ?_
  refine lv_istore_n (lv' := [(1, .int (0 : Int32)), (0, .ref a0)]) hx hb dX4_digest_38 rfl hl (by decide) rfl (fun ls hl => ?_)
  have hl : lv_has ls 3 [(1, .int (0 : Int32)), (0, .ref a0)] := hl
  refine klp hf (fun t39 : Int64 × Int32 => (wX4 cI a0 a1 a2 M SV MX ML MA t39.1)) 3 (fun t39 : Int64 × Int32 => [(1, .int t39.2), (0, .ref a0)]) ?_ hP hD hS hl
  intro t39 x39_ hf hI1 hO1 H locs ls hP hD hS hl
  unfold fX4_digest_L39 at hf
  have hP : va_P D vwCl (wX4 cI a0 a1 a2 M SV MX ML MA t39.1) H := hP
  have hD : va_D A (wX4 cI a0 a1 a2 M SV MX ML MA t39.1) := hD
  have hl : lv_has ls 3 [(1, .int t39.2), (0, .ref a0)] := hl
  refine lv_iload_n hx hb dX4_digest_39 rfl (lv_at hl 0 rfl) ?_
  refine lv_aload_n hx hb dX4_digest_40 rfl (lv_at hl 1 rfl) ?_
  refine va_get (D := D) (ci := 4) (v := .ref a1) (C := RX4) (T := TX4) (N := 6) hx hb hts hinX4 hown hK.1 hP 0 rfl rfl 0 (by decide) hfl7 (fun _ h9 => h9) rfl dX4_digest_41 ?_
  refine lv_iconst (v := (2 : Int32)) hx hb dX4_digest_44 (by decide) ?_
  obtain ⟨v69, h70, hf⟩ := kBind hf
  refine krd hx hb hK hP 1 rfl h70 dX4_digest_45 ?_
  refine lv_icmp_ge (tgt := 106) hx hb dX4_digest_46 (by decide) (fun c71 => ?_) (fun c71 => ?_)
  · have hf := kIfT c71 hf
    refine lv_aload_n hx hb dX4_digest_106 rfl (lv_at hl 1 rfl) ?_
    refine lv_aload_n hx hb dX4_digest_107 rfl (lv_at hl 1 rfl) ?_
    refine va_get (D := D) (ci := 4) (v := .ref a1) (C := RX4) (T := TX4) (N := 6) hx hb hts hinX4 hown hK.1 hP 0 rfl rfl 0 (by decide) hfl7 (fun _ h9 => h9) rfl dX4_digest_108 ?_
    refine lv_iconst (v := (3 : Int32)) hx hb dX4_digest_111 (by decide) ?_
    obtain ⟨v72, h73, hf⟩ := kBind hf
    refine krd hx hb hK hP 1 rfl h73 dX4_digest_112 ?_
    obtain ⟨v74, h75, hf⟩ := kBind hf
    refine kgoA (krunV (wc := (wX4 cI a0 a1 a2 M SV MX ML MA t39.1)) (As := [.int v72]) (rest := []) (ci := 4) hx hb hml hown hts hK (kX4_mixes l D cI a0 a1 a2 M SV MX ML MA t39.1 v72 v74 h75) gX4_digest_X4_mixes rfl rfl rfl hdX4_mixes ⟨Nat.le_of_ble_eq_true rfl, Nat.le_of_ble_eq_true rfl⟩ hP hD rfl rfl rfl rfl hl.1 rfl (Nat.le_of_ble_eq_true rfl) dX4_digest_113 ⟨Nat.zero_le _, Nat.zero_le _⟩) hD hS hA (fun H locs hP hD hS => ?_)
    refine lv_iconst (v := (0 : Int32)) hx hb dX4_digest_116 (by decide) ?_
    refine lv_istore_n (lv' := [(1, .int (0 : Int32)), (0, .ref a0)]) hx hb dX4_digest_117 rfl hl (by decide) rfl (fun ls hl => ?_)
    have hl : lv_has ls 3 [(1, .int (0 : Int32)), (0, .ref a0)] := hl
    refine klp hf (fun t118 : Int64 × Int32 => (wX4 cI a0 a1 a2 M SV MX ML MA t118.1)) 3 (fun t118 : Int64 × Int32 => [(1, .int t118.2), (0, .ref a0)]) ?_ hP hD hS hl
    intro t118 x118_ hf hI2 hO2 H locs ls hP hD hS hl
    unfold fX4_digest_L118 at hf
    have hP : va_P D vwCl (wX4 cI a0 a1 a2 M SV MX ML MA t118.1) H := hP
    have hD : va_D A (wX4 cI a0 a1 a2 M SV MX ML MA t118.1) := hD
    have hl : lv_has ls 3 [(1, .int t118.2), (0, .ref a0)] := hl
    refine lv_iload_n hx hb dX4_digest_118 rfl (lv_at hl 0 rfl) ?_
    refine lv_iconst (v := (4 : Int32)) hx hb dX4_digest_119 (by decide) ?_
    refine lv_aload_n hx hb dX4_digest_120 rfl (lv_at hl 1 rfl) ?_
    refine va_get (D := D) (ci := 4) (v := .ref a1) (C := RX4) (T := TX4) (N := 6) hx hb hts hinX4 hown hK.1 hP 0 rfl rfl 0 (by decide) hfl7 (fun _ h9 => h9) rfl dX4_digest_121 ?_
    refine lv_iconst (v := (3 : Int32)) hx hb dX4_digest_124 (by decide) ?_
    obtain ⟨v76, h77, hf⟩ := kBind hf
    refine krd hx hb hK hP 1 rfl h77 dX4_digest_125 ?_
    refine lv_imul hx hb dX4_digest_126 ?_
    refine lv_icmp_ge (tgt := 149) hx hb dX4_digest_127 (by decide) (fun c78 => ?_) (fun c78 => ?_)
    · have hf := kIfT c78 hf
      refine lv_aload_n hx hb dX4_digest_149 rfl (lv_at hl 1 rfl) ?_
      refine va_get (D := D) (ci := 4) (v := .long t118.1) (C := RX4) (T := TX4) (N := 6) hx hb hts hinX4 hown hK.1 hP 0 rfl rfl 5 (by decide) hfl139 (fun _ h9 => h9) rfl dX4_digest_150 ?_
      have he := Option.some.inj hf
      have he := hO2 _ he.symm
      have he := hO1 _ he.symm
      subst he
      exact kretl hx hb hr hlk hP hD hS dX4_digest_153
    · have hf := kIfF c78 hf
      refine lv_aload_n hx hb dX4_digest_130 rfl (lv_at hl 1 rfl) ?_
      refine lv_aload_n hx hb dX4_digest_131 rfl (lv_at hl 1 rfl) ?_
      refine va_get (D := D) (ci := 4) (v := .ref a1) (C := RX4) (T := TX4) (N := 6) hx hb hts hinX4 hown hK.1 hP 0 rfl rfl 0 (by decide) hfl7 (fun _ h9 => h9) rfl dX4_digest_132 ?_
      refine lv_bipush (v := (88 : Int32)) hx hb dX4_digest_135 (by decide) ?_
      refine lv_iload_n hx hb dX4_digest_137 rfl (lv_at hl 0 rfl) ?_
      refine lv_iadd hx hb dX4_digest_138 ?_
      obtain ⟨v79, h80, hf⟩ := kBind hf
      refine krd hx hb hK hP 1 rfl h80 dX4_digest_139 ?_
      obtain ⟨v81, h82, hf⟩ := kBind hf
      refine kgoA (krunV (wc := (wX4 cI a0 a1 a2 M SV MX ML MA t118.1)) (As := [.int v79]) (rest := []) (ci := 4) hx hb hml hown hts hK (kX4_mixes l D cI a0 a1 a2 M SV MX ML MA t118.1 v79 v81 h82) gX4_digest_X4_mixes rfl rfl rfl hdX4_mixes ⟨Nat.le_of_ble_eq_true rfl, Nat.le_of_ble_eq_true rfl⟩ hP hD rfl rfl rfl rfl hl.1 rfl (Nat.le_of_ble_eq_true rfl) dX4_digest_140 ⟨Nat.zero_le _, Nat.zero_le _⟩) hD hS hA (fun H locs hP hD hS => ?_)
      refine lv_iinc (v := t118.2 + (1 : Int32)) (lv' := [(1, .int (t118.2 + (1 : Int32))), (0, .ref a0)]) hx hb dX4_digest_143 hl (k := 0) rfl rfl (by decide) rfl (fun ls hl => ?_)
      refine lv_goto (tgt := 118) hx hb dX4_digest_146 (by decide) ?_
      obtain ⟨z83, hz83⟩ : ∃ z : Int32, z = t118.2 + (1 : Int32) := ⟨_, rfl⟩
      rw [← hz83] at hf
      have he := (Option.some.inj hf).symm
      have hl : lv_has ls 3 [(1, .int z83), (0, .ref a0)] := by rw [hz83]; exact lv_sub hl [0, 1] rfl
      exact hI2 _ he H locs ls hP hD hS hl
  · have hf := kIfF c71 hf
    refine lv_iconst (v := (0 : Int32)) hx hb dX4_digest_49 (by decide) ?_
    refine lv_istore_n (lv' := [(2, .int (0 : Int32)), (1, .int t39.2), (0, .ref a0)]) hx hb dX4_digest_50 rfl hl (by decide) rfl (fun ls hl => ?_)
    have hl : lv_has ls 3 [(2, .int (0 : Int32)), (1, .int t39.2), (0, .ref a0)] := hl
    refine klp hf (fun t51 : Int64 × Int32 => (wX4 cI a0 a1 a2 M SV MX ML MA t51.1)) 3 (fun t51 : Int64 × Int32 => [(2, .int t51.2), (1, .int t39.2), (0, .ref a0)]) ?_ hP hD hS hl
    intro t51 x51_ hf hI2 hO2 H locs ls hP hD hS hl
    unfold fX4_digest_L51 at hf
    have hP : va_P D vwCl (wX4 cI a0 a1 a2 M SV MX ML MA t51.1) H := hP
    have hD : va_D A (wX4 cI a0 a1 a2 M SV MX ML MA t51.1) := hD
    have hl : lv_has ls 3 [(2, .int t51.2), (1, .int t39.2), (0, .ref a0)] := hl
    refine lv_iload_n hx hb dX4_digest_51 rfl (lv_at hl 0 rfl) ?_
    refine lv_bipush (v := (10 : Int32)) hx hb dX4_digest_52 (by decide) ?_
    refine lv_icmp_ge (tgt := 73) hx hb dX4_digest_54 (by decide) (fun c84 => ?_) (fun c84 => ?_)
    · have hf := kIfT c84 hf
      refine lv_iconst (v := (0 : Int32)) hx hb dX4_digest_73 (by decide) ?_
      refine lv_istore_n (lv' := [(2, .int (0 : Int32)), (1, .int t39.2), (0, .ref a0)]) hx hb dX4_digest_74 rfl hl (by decide) rfl (fun ls hl => ?_)
      have hl : lv_has ls 3 [(2, .int (0 : Int32)), (1, .int t39.2), (0, .ref a0)] := hl
      refine klp hf (fun t75 : Int64 × Int32 => (wX4 cI a0 a1 a2 M SV MX ML MA t75.1)) 3 (fun t75 : Int64 × Int32 => [(2, .int t75.2), (1, .int t39.2), (0, .ref a0)]) ?_ hP hD hS hl
      intro t75 x75_ hf hI3 hO3 H locs ls hP hD hS hl
      unfold fX4_digest_L75 at hf
      have hP : va_P D vwCl (wX4 cI a0 a1 a2 M SV MX ML MA t75.1) H := hP
      have hD : va_D A (wX4 cI a0 a1 a2 M SV MX ML MA t75.1) := hD
      have hl : lv_has ls 3 [(2, .int t75.2), (1, .int t39.2), (0, .ref a0)] := hl
      refine lv_iload_n hx hb dX4_digest_75 rfl (lv_at hl 0 rfl) ?_
      refine lv_bipush (v := (12 : Int32)) hx hb dX4_digest_76 (by decide) ?_
      refine lv_icmp_ge (tgt := 100) hx hb dX4_digest_78 (by decide) (fun c85 => ?_) (fun c85 => ?_)
      · have hf := kIfT c85 hf
        refine lv_iinc (v := t39.2 + (1 : Int32)) (lv' := [(1, .int (t39.2 + (1 : Int32))), (2, .int t75.2), (0, .ref a0)]) hx hb dX4_digest_100 hl (k := 1) rfl rfl (by decide) rfl (fun ls hl => ?_)
        refine lv_goto (tgt := 39) hx hb dX4_digest_103 (by decide) ?_
        obtain ⟨z86, hz86⟩ : ∃ z : Int32, z = t39.2 + (1 : Int32) := ⟨_, rfl⟩
        rw [← hz86] at hf
        have he := (Option.some.inj hf).symm
        have he := (hO3 _ he).symm
        have he := (hO2 _ he).symm
        have hl : lv_has ls 3 [(1, .int z86), (0, .ref a0)] := by rw [hz86]; exact lv_sub hl [0, 2] rfl
        exact hI1 _ he H locs ls hP hD hS hl
      · have hf := kIfF c85 hf
        refine lv_aload_n hx hb dX4_digest_81 rfl (lv_at hl 2 rfl) ?_
        refine lv_aload_n hx hb dX4_digest_82 rfl (lv_at hl 2 rfl) ?_
        refine lv_iload_n hx hb dX4_digest_83 rfl (lv_at hl 1 rfl) ?_
        refine lv_bipush (v := (9 : Int32)) hx hb dX4_digest_84 (by decide) ?_
        refine lv_iload_n hx hb dX4_digest_86 rfl (lv_at hl 0 rfl) ?_
        refine lv_iadd hx hb dX4_digest_87 ?_
        obtain ⟨v87, h88, hf⟩ := kBind hf
        refine kgoR (krunV (wc := (wX4 cI a0 a1 a2 M SV MX ML MA t75.1)) (As := [.int t39.2, .int ((9 : Int32) + t75.2)]) (rest := [.ref a0]) (ci := 4) hx hb hml hown hts hK (kX4_of l D cI a0 a1 a2 M SV MX ML MA t75.1 t39.2 ((9 : Int32) + t75.2) v87 h88) gX4_digest_X4_of rfl rfl rfl hdX4_of ⟨Nat.le_of_ble_eq_true rfl, Nat.le_of_ble_eq_true rfl⟩ hP hD rfl rfl rfl rfl hl.1 rfl (Nat.le_of_ble_eq_true rfl) dX4_digest_88 ⟨Nat.zero_le _, Nat.zero_le _⟩) hP hD hS hA [0, 1, 2] rfl (fun H locs hP hS => ?_)
        obtain ⟨v89, h90, hf⟩ := kBind hf
        refine kgoA (krunV (wc := (wX4 cI a0 a1 a2 M SV MX ML MA t75.1)) (As := [.int v87]) (rest := []) (ci := 4) hx hb hml hown hts hK (kX4_mixes l D cI a0 a1 a2 M SV MX ML MA t75.1 v87 v89 h90) gX4_digest_X4_mixes rfl rfl rfl hdX4_mixes ⟨Nat.le_of_ble_eq_true rfl, Nat.le_of_ble_eq_true rfl⟩ hP hD rfl rfl rfl rfl hl.1 rfl (Nat.le_of_ble_eq_true rfl) dX4_digest_91 ⟨Nat.zero_le _, Nat.zero_le _⟩) hD hS hA (fun H locs hP hD hS => ?_)
        refine lv_iinc (v := t75.2 + (1 : Int32)) (lv' := [(2, .int (t75.2 + (1 : Int32))), (1, .int t39.2), (0, .ref a0)]) hx hb dX4_digest_94 hl (k := 0) rfl rfl (by decide) rfl (fun ls hl => ?_)
        refine lv_goto (tgt := 75) hx hb dX4_digest_97 (by decide) ?_
        obtain ⟨z91, hz91⟩ : ∃ z : Int32, z = t75.2 + (1 : Int32) := ⟨_, rfl⟩
        rw [← hz91] at hf
        have he := (Option.some.inj hf).symm
        have hl : lv_has ls 3 [(2, .int z91), (1, .int t39.2), (0, .ref a0)] := by rw [hz91]; exact lv_sub hl [0, 1, 2] rfl
        exact hI3 _ he H locs ls hP hD hS hl
    · have hf := kIfF c84 hf
      refine lv_aload_n hx hb dX4_digest_57 rfl (lv_at hl 2 rfl) ?_
      refine lv_aload_n hx hb dX4_digest_58 rfl (lv_at hl 2 rfl) ?_
      refine lv_iload_n hx hb dX4_digest_59 rfl (lv_at hl 1 rfl) ?_
      refine lv_iload_n hx hb dX4_digest_60 rfl (lv_at hl 0 rfl) ?_
      obtain ⟨v92, h93, hf⟩ := kBind hf
      refine kgoR (krunV (wc := (wX4 cI a0 a1 a2 M SV MX ML MA t51.1)) (As := [.int t39.2, .int t51.2]) (rest := [.ref a0]) (ci := 4) hx hb hml hown hts hK (kX4_property l D cI fu a0 a1 a2 M SV MX ML MA t51.1 t39.2 t51.2 v92 h93) gX4_digest_X4_property rfl rfl rfl hdX4_property ⟨Nat.le_of_ble_eq_true rfl, Nat.le_of_ble_eq_true rfl⟩ hP hD rfl rfl rfl rfl hl.1 rfl (Nat.le_of_ble_eq_true rfl) dX4_digest_61 ⟨Nat.zero_le _, Nat.zero_le _⟩) hP hD hS hA [0, 1, 2] rfl (fun H locs hP hS => ?_)
      obtain ⟨v94, h95, hf⟩ := kBind hf
      refine kgoA (krunV (wc := (wX4 cI a0 a1 a2 M SV MX ML MA t51.1)) (As := [.int v92]) (rest := []) (ci := 4) hx hb hml hown hts hK (kX4_mixes l D cI a0 a1 a2 M SV MX ML MA t51.1 v92 v94 h95) gX4_digest_X4_mixes rfl rfl rfl hdX4_mixes ⟨Nat.le_of_ble_eq_true rfl, Nat.le_of_ble_eq_true rfl⟩ hP hD rfl rfl rfl rfl hl.1 rfl (Nat.le_of_ble_eq_true rfl) dX4_digest_64 ⟨Nat.zero_le _, Nat.zero_le _⟩) hD hS hA (fun H locs hP hD hS => ?_)
      refine lv_iinc (v := t51.2 + (1 : Int32)) (lv' := [(2, .int (t51.2 + (1 : Int32))), (1, .int t39.2), (0, .ref a0)]) hx hb dX4_digest_67 hl (k := 0) rfl rfl (by decide) rfl (fun ls hl => ?_)
      refine lv_goto (tgt := 51) hx hb dX4_digest_70 (by decide) ?_
      obtain ⟨z96, hz96⟩ : ∃ z : Int32, z = t51.2 + (1 : Int32) := ⟨_, rfl⟩
      rw [← hz96] at hf
      have he := (Option.some.inj hf).symm
      have hl : lv_has ls 3 [(2, .int z96), (1, .int t39.2), (0, .ref a0)] := by rw [hz96]; exact lv_sub hl [0, 1, 2] rfl
      exact hI2 _ he H locs ls hP hD hS hl
set_option maxHeartbeats 4000000 in
set_option maxRecDepth 100000 in
theorem kX4_done (l : Launch) (D : va_G) (cI : ClassId) (fu : Nat) (a0 a1 a2 : Nat) (M : (Nat → Int32)) (SV : Int32) (MX : (Nat → Int32)) (ML : Int32) (MA : Int32) (MH : Int64) (x1 : Int32) (o : Int32 × (Nat → Int32)) (hf : fX4_done fu M x1 = some o) : Ct l yX4_done wsX4_done { frames := 8, cells := 0, slots := 0, locals := 181 } D cI [.ref a0, .int x1] (wX4 cI a0 a1 a2 M SV MX ML MA MH) (wX4 cI a0 a1 a2 o.2 SV MX ML MA MH) (some (.int o.1)) := by
  refine Ct.of (cc := cX4_done) (maxL := 2) (ret := (some .int)) (by decide) rfl (Nat.le_of_ble_eq_true rfl) ?_
  intro p e s m args below meth c A F hP hD hS ls hl
  obtain ⟨hx, hb, hml, hr, hown, hts, hlk, hK, hA⟩ := F
  have hown : s.vm.findClass RX4 = some m.cls := hown
  have hl : lv_has ls 2 [(0, .ref a0), (1, .int x1)] := hl
  unfold fX4_done at hf
  refine lv_aload_n hx hb dX4_done_0 rfl (lv_at hl 0 rfl) ?_
  refine lv_iload_n hx hb dX4_done_1 rfl (lv_at hl 1 rfl) ?_
  obtain ⟨v1, h2, hf⟩ := kBind hf
  refine kgoR (krunV (wc := (wX4 cI a0 a1 a2 M SV MX ML MA MH)) (As := [.int x1]) (rest := []) (ci := 4) hx hb hml hown hts hK (kX4_isCrane l D cI a0 a1 a2 M SV MX ML MA MH x1 v1 h2) gX4_done_X4_isCrane rfl rfl rfl hdX4_isCrane ⟨Nat.le_of_ble_eq_true rfl, Nat.le_of_ble_eq_true rfl⟩ hP hD rfl rfl rfl rfl hl.1 rfl (Nat.le_of_ble_eq_true rfl) dX4_done_2 ⟨Nat.zero_le _, Nat.zero_le _⟩) hP hD hS hA [0, 1, 2] rfl (fun H locs hP hS => ?_)
  refine kif_eqb (tgt := 16) hx hb dX4_done_5 (by decide) (fun c3 => ?_) (fun c3 => ?_)
  · have hf := kIfF c3 hf
    refine lv_bipush (v := (-101 : Int32)) hx hb dX4_done_16 (by decide) ?_
    have he := Option.some.inj hf
    subst he
    exact kreti hx hb hr hlk hP hD hS dX4_done_18
  · have hf := kIfT c3 hf
    refine lv_aload_n hx hb dX4_done_8 rfl (lv_at hl 0 rfl) ?_
    refine lv_iload_n hx hb dX4_done_9 rfl (lv_at hl 1 rfl) ?_
    obtain ⟨v4, h5, hf⟩ := kBind hf
    refine kgoA (krunV (wc := (wX4 cI a0 a1 a2 M SV MX ML MA MH)) (As := [.int x1]) (rest := []) (ci := 4) hx hb hml hown hts hK (kX4_foretells l D cI fu a0 a1 a2 M SV MX ML MA MH x1 v4 h5) gX4_done_X4_foretells rfl rfl rfl hdX4_foretells ⟨Nat.le_of_ble_eq_true rfl, Nat.le_of_ble_eq_true rfl⟩ hP hD rfl rfl rfl rfl hl.1 rfl (Nat.le_of_ble_eq_true rfl) dX4_done_10 ⟨Nat.zero_le _, Nat.zero_le _⟩) hD hS hA (fun H locs hP hD hS => ?_)
    refine lv_goto (tgt := 18) hx hb dX4_done_13 (by decide) ?_
    have he := Option.some.inj hf
    subst he
    exact kreti hx hb hr hlk hP hD hS dX4_done_18
set_option maxHeartbeats 4000000 in
set_option maxRecDepth 100000 in
theorem kX4_leave (l : Launch) (D : va_G) (cI : ClassId) (fu : Nat) (a0 a1 a2 : Nat) (M : (Nat → Int32)) (SV : Int32) (MX : (Nat → Int32)) (ML : Int32) (MA : Int32) (MH : Int64) (x1 : Int32) (x2 : Bool) (o : Int32 × (Nat → Int32) × Int32) (hf : fX4_leave fu M SV x1 x2 = some o) : Ct l yX4_leave wsX4_leave { frames := 4, cells := 0, slots := 0, locals := 92 } D cI [.ref a0, .int x1, .int (bI x2)] (wX4 cI a0 a1 a2 M SV MX ML MA MH) (wX4 cI a0 a1 a2 o.2.1 o.2.2 MX ML MA MH) (some (.int o.1)) := by
  refine Ct.of (cc := cX4_leave) (maxL := 6) (ret := (some .int)) (by decide) rfl (Nat.le_of_ble_eq_true rfl) ?_
  intro p e s m args below meth c A F hP hD hS ls hl
  obtain ⟨hx, hb, hml, hr, hown, hts, hlk, hK, hA⟩ := F
  have hown : s.vm.findClass RX4 = some m.cls := hown
  have hl : lv_has ls 6 [(0, .ref a0), (1, .int x1), (2, .int (bI x2))] := hl
  unfold fX4_leave at hf
  refine lv_aload_n hx hb dX4_leave_0 rfl (lv_at hl 0 rfl) ?_
  refine lv_iload_n hx hb dX4_leave_1 rfl (lv_at hl 1 rfl) ?_
  obtain ⟨v1, h2, hf⟩ := kBind hf
  refine kgoR (krunV (wc := (wX4 cI a0 a1 a2 M SV MX ML MA MH)) (As := [.int x1]) (rest := []) (ci := 4) hx hb hml hown hts hK (kX4_isCrane l D cI a0 a1 a2 M SV MX ML MA MH x1 v1 h2) gX4_leave_X4_isCrane rfl rfl rfl hdX4_isCrane ⟨Nat.le_of_ble_eq_true rfl, Nat.le_of_ble_eq_true rfl⟩ hP hD rfl rfl rfl rfl hl.1 rfl (Nat.le_of_ble_eq_true rfl) dX4_leave_2 ⟨Nat.zero_le _, Nat.zero_le _⟩) hP hD hS hA [0, 1, 2] rfl (fun H locs hP hS => ?_)
  refine kif_neb (tgt := 11) hx hb dX4_leave_5 (by decide) (fun c3 => ?_) (fun c3 => ?_)
  · have hf := kIfT c3 hf
    refine lv_aload_n hx hb dX4_leave_11 rfl (lv_at hl 0 rfl) ?_
    refine lv_iload_n hx hb dX4_leave_12 rfl (lv_at hl 1 rfl) ?_
    refine lv_bipush (v := (7 : Int32)) hx hb dX4_leave_13 (by decide) ?_
    obtain ⟨v4, h5, hf⟩ := kBind hf
    refine kgoR (krunV (wc := (wX4 cI a0 a1 a2 M SV MX ML MA MH)) (As := [.int x1, .int (7 : Int32)]) (rest := []) (ci := 4) hx hb hml hown hts hK (kX4_of l D cI a0 a1 a2 M SV MX ML MA MH x1 (7 : Int32) v4 h5) gX4_leave_X4_of rfl rfl rfl hdX4_of ⟨Nat.le_of_ble_eq_true rfl, Nat.le_of_ble_eq_true rfl⟩ hP hD rfl rfl rfl rfl hl.1 rfl (Nat.le_of_ble_eq_true rfl) dX4_leave_15 ⟨Nat.zero_le _, Nat.zero_le _⟩) hP hD hS hA [0, 1, 2] rfl (fun H locs hP hS => ?_)
    refine lv_istore_n (lv' := [(3, .int v4), (0, .ref a0), (1, .int x1), (2, .int (bI x2))]) hx hb dX4_leave_18 rfl hl (by decide) rfl (fun ls hl => ?_)
    refine lv_aload_n hx hb dX4_leave_19 rfl (lv_at hl 1 rfl) ?_
    refine lv_iload_n hx hb dX4_leave_20 rfl (lv_at hl 2 rfl) ?_
    obtain ⟨v6, h7, hf⟩ := kBind hf
    refine kgoR (krunV (wc := (wX4 cI a0 a1 a2 M SV MX ML MA MH)) (As := [.int x1]) (rest := []) (ci := 4) hx hb hml hown hts hK (kX4_isOnStep l D cI a0 a1 a2 M SV MX ML MA MH x1 v6 h7) gX4_leave_X4_isOnStep rfl rfl rfl hdX4_isOnStep ⟨Nat.le_of_ble_eq_true rfl, Nat.le_of_ble_eq_true rfl⟩ hP hD rfl rfl rfl rfl hl.1 rfl (Nat.le_of_ble_eq_true rfl) dX4_leave_21 ⟨Nat.zero_le _, Nat.zero_le _⟩) hP hD hS hA [0, 1, 2] rfl (fun H locs hP hS => ?_)
    refine lv_istore (lv' := [(4, .int (bI v6)), (3, .int v4), (0, .ref a0), (1, .int x1), (2, .int (bI x2))]) hx hb dX4_leave_24 hl (by decide) rfl (fun ls hl => ?_)
    refine lv_iconst (v := (0 : Int32)) hx hb dX4_leave_26 (by decide) ?_
    refine lv_istore (lv' := [(5, .int (0 : Int32)), (4, .int (bI v6)), (3, .int v4), (0, .ref a0), (1, .int x1), (2, .int (bI x2))]) hx hb dX4_leave_27 hl (by decide) rfl (fun ls hl => ?_)
    have hl : lv_has ls 6 [(5, .int (0 : Int32)), (4, .int (bI v6)), (3, .int v4), (0, .ref a0), (1, .int x1), (2, .int (bI x2))] := hl
    refine klp hf (fun t29 : Bool × Int32 => (wX4 cI a0 a1 a2 M SV MX ML MA MH)) 6 (fun t29 : Bool × Int32 => [(5, .int t29.2), (4, .int (bI t29.1)), (3, .int v4), (0, .ref a0), (1, .int x1), (2, .int (bI x2))]) ?_ hP hD hS hl
    intro t29 x29_ hf hI1 hO1 H locs ls hP hD hS hl
    unfold fX4_leave_L29 at hf
    have hP : va_P D vwCl (wX4 cI a0 a1 a2 M SV MX ML MA MH) H := hP
    have hD : va_D A (wX4 cI a0 a1 a2 M SV MX ML MA MH) := hD
    have hl : lv_has ls 6 [(5, .int t29.2), (4, .int (bI t29.1)), (3, .int v4), (0, .ref a0), (1, .int x1), (2, .int (bI x2))] := hl
    refine lv_iload hx hb dX4_leave_29 (lv_at hl 0 rfl) ?_
    refine lv_bipush (v := (6 : Int32)) hx hb dX4_leave_31 (by decide) ?_
    refine lv_icmp_ge (tgt := 79) hx hb dX4_leave_33 (by decide) (fun c68 => ?_) (fun c68 => ?_)
    · have hf := kIfT c68 hf
      refine lv_iload_n hx hb dX4_leave_79 rfl (lv_at hl 5 rfl) ?_
      refine kif_eqb (tgt := 95) hx hb dX4_leave_80 (by decide) (fun c69 => ?_) (fun c69 => ?_)
      · have hf := kIfF c69 hf
        refine lv_aload_n hx hb dX4_leave_95 rfl (lv_at hl 3 rfl) ?_
        obtain ⟨v70, h71, hf⟩ := kBind hf
        refine kgoA (krunV (wc := (wX4 cI a0 a1 a2 M SV MX ML MA MH)) (As := []) (rest := []) (ci := 4) hx hb hml hown hts hK (kX4_saves l D cI fu a0 a1 a2 M SV MX ML MA MH v70 h71) gX4_leave_X4_saves rfl rfl rfl hdX4_saves ⟨Nat.le_of_ble_eq_true rfl, Nat.le_of_ble_eq_true rfl⟩ hP hD rfl rfl rfl rfl hl.1 rfl (Nat.le_of_ble_eq_true rfl) dX4_leave_96 ⟨Nat.zero_le _, Nat.zero_le _⟩) hD hS hA (fun H locs hP hD hS => ?_)
        refine lv_iload_n hx hb dX4_leave_99 rfl (lv_at hl 5 rfl) ?_
        refine kif_eqb (tgt := 108) hx hb dX4_leave_100 (by decide) (fun c72 => ?_) (fun c72 => ?_)
        · have hf := kIfF c72 hf
          refine lv_aload_n hx hb dX4_leave_108 rfl (lv_at hl 3 rfl) ?_
          refine lv_iload_n hx hb dX4_leave_109 rfl (lv_at hl 4 rfl) ?_
          refine lv_bipush (v := (7 : Int32)) hx hb dX4_leave_110 (by decide) ?_
          refine lv_iload_n hx hb dX4_leave_112 rfl (lv_at hl 5 rfl) ?_
          refine kif_eqb (tgt := 120) hx hb dX4_leave_113 (by decide) (fun c73 => ?_) (fun c73 => ?_)
          · have hf := kIfF c73 hf
            refine lv_iconst (v := (0 : Int32)) hx hb dX4_leave_120 (by decide) ?_
            obtain ⟨v74, h75, hf⟩ := kBind hf
            refine kgoA (krunV (wc := (wX4 cI a0 a1 a2 v70.1 v70.2 MX ML MA MH)) (As := [.int x1, .int (7 : Int32), .int (0 : Int32)]) (rest := []) (ci := 4) hx hb hml hown hts hK (kX4_sets l D cI a0 a1 a2 v70.1 v70.2 MX ML MA MH x1 (7 : Int32) (0 : Int32) v74 h75) gX4_leave_X4_sets rfl rfl rfl hdX4_sets ⟨Nat.le_of_ble_eq_true rfl, Nat.le_of_ble_eq_true rfl⟩ hP hD rfl rfl rfl rfl hl.1 rfl (Nat.le_of_ble_eq_true rfl) dX4_leave_121 ⟨Nat.zero_le _, Nat.zero_le _⟩) hD hS hA (fun H locs hP hD hS => ?_)
            refine lv_iload_n hx hb dX4_leave_124 rfl (lv_at hl 2 rfl) ?_
            have he := Option.some.inj hf
            have he := hO1 _ he.symm
            subst he
            exact kreti hx hb hr hlk hP hD hS dX4_leave_125
          · have hf := kIfT c73 hf
            refine lv_iconst (v := (1 : Int32)) hx hb dX4_leave_116 (by decide) ?_
            refine lv_goto (tgt := 121) hx hb dX4_leave_117 (by decide) ?_
            obtain ⟨v76, h77, hf⟩ := kBind hf
            refine kgoA (krunV (wc := (wX4 cI a0 a1 a2 v70.1 v70.2 MX ML MA MH)) (As := [.int x1, .int (7 : Int32), .int (1 : Int32)]) (rest := []) (ci := 4) hx hb hml hown hts hK (kX4_sets l D cI a0 a1 a2 v70.1 v70.2 MX ML MA MH x1 (7 : Int32) (1 : Int32) v76 h77) gX4_leave_X4_sets rfl rfl rfl hdX4_sets ⟨Nat.le_of_ble_eq_true rfl, Nat.le_of_ble_eq_true rfl⟩ hP hD rfl rfl rfl rfl hl.1 rfl (Nat.le_of_ble_eq_true rfl) dX4_leave_121 ⟨Nat.zero_le _, Nat.zero_le _⟩) hD hS hA (fun H locs hP hD hS => ?_)
            refine lv_iload_n hx hb dX4_leave_124 rfl (lv_at hl 2 rfl) ?_
            have he := Option.some.inj hf
            have he := hO1 _ he.symm
            subst he
            exact kreti hx hb hr hlk hP hD hS dX4_leave_125
        · have hf := kIfT c72 hf
          refine lv_aload_n hx hb dX4_leave_103 rfl (lv_at hl 3 rfl) ?_
          refine lv_iload_n hx hb dX4_leave_104 rfl (lv_at hl 4 rfl) ?_
          obtain ⟨v78, h79, hf⟩ := kBind hf
          refine kgoA (krunV (wc := (wX4 cI a0 a1 a2 v70.1 v70.2 MX ML MA MH)) (As := [.int x1]) (rest := []) (ci := 4) hx hb hml hown hts hK (kX4_noTarget l D cI a0 a1 a2 v70.1 v70.2 MX ML MA MH x1 v78 h79) gX4_leave_X4_noTarget rfl rfl rfl hdX4_noTarget ⟨Nat.le_of_ble_eq_true rfl, Nat.le_of_ble_eq_true rfl⟩ hP hD rfl rfl rfl rfl hl.1 rfl (Nat.le_of_ble_eq_true rfl) dX4_leave_105 ⟨Nat.zero_le _, Nat.zero_le _⟩) hD hS hA (fun H locs hP hD hS => ?_)
          refine lv_aload_n hx hb dX4_leave_108 rfl (lv_at hl 3 rfl) ?_
          refine lv_iload_n hx hb dX4_leave_109 rfl (lv_at hl 4 rfl) ?_
          refine lv_bipush (v := (7 : Int32)) hx hb dX4_leave_110 (by decide) ?_
          refine lv_iload_n hx hb dX4_leave_112 rfl (lv_at hl 5 rfl) ?_
          refine kif_eqb (tgt := 120) hx hb dX4_leave_113 (by decide) (fun c80 => ?_) (fun c80 => ?_)
          · have hf := kIfF c80 hf
            refine lv_iconst (v := (0 : Int32)) hx hb dX4_leave_120 (by decide) ?_
            obtain ⟨v81, h82, hf⟩ := kBind hf
            refine kgoA (krunV (wc := (wX4 cI a0 a1 a2 v78 v70.2 MX ML MA MH)) (As := [.int x1, .int (7 : Int32), .int (0 : Int32)]) (rest := []) (ci := 4) hx hb hml hown hts hK (kX4_sets l D cI a0 a1 a2 v78 v70.2 MX ML MA MH x1 (7 : Int32) (0 : Int32) v81 h82) gX4_leave_X4_sets rfl rfl rfl hdX4_sets ⟨Nat.le_of_ble_eq_true rfl, Nat.le_of_ble_eq_true rfl⟩ hP hD rfl rfl rfl rfl hl.1 rfl (Nat.le_of_ble_eq_true rfl) dX4_leave_121 ⟨Nat.zero_le _, Nat.zero_le _⟩) hD hS hA (fun H locs hP hD hS => ?_)
            refine lv_iload_n hx hb dX4_leave_124 rfl (lv_at hl 2 rfl) ?_
            have he := Option.some.inj hf
            have he := hO1 _ he.symm
            subst he
            exact kreti hx hb hr hlk hP hD hS dX4_leave_125
          · have hf := kIfT c80 hf
            refine lv_iconst (v := (1 : Int32)) hx hb dX4_leave_116 (by decide) ?_
            refine lv_goto (tgt := 121) hx hb dX4_leave_117 (by decide) ?_
            obtain ⟨v83, h84, hf⟩ := kBind hf
            refine kgoA (krunV (wc := (wX4 cI a0 a1 a2 v78 v70.2 MX ML MA MH)) (As := [.int x1, .int (7 : Int32), .int (1 : Int32)]) (rest := []) (ci := 4) hx hb hml hown hts hK (kX4_sets l D cI a0 a1 a2 v78 v70.2 MX ML MA MH x1 (7 : Int32) (1 : Int32) v83 h84) gX4_leave_X4_sets rfl rfl rfl hdX4_sets ⟨Nat.le_of_ble_eq_true rfl, Nat.le_of_ble_eq_true rfl⟩ hP hD rfl rfl rfl rfl hl.1 rfl (Nat.le_of_ble_eq_true rfl) dX4_leave_121 ⟨Nat.zero_le _, Nat.zero_le _⟩) hD hS hA (fun H locs hP hD hS => ?_)
            refine lv_iload_n hx hb dX4_leave_124 rfl (lv_at hl 2 rfl) ?_
            have he := Option.some.inj hf
            have he := hO1 _ he.symm
            subst he
            exact kreti hx hb hr hlk hP hD hS dX4_leave_125
      · have hf := kIfT c69 hf
        refine lv_iload_n hx hb dX4_leave_83 rfl (lv_at hl 2 rfl) ?_
        refine lv_if_ne (tgt := 95) hx hb dX4_leave_84 (by decide) (fun c85 => ?_) (fun c85 => ?_)
        · have hf := kIfF c85 hf
          refine lv_aload_n hx hb dX4_leave_95 rfl (lv_at hl 3 rfl) ?_
          obtain ⟨v86, h87, hf⟩ := kBind hf
          refine kgoA (krunV (wc := (wX4 cI a0 a1 a2 M SV MX ML MA MH)) (As := []) (rest := []) (ci := 4) hx hb hml hown hts hK (kX4_saves l D cI fu a0 a1 a2 M SV MX ML MA MH v86 h87) gX4_leave_X4_saves rfl rfl rfl hdX4_saves ⟨Nat.le_of_ble_eq_true rfl, Nat.le_of_ble_eq_true rfl⟩ hP hD rfl rfl rfl rfl hl.1 rfl (Nat.le_of_ble_eq_true rfl) dX4_leave_96 ⟨Nat.zero_le _, Nat.zero_le _⟩) hD hS hA (fun H locs hP hD hS => ?_)
          refine lv_iload_n hx hb dX4_leave_99 rfl (lv_at hl 5 rfl) ?_
          refine kif_eqb (tgt := 108) hx hb dX4_leave_100 (by decide) (fun c88 => ?_) (fun c88 => ?_)
          · have hf := kIfF c88 hf
            refine lv_aload_n hx hb dX4_leave_108 rfl (lv_at hl 3 rfl) ?_
            refine lv_iload_n hx hb dX4_leave_109 rfl (lv_at hl 4 rfl) ?_
            refine lv_bipush (v := (7 : Int32)) hx hb dX4_leave_110 (by decide) ?_
            refine lv_iload_n hx hb dX4_leave_112 rfl (lv_at hl 5 rfl) ?_
            refine kif_eqb (tgt := 120) hx hb dX4_leave_113 (by decide) (fun c89 => ?_) (fun c89 => ?_)
            · have hf := kIfF c89 hf
              refine lv_iconst (v := (0 : Int32)) hx hb dX4_leave_120 (by decide) ?_
              obtain ⟨v90, h91, hf⟩ := kBind hf
              refine kgoA (krunV (wc := (wX4 cI a0 a1 a2 v86.1 v86.2 MX ML MA MH)) (As := [.int x1, .int (7 : Int32), .int (0 : Int32)]) (rest := []) (ci := 4) hx hb hml hown hts hK (kX4_sets l D cI a0 a1 a2 v86.1 v86.2 MX ML MA MH x1 (7 : Int32) (0 : Int32) v90 h91) gX4_leave_X4_sets rfl rfl rfl hdX4_sets ⟨Nat.le_of_ble_eq_true rfl, Nat.le_of_ble_eq_true rfl⟩ hP hD rfl rfl rfl rfl hl.1 rfl (Nat.le_of_ble_eq_true rfl) dX4_leave_121 ⟨Nat.zero_le _, Nat.zero_le _⟩) hD hS hA (fun H locs hP hD hS => ?_)
              refine lv_iload_n hx hb dX4_leave_124 rfl (lv_at hl 2 rfl) ?_
              have he := Option.some.inj hf
              have he := hO1 _ he.symm
              subst he
              exact kreti hx hb hr hlk hP hD hS dX4_leave_125
            · have hf := kIfT c89 hf
              refine lv_iconst (v := (1 : Int32)) hx hb dX4_leave_116 (by decide) ?_
              refine lv_goto (tgt := 121) hx hb dX4_leave_117 (by decide) ?_
              obtain ⟨v92, h93, hf⟩ := kBind hf
              refine kgoA (krunV (wc := (wX4 cI a0 a1 a2 v86.1 v86.2 MX ML MA MH)) (As := [.int x1, .int (7 : Int32), .int (1 : Int32)]) (rest := []) (ci := 4) hx hb hml hown hts hK (kX4_sets l D cI a0 a1 a2 v86.1 v86.2 MX ML MA MH x1 (7 : Int32) (1 : Int32) v92 h93) gX4_leave_X4_sets rfl rfl rfl hdX4_sets ⟨Nat.le_of_ble_eq_true rfl, Nat.le_of_ble_eq_true rfl⟩ hP hD rfl rfl rfl rfl hl.1 rfl (Nat.le_of_ble_eq_true rfl) dX4_leave_121 ⟨Nat.zero_le _, Nat.zero_le _⟩) hD hS hA (fun H locs hP hD hS => ?_)
              refine lv_iload_n hx hb dX4_leave_124 rfl (lv_at hl 2 rfl) ?_
              have he := Option.some.inj hf
              have he := hO1 _ he.symm
              subst he
              exact kreti hx hb hr hlk hP hD hS dX4_leave_125
          · have hf := kIfT c88 hf
            refine lv_aload_n hx hb dX4_leave_103 rfl (lv_at hl 3 rfl) ?_
            refine lv_iload_n hx hb dX4_leave_104 rfl (lv_at hl 4 rfl) ?_
            obtain ⟨v94, h95, hf⟩ := kBind hf
            refine kgoA (krunV (wc := (wX4 cI a0 a1 a2 v86.1 v86.2 MX ML MA MH)) (As := [.int x1]) (rest := []) (ci := 4) hx hb hml hown hts hK (kX4_noTarget l D cI a0 a1 a2 v86.1 v86.2 MX ML MA MH x1 v94 h95) gX4_leave_X4_noTarget rfl rfl rfl hdX4_noTarget ⟨Nat.le_of_ble_eq_true rfl, Nat.le_of_ble_eq_true rfl⟩ hP hD rfl rfl rfl rfl hl.1 rfl (Nat.le_of_ble_eq_true rfl) dX4_leave_105 ⟨Nat.zero_le _, Nat.zero_le _⟩) hD hS hA (fun H locs hP hD hS => ?_)
            refine lv_aload_n hx hb dX4_leave_108 rfl (lv_at hl 3 rfl) ?_
            refine lv_iload_n hx hb dX4_leave_109 rfl (lv_at hl 4 rfl) ?_
            refine lv_bipush (v := (7 : Int32)) hx hb dX4_leave_110 (by decide) ?_
            refine lv_iload_n hx hb dX4_leave_112 rfl (lv_at hl 5 rfl) ?_
            refine kif_eqb (tgt := 120) hx hb dX4_leave_113 (by decide) (fun c96 => ?_) (fun c96 => ?_)
            · have hf := kIfF c96 hf
              refine lv_iconst (v := (0 : Int32)) hx hb dX4_leave_120 (by decide) ?_
              obtain ⟨v97, h98, hf⟩ := kBind hf
              refine kgoA (krunV (wc := (wX4 cI a0 a1 a2 v94 v86.2 MX ML MA MH)) (As := [.int x1, .int (7 : Int32), .int (0 : Int32)]) (rest := []) (ci := 4) hx hb hml hown hts hK (kX4_sets l D cI a0 a1 a2 v94 v86.2 MX ML MA MH x1 (7 : Int32) (0 : Int32) v97 h98) gX4_leave_X4_sets rfl rfl rfl hdX4_sets ⟨Nat.le_of_ble_eq_true rfl, Nat.le_of_ble_eq_true rfl⟩ hP hD rfl rfl rfl rfl hl.1 rfl (Nat.le_of_ble_eq_true rfl) dX4_leave_121 ⟨Nat.zero_le _, Nat.zero_le _⟩) hD hS hA (fun H locs hP hD hS => ?_)
              refine lv_iload_n hx hb dX4_leave_124 rfl (lv_at hl 2 rfl) ?_
              have he := Option.some.inj hf
              have he := hO1 _ he.symm
              subst he
              exact kreti hx hb hr hlk hP hD hS dX4_leave_125
            · have hf := kIfT c96 hf
              refine lv_iconst (v := (1 : Int32)) hx hb dX4_leave_116 (by decide) ?_
              refine lv_goto (tgt := 121) hx hb dX4_leave_117 (by decide) ?_
              obtain ⟨v99, h100, hf⟩ := kBind hf
              refine kgoA (krunV (wc := (wX4 cI a0 a1 a2 v94 v86.2 MX ML MA MH)) (As := [.int x1, .int (7 : Int32), .int (1 : Int32)]) (rest := []) (ci := 4) hx hb hml hown hts hK (kX4_sets l D cI a0 a1 a2 v94 v86.2 MX ML MA MH x1 (7 : Int32) (1 : Int32) v99 h100) gX4_leave_X4_sets rfl rfl rfl hdX4_sets ⟨Nat.le_of_ble_eq_true rfl, Nat.le_of_ble_eq_true rfl⟩ hP hD rfl rfl rfl rfl hl.1 rfl (Nat.le_of_ble_eq_true rfl) dX4_leave_121 ⟨Nat.zero_le _, Nat.zero_le _⟩) hD hS hA (fun H locs hP hD hS => ?_)
              refine lv_iload_n hx hb dX4_leave_124 rfl (lv_at hl 2 rfl) ?_
              have he := Option.some.inj hf
              have he := hO1 _ he.symm
              subst he
              exact kreti hx hb hr hlk hP hD hS dX4_leave_125
        · have hf := kIfT c85 hf
          refine lv_iload hx hb dX4_leave_87 (lv_at hl 1 rfl) ?_
          refine kif_eqb (tgt := 95) hx hb dX4_leave_89 (by decide) (fun c101 => ?_) (fun c101 => ?_)
          · have hf := kIfF c101 hf
            refine lv_aload_n hx hb dX4_leave_95 rfl (lv_at hl 3 rfl) ?_
            obtain ⟨v102, h103, hf⟩ := kBind hf
            refine kgoA (krunV (wc := (wX4 cI a0 a1 a2 M SV MX ML MA MH)) (As := []) (rest := []) (ci := 4) hx hb hml hown hts hK (kX4_saves l D cI fu a0 a1 a2 M SV MX ML MA MH v102 h103) gX4_leave_X4_saves rfl rfl rfl hdX4_saves ⟨Nat.le_of_ble_eq_true rfl, Nat.le_of_ble_eq_true rfl⟩ hP hD rfl rfl rfl rfl hl.1 rfl (Nat.le_of_ble_eq_true rfl) dX4_leave_96 ⟨Nat.zero_le _, Nat.zero_le _⟩) hD hS hA (fun H locs hP hD hS => ?_)
            refine lv_iload_n hx hb dX4_leave_99 rfl (lv_at hl 5 rfl) ?_
            refine kif_eqb (tgt := 108) hx hb dX4_leave_100 (by decide) (fun c104 => ?_) (fun c104 => ?_)
            · have hf := kIfF c104 hf
              refine lv_aload_n hx hb dX4_leave_108 rfl (lv_at hl 3 rfl) ?_
              refine lv_iload_n hx hb dX4_leave_109 rfl (lv_at hl 4 rfl) ?_
              refine lv_bipush (v := (7 : Int32)) hx hb dX4_leave_110 (by decide) ?_
              refine lv_iload_n hx hb dX4_leave_112 rfl (lv_at hl 5 rfl) ?_
              refine kif_eqb (tgt := 120) hx hb dX4_leave_113 (by decide) (fun c105 => ?_) (fun c105 => ?_)
              · have hf := kIfF c105 hf
                refine lv_iconst (v := (0 : Int32)) hx hb dX4_leave_120 (by decide) ?_
                obtain ⟨v106, h107, hf⟩ := kBind hf
                refine kgoA (krunV (wc := (wX4 cI a0 a1 a2 v102.1 v102.2 MX ML MA MH)) (As := [.int x1, .int (7 : Int32), .int (0 : Int32)]) (rest := []) (ci := 4) hx hb hml hown hts hK (kX4_sets l D cI a0 a1 a2 v102.1 v102.2 MX ML MA MH x1 (7 : Int32) (0 : Int32) v106 h107) gX4_leave_X4_sets rfl rfl rfl hdX4_sets ⟨Nat.le_of_ble_eq_true rfl, Nat.le_of_ble_eq_true rfl⟩ hP hD rfl rfl rfl rfl hl.1 rfl (Nat.le_of_ble_eq_true rfl) dX4_leave_121 ⟨Nat.zero_le _, Nat.zero_le _⟩) hD hS hA (fun H locs hP hD hS => ?_)
                refine lv_iload_n hx hb dX4_leave_124 rfl (lv_at hl 2 rfl) ?_
                have he := Option.some.inj hf
                have he := hO1 _ he.symm
                subst he
                exact kreti hx hb hr hlk hP hD hS dX4_leave_125
              · have hf := kIfT c105 hf
                refine lv_iconst (v := (1 : Int32)) hx hb dX4_leave_116 (by decide) ?_
                refine lv_goto (tgt := 121) hx hb dX4_leave_117 (by decide) ?_
                obtain ⟨v108, h109, hf⟩ := kBind hf
                refine kgoA (krunV (wc := (wX4 cI a0 a1 a2 v102.1 v102.2 MX ML MA MH)) (As := [.int x1, .int (7 : Int32), .int (1 : Int32)]) (rest := []) (ci := 4) hx hb hml hown hts hK (kX4_sets l D cI a0 a1 a2 v102.1 v102.2 MX ML MA MH x1 (7 : Int32) (1 : Int32) v108 h109) gX4_leave_X4_sets rfl rfl rfl hdX4_sets ⟨Nat.le_of_ble_eq_true rfl, Nat.le_of_ble_eq_true rfl⟩ hP hD rfl rfl rfl rfl hl.1 rfl (Nat.le_of_ble_eq_true rfl) dX4_leave_121 ⟨Nat.zero_le _, Nat.zero_le _⟩) hD hS hA (fun H locs hP hD hS => ?_)
                refine lv_iload_n hx hb dX4_leave_124 rfl (lv_at hl 2 rfl) ?_
                have he := Option.some.inj hf
                have he := hO1 _ he.symm
                subst he
                exact kreti hx hb hr hlk hP hD hS dX4_leave_125
            · have hf := kIfT c104 hf
              refine lv_aload_n hx hb dX4_leave_103 rfl (lv_at hl 3 rfl) ?_
              refine lv_iload_n hx hb dX4_leave_104 rfl (lv_at hl 4 rfl) ?_
              obtain ⟨v110, h111, hf⟩ := kBind hf
              refine kgoA (krunV (wc := (wX4 cI a0 a1 a2 v102.1 v102.2 MX ML MA MH)) (As := [.int x1]) (rest := []) (ci := 4) hx hb hml hown hts hK (kX4_noTarget l D cI a0 a1 a2 v102.1 v102.2 MX ML MA MH x1 v110 h111) gX4_leave_X4_noTarget rfl rfl rfl hdX4_noTarget ⟨Nat.le_of_ble_eq_true rfl, Nat.le_of_ble_eq_true rfl⟩ hP hD rfl rfl rfl rfl hl.1 rfl (Nat.le_of_ble_eq_true rfl) dX4_leave_105 ⟨Nat.zero_le _, Nat.zero_le _⟩) hD hS hA (fun H locs hP hD hS => ?_)
              refine lv_aload_n hx hb dX4_leave_108 rfl (lv_at hl 3 rfl) ?_
              refine lv_iload_n hx hb dX4_leave_109 rfl (lv_at hl 4 rfl) ?_
              refine lv_bipush (v := (7 : Int32)) hx hb dX4_leave_110 (by decide) ?_
              refine lv_iload_n hx hb dX4_leave_112 rfl (lv_at hl 5 rfl) ?_
              refine kif_eqb (tgt := 120) hx hb dX4_leave_113 (by decide) (fun c112 => ?_) (fun c112 => ?_)
              · have hf := kIfF c112 hf
                refine lv_iconst (v := (0 : Int32)) hx hb dX4_leave_120 (by decide) ?_
                obtain ⟨v113, h114, hf⟩ := kBind hf
                refine kgoA (krunV (wc := (wX4 cI a0 a1 a2 v110 v102.2 MX ML MA MH)) (As := [.int x1, .int (7 : Int32), .int (0 : Int32)]) (rest := []) (ci := 4) hx hb hml hown hts hK (kX4_sets l D cI a0 a1 a2 v110 v102.2 MX ML MA MH x1 (7 : Int32) (0 : Int32) v113 h114) gX4_leave_X4_sets rfl rfl rfl hdX4_sets ⟨Nat.le_of_ble_eq_true rfl, Nat.le_of_ble_eq_true rfl⟩ hP hD rfl rfl rfl rfl hl.1 rfl (Nat.le_of_ble_eq_true rfl) dX4_leave_121 ⟨Nat.zero_le _, Nat.zero_le _⟩) hD hS hA (fun H locs hP hD hS => ?_)
                refine lv_iload_n hx hb dX4_leave_124 rfl (lv_at hl 2 rfl) ?_
                have he := Option.some.inj hf
                have he := hO1 _ he.symm
                subst he
                exact kreti hx hb hr hlk hP hD hS dX4_leave_125
              · have hf := kIfT c112 hf
                refine lv_iconst (v := (1 : Int32)) hx hb dX4_leave_116 (by decide) ?_
                refine lv_goto (tgt := 121) hx hb dX4_leave_117 (by decide) ?_
                obtain ⟨v115, h116, hf⟩ := kBind hf
                refine kgoA (krunV (wc := (wX4 cI a0 a1 a2 v110 v102.2 MX ML MA MH)) (As := [.int x1, .int (7 : Int32), .int (1 : Int32)]) (rest := []) (ci := 4) hx hb hml hown hts hK (kX4_sets l D cI a0 a1 a2 v110 v102.2 MX ML MA MH x1 (7 : Int32) (1 : Int32) v115 h116) gX4_leave_X4_sets rfl rfl rfl hdX4_sets ⟨Nat.le_of_ble_eq_true rfl, Nat.le_of_ble_eq_true rfl⟩ hP hD rfl rfl rfl rfl hl.1 rfl (Nat.le_of_ble_eq_true rfl) dX4_leave_121 ⟨Nat.zero_le _, Nat.zero_le _⟩) hD hS hA (fun H locs hP hD hS => ?_)
                refine lv_iload_n hx hb dX4_leave_124 rfl (lv_at hl 2 rfl) ?_
                have he := Option.some.inj hf
                have he := hO1 _ he.symm
                subst he
                exact kreti hx hb hr hlk hP hD hS dX4_leave_125
          · have hf := kIfT c101 hf
            refine lv_bipush (v := (-103 : Int32)) hx hb dX4_leave_92 (by decide) ?_
            have he := Option.some.inj hf
            have he := hO1 _ he.symm
            subst he
            exact kreti hx hb hr hlk hP hD hS dX4_leave_94
    · have hf := kIfF c68 hf
      refine lv_iload hx hb dX4_leave_36 (lv_at hl 1 rfl) ?_
      refine kif_neb (tgt := 66) hx hb dX4_leave_38 (by decide) (fun c117 => ?_) (fun c117 => ?_)
      · have hf := kIfT c117 hf
        refine lv_iconst (v := (1 : Int32)) hx hb dX4_leave_66 (by decide) ?_
        refine lv_goto (tgt := 71) hx hb dX4_leave_67 (by decide) ?_
        refine lv_istore (lv' := [(4, .int (1 : Int32)), (5, .int t29.2), (3, .int v4), (0, .ref a0), (1, .int x1), (2, .int (bI x2))]) hx hb dX4_leave_71 hl (by decide) rfl (fun ls hl => ?_)
        refine lv_iinc (v := t29.2 + (1 : Int32)) (lv' := [(5, .int (t29.2 + (1 : Int32))), (4, .int (1 : Int32)), (3, .int v4), (0, .ref a0), (1, .int x1), (2, .int (bI x2))]) hx hb dX4_leave_73 hl (k := 1) rfl rfl (by decide) rfl (fun ls hl => ?_)
        refine lv_goto (tgt := 29) hx hb dX4_leave_76 (by decide) ?_
        obtain ⟨z118, hz118⟩ : ∃ z : Int32, z = t29.2 + (1 : Int32) := ⟨_, rfl⟩
        rw [← hz118] at hf
        have he := (Option.some.inj hf).symm
        have hl : lv_has ls 6 [(5, .int z118), (4, .int (bI true)), (3, .int v4), (0, .ref a0), (1, .int x1), (2, .int (bI x2))] := by rw [hz118]; exact lv_sub hl [0, 1, 2, 3, 4, 5] rfl
        exact hI1 _ he H locs ls hP hD hS hl
      · have hf := kIfF c117 hf
        refine lv_aload_n hx hb dX4_leave_41 rfl (lv_at hl 3 rfl) ?_
        refine lv_iload_n hx hb dX4_leave_42 rfl (lv_at hl 4 rfl) ?_
        refine lv_iload hx hb dX4_leave_43 (lv_at hl 0 rfl) ?_
        obtain ⟨v119, h120, hf⟩ := kBind hf
        refine kgoR (krunV (wc := (wX4 cI a0 a1 a2 M SV MX ML MA MH)) (As := [.int x1, .int t29.2]) (rest := []) (ci := 4) hx hb hml hown hts hK (kX4_hasArc l D cI a0 a1 a2 M SV MX ML MA MH x1 t29.2 v119 h120) gX4_leave_X4_hasArc rfl rfl rfl hdX4_hasArc ⟨Nat.le_of_ble_eq_true rfl, Nat.le_of_ble_eq_true rfl⟩ hP hD rfl rfl rfl rfl hl.1 rfl (Nat.le_of_ble_eq_true rfl) dX4_leave_45 ⟨Nat.zero_le _, Nat.zero_le _⟩) hP hD hS hA [0, 1, 2] rfl (fun H locs hP hS => ?_)
        refine kif_eqb (tgt := 70) hx hb dX4_leave_48 (by decide) (fun c121 => ?_) (fun c121 => ?_)
        · have hf := kIfF c121 hf
          refine lv_iconst (v := (0 : Int32)) hx hb dX4_leave_70 (by decide) ?_
          refine lv_istore (lv' := [(4, .int (0 : Int32)), (5, .int t29.2), (3, .int v4), (0, .ref a0), (1, .int x1), (2, .int (bI x2))]) hx hb dX4_leave_71 hl (by decide) rfl (fun ls hl => ?_)
          refine lv_iinc (v := t29.2 + (1 : Int32)) (lv' := [(5, .int (t29.2 + (1 : Int32))), (4, .int (0 : Int32)), (3, .int v4), (0, .ref a0), (1, .int x1), (2, .int (bI x2))]) hx hb dX4_leave_73 hl (k := 1) rfl rfl (by decide) rfl (fun ls hl => ?_)
          refine lv_goto (tgt := 29) hx hb dX4_leave_76 (by decide) ?_
          obtain ⟨z122, hz122⟩ : ∃ z : Int32, z = t29.2 + (1 : Int32) := ⟨_, rfl⟩
          rw [← hz122] at hf
          have he := (Option.some.inj hf).symm
          have hl : lv_has ls 6 [(5, .int z122), (4, .int (bI false)), (3, .int v4), (0, .ref a0), (1, .int x1), (2, .int (bI x2))] := by rw [hz122]; exact lv_sub hl [0, 1, 2, 3, 4, 5] rfl
          exact hI1 _ he H locs ls hP hD hS hl
        · have hf := kIfT c121 hf
          refine lv_aload_n hx hb dX4_leave_51 rfl (lv_at hl 3 rfl) ?_
          refine lv_iload hx hb dX4_leave_52 (lv_at hl 0 rfl) ?_
          obtain ⟨v123, h124, hf⟩ := kBind hf
          refine kgoR (krunV (wc := (wX4 cI a0 a1 a2 M SV MX ML MA MH)) (As := [.int t29.2]) (rest := []) (ci := 4) hx hb hml hown hts hK (kX4_occupiers l D cI fu a0 a1 a2 M SV MX ML MA MH t29.2 v123 h124) gX4_leave_X4_occupiers rfl rfl rfl hdX4_occupiers ⟨Nat.le_of_ble_eq_true rfl, Nat.le_of_ble_eq_true rfl⟩ hP hD rfl rfl rfl rfl hl.1 rfl (Nat.le_of_ble_eq_true rfl) dX4_leave_54 ⟨Nat.zero_le _, Nat.zero_le _⟩) hP hD hS hA [0, 1, 2] rfl (fun H locs hP hS => ?_)
          refine lv_iconst (v := (1 : Int32)) hx hb dX4_leave_57 (by decide) ?_
          refine lv_iload_n hx hb dX4_leave_58 rfl (lv_at hl 4 rfl) ?_
          refine kishl hx hb dX4_leave_59 ?_
          refine lv_iconst (v := (-1 : Int32)) hx hb dX4_leave_60 (by decide) ?_
          refine lv_ixor hx hb dX4_leave_61 ?_
          refine lv_iand hx hb dX4_leave_62 ?_
          refine lv_if_eq (tgt := 70) hx hb dX4_leave_63 (by decide) (fun c125 => ?_) (fun c125 => ?_)
          · have hf := kIfT c125 hf
            refine lv_iconst (v := (0 : Int32)) hx hb dX4_leave_70 (by decide) ?_
            refine lv_istore (lv' := [(4, .int (0 : Int32)), (5, .int t29.2), (3, .int v4), (0, .ref a0), (1, .int x1), (2, .int (bI x2))]) hx hb dX4_leave_71 hl (by decide) rfl (fun ls hl => ?_)
            refine lv_iinc (v := t29.2 + (1 : Int32)) (lv' := [(5, .int (t29.2 + (1 : Int32))), (4, .int (0 : Int32)), (3, .int v4), (0, .ref a0), (1, .int x1), (2, .int (bI x2))]) hx hb dX4_leave_73 hl (k := 1) rfl rfl (by decide) rfl (fun ls hl => ?_)
            refine lv_goto (tgt := 29) hx hb dX4_leave_76 (by decide) ?_
            obtain ⟨z126, hz126⟩ : ∃ z : Int32, z = t29.2 + (1 : Int32) := ⟨_, rfl⟩
            rw [← hz126] at hf
            have he := (Option.some.inj hf).symm
            have hl : lv_has ls 6 [(5, .int z126), (4, .int (bI false)), (3, .int v4), (0, .ref a0), (1, .int x1), (2, .int (bI x2))] := by rw [hz126]; exact lv_sub hl [0, 1, 2, 3, 4, 5] rfl
            exact hI1 _ he H locs ls hP hD hS hl
          · have hf := kIfF c125 hf
            refine lv_iconst (v := (1 : Int32)) hx hb dX4_leave_66 (by decide) ?_
            refine lv_goto (tgt := 71) hx hb dX4_leave_67 (by decide) ?_
            refine lv_istore (lv' := [(4, .int (1 : Int32)), (5, .int t29.2), (3, .int v4), (0, .ref a0), (1, .int x1), (2, .int (bI x2))]) hx hb dX4_leave_71 hl (by decide) rfl (fun ls hl => ?_)
            refine lv_iinc (v := t29.2 + (1 : Int32)) (lv' := [(5, .int (t29.2 + (1 : Int32))), (4, .int (1 : Int32)), (3, .int v4), (0, .ref a0), (1, .int x1), (2, .int (bI x2))]) hx hb dX4_leave_73 hl (k := 1) rfl rfl (by decide) rfl (fun ls hl => ?_)
            refine lv_goto (tgt := 29) hx hb dX4_leave_76 (by decide) ?_
            obtain ⟨z127, hz127⟩ : ∃ z : Int32, z = t29.2 + (1 : Int32) := ⟨_, rfl⟩
            rw [← hz127] at hf
            have he := (Option.some.inj hf).symm
            have hl : lv_has ls 6 [(5, .int z127), (4, .int (bI true)), (3, .int v4), (0, .ref a0), (1, .int x1), (2, .int (bI x2))] := by rw [hz127]; exact lv_sub hl [0, 1, 2, 3, 4, 5] rfl
            exact hI1 _ he H locs ls hP hD hS hl
  · have hf := kIfF c3 hf
    refine lv_bipush (v := (-101 : Int32)) hx hb dX4_leave_8 (by decide) ?_
    have he := Option.some.inj hf
    subst he
    exact kreti hx hb hr hlk hP hD hS dX4_leave_10
