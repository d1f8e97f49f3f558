set_option maxHeartbeats 4000000 in
set_option maxRecDepth 100000 in
theorem kX4_needs (l : Launch) (D : va_G) (cI : ClassId) (a0 a1 a2 : Nat) (M : (Nat → Int32)) (SV : Int32) (MX : (Nat → Int32)) (ML : Int32) (MA : Int32) (MH : Int64) (x1 : Int32) (o : Int32) (hf : fX4_needs M x1 = some o) : Ct l yX4_needs wsX4_needs { frames := 2, cells := 0, slots := 0, locals := 45 } D cI [.ref a0, .int x1] (wX4 cI a0 a1 a2 M SV MX ML MA MH) (wX4 cI a0 a1 a2 M SV MX ML MA MH) (some (.int o)) := by
  refine Ct.of (cc := cX4_needs) (maxL := 2) (ret := (some .int)) (by decide) rfl (Nat.le_of_ble_eq_true rfl) ?_
  intro p e s m args below meth c A F hP hD hS ls hl
  obtain ⟨hx, hb, hml, hr, hown, hts, hlk, hK, hA⟩ := F
  have hown : s.vm.findClass RX4 = some m.cls := hown
  have hl : lv_has ls 2 [(0, .ref a0), (1, .int x1)] := hl
  unfold fX4_needs at hf
  refine lv_aload_n hx hb dX4_needs_0 rfl (lv_at hl 0 rfl) ?_
  refine lv_iload_n hx hb dX4_needs_1 rfl (lv_at hl 1 rfl) ?_
  obtain ⟨v1, h2, hf⟩ := kBind hf
  refine kgoR (krunV (wc := (wX4 cI a0 a1 a2 M SV MX ML MA MH)) (As := [.int x1]) (rest := []) (ci := 4) hx hb hml hown hts hK (kX4_isCrane l D cI a0 a1 a2 M SV MX ML MA MH x1 v1 h2) gX4_needs_X4_isCrane rfl rfl rfl hdX4_isCrane ⟨Nat.le_of_ble_eq_true rfl, Nat.le_of_ble_eq_true rfl⟩ hP hD rfl rfl rfl rfl hl.1 rfl (Nat.le_of_ble_eq_true rfl) dX4_needs_2 ⟨Nat.zero_le _, Nat.zero_le _⟩) hP hD hS hA [0, 1, 2] rfl (fun H locs hP hS => ?_)
  refine kif_neb (tgt := 11) hx hb dX4_needs_5 (by decide) (fun c3 => ?_) (fun c3 => ?_)
  · have hf := kIfT c3 hf
    refine lv_aload_n hx hb dX4_needs_11 rfl (lv_at hl 0 rfl) ?_
    refine lv_iload_n hx hb dX4_needs_12 rfl (lv_at hl 1 rfl) ?_
    obtain ⟨v4, h5, hf⟩ := kBind hf
    refine kgoR (krunV (wc := (wX4 cI a0 a1 a2 M SV MX ML MA MH)) (As := [.int x1]) (rest := []) (ci := 4) hx hb hml hown hts hK (kX4_hasTarget l D cI a0 a1 a2 M SV MX ML MA MH x1 v4 h5) gX4_needs_X4_hasTarget rfl rfl rfl hdX4_hasTarget ⟨Nat.le_of_ble_eq_true rfl, Nat.le_of_ble_eq_true rfl⟩ hP hD rfl rfl rfl rfl hl.1 rfl (Nat.le_of_ble_eq_true rfl) dX4_needs_13 ⟨Nat.zero_le _, Nat.zero_le _⟩) hP hD hS hA [0, 1, 2] rfl (fun H locs hP hS => ?_)
    refine kif_eqb (tgt := 53) hx hb dX4_needs_16 (by decide) (fun c6 => ?_) (fun c6 => ?_)
    · have hf := kIfF c6 hf
      refine lv_iconst (v := (0 : Int32)) hx hb dX4_needs_53 (by decide) ?_
      have he := Option.some.inj hf
      subst he
      exact kreti hx hb hr hlk hP hD hS dX4_needs_54
    · have hf := kIfT c6 hf
      refine lv_aload_n hx hb dX4_needs_19 rfl (lv_at hl 0 rfl) ?_
      refine lv_iload_n hx hb dX4_needs_20 rfl (lv_at hl 1 rfl) ?_
      refine lv_aload_n hx hb dX4_needs_21 rfl (lv_at hl 0 rfl) ?_
      refine lv_iload_n hx hb dX4_needs_22 rfl (lv_at hl 1 rfl) ?_
      refine lv_iconst (v := (3 : Int32)) hx hb dX4_needs_23 (by decide) ?_
      obtain ⟨v7, h8, hf⟩ := kBind hf
      refine kgoR (krunV (wc := (wX4 cI a0 a1 a2 M SV MX ML MA MH)) (As := [.int x1, .int (3 : Int32)]) (rest := [.int x1, .ref a0]) (ci := 4) hx hb hml hown hts hK (kX4_of l D cI a0 a1 a2 M SV MX ML MA MH x1 (3 : Int32) v7 h8) gX4_needs_X4_of rfl rfl rfl hdX4_of ⟨Nat.le_of_ble_eq_true rfl, Nat.le_of_ble_eq_true rfl⟩ hP hD rfl rfl rfl rfl hl.1 rfl (Nat.le_of_ble_eq_true rfl) dX4_needs_24 ⟨Nat.zero_le _, Nat.zero_le _⟩) hP hD hS hA [0, 1, 2] rfl (fun H locs hP hS => ?_)
      refine lv_aload_n hx hb dX4_needs_27 rfl (lv_at hl 0 rfl) ?_
      refine lv_iload_n hx hb dX4_needs_28 rfl (lv_at hl 1 rfl) ?_
      refine lv_iconst (v := (4 : Int32)) hx hb dX4_needs_29 (by decide) ?_
      obtain ⟨v9, h10, hf⟩ := kBind hf
      refine kgoR (krunV (wc := (wX4 cI a0 a1 a2 M SV MX ML MA MH)) (As := [.int x1, .int (4 : Int32)]) (rest := [.int v7, .int x1, .ref a0]) (ci := 4) hx hb hml hown hts hK (kX4_of l D cI a0 a1 a2 M SV MX ML MA MH x1 (4 : Int32) v9 h10) gX4_needs_X4_of rfl rfl rfl hdX4_of ⟨Nat.le_of_ble_eq_true rfl, Nat.le_of_ble_eq_true rfl⟩ hP hD rfl rfl rfl rfl hl.1 rfl (Nat.le_of_ble_eq_true rfl) dX4_needs_30 ⟨Nat.zero_le _, Nat.zero_le _⟩) hP hD hS hA [0, 1, 2] rfl (fun H locs hP hS => ?_)
      obtain ⟨v11, h12, hf⟩ := kBind hf
      refine kgoR (krunV (wc := (wX4 cI a0 a1 a2 M SV MX ML MA MH)) (As := [.int x1, .int v7, .int v9]) (rest := []) (ci := 4) hx hb hml hown hts hK (kX4_stepsTo l D cI a0 a1 a2 M SV MX ML MA MH x1 v7 v9 v11 h12) gX4_needs_X4_stepsTo rfl rfl rfl hdX4_stepsTo ⟨Nat.le_of_ble_eq_true rfl, Nat.le_of_ble_eq_true rfl⟩ hP hD rfl rfl rfl rfl hl.1 rfl (Nat.le_of_ble_eq_true rfl) dX4_needs_33 ⟨Nat.zero_le _, Nat.zero_le _⟩) hP hD hS hA [0, 1, 2] rfl (fun H locs hP hS => ?_)
      refine lv_aload_n hx hb dX4_needs_36 rfl (lv_at hl 0 rfl) ?_
      refine lv_iload_n hx hb dX4_needs_37 rfl (lv_at hl 1 rfl) ?_
      refine lv_iconst (v := (1 : Int32)) hx hb dX4_needs_38 (by decide) ?_
      obtain ⟨v13, h14, hf⟩ := kBind hf
      refine kgoR (krunV (wc := (wX4 cI a0 a1 a2 M SV MX ML MA MH)) (As := [.int x1, .int (1 : Int32)]) (rest := [.int v11]) (ci := 4) hx hb hml hown hts hK (kX4_of l D cI a0 a1 a2 M SV MX ML MA MH x1 (1 : Int32) v13 h14) gX4_needs_X4_of rfl rfl rfl hdX4_of ⟨Nat.le_of_ble_eq_true rfl, Nat.le_of_ble_eq_true rfl⟩ hP hD rfl rfl rfl rfl hl.1 rfl (Nat.le_of_ble_eq_true rfl) dX4_needs_39 ⟨Nat.zero_le _, Nat.zero_le _⟩) hP hD hS hA [0, 1, 2] rfl (fun H locs hP hS => ?_)
      refine lv_imul hx hb dX4_needs_42 ?_
      refine lv_aload_n hx hb dX4_needs_43 rfl (lv_at hl 0 rfl) ?_
      refine lv_iload_n hx hb dX4_needs_44 rfl (lv_at hl 1 rfl) ?_
      refine lv_iconst (v := (5 : Int32)) hx hb dX4_needs_45 (by decide) ?_
      obtain ⟨v15, h16, hf⟩ := kBind hf
      refine kgoR (krunV (wc := (wX4 cI a0 a1 a2 M SV MX ML MA MH)) (As := [.int x1, .int (5 : Int32)]) (rest := [.int (v11 * v13)]) (ci := 4) hx hb hml hown hts hK (kX4_of l D cI a0 a1 a2 M SV MX ML MA MH x1 (5 : Int32) v15 h16) gX4_needs_X4_of rfl rfl rfl hdX4_of ⟨Nat.le_of_ble_eq_true rfl, Nat.le_of_ble_eq_true rfl⟩ hP hD rfl rfl rfl rfl hl.1 rfl (Nat.le_of_ble_eq_true rfl) dX4_needs_46 ⟨Nat.zero_le _, Nat.zero_le _⟩) hP hD hS hA [0, 1, 2] rfl (fun H locs hP hS => ?_)
      refine lv_isub hx hb dX4_needs_49 ?_
      refine lv_goto (tgt := 54) hx hb dX4_needs_50 (by decide) ?_
      obtain ⟨z17, hz17⟩ : ∃ z : Int32, z = (v11 * v13) - v15 := ⟨_, rfl⟩
      rw [← hz17] at hf
      rw [← hz17]
      have he := Option.some.inj hf
      subst he
      exact kreti hx hb hr hlk hP hD hS dX4_needs_54
  · have hf := kIfF c3 hf
    refine lv_bipush (v := (-101 : Int32)) hx hb dX4_needs_8 (by decide) ?_
    have he := Option.some.inj hf
    subst he
    exact kreti hx hb hr hlk hP hD hS dX4_needs_10
set_option maxHeartbeats 4000000 in
set_option maxRecDepth 100000 in
theorem kX4_note (l : Launch) (D : va_G) (cI : ClassId) (a0 a1 a2 : Nat) (M : (Nat → Int32)) (SV : Int32) (MX : (Nat → Int32)) (ML : Int32) (MA : Int32) (MH : Int64) (x1 : Int32) (x2 : Int32) (o : Int32) (hf : fX4_note M x1 x2 = some o) : Ct l yX4_note wsX4_note { frames := 1, cells := 0, slots := 0, locals := 22 } D cI [.ref a0, .int x1, .int x2] (wX4 cI a0 a1 a2 M SV MX ML MA MH) (wX4 cI a0 a1 a2 M SV MX ML MA MH) (some (.int o)) := by
  refine Ct.of (cc := cX4_note) (maxL := 3) (ret := (some .int)) (by decide) rfl (Nat.le_of_ble_eq_true rfl) ?_
  intro p e s m args below meth c A F hP hD hS ls hl
  obtain ⟨hx, hb, hml, hr, hown, hts, hlk, hK, hA⟩ := F
  have hown : s.vm.findClass RX4 = some m.cls := hown
  have hl : lv_has ls 3 [(0, .ref a0), (1, .int x1), (2, .int x2)] := hl
  have hinX4 : ∀ w ∈ wsX40, w ∈ wsX4_note := by decide +kernel
  have hfl7 := hts (.fieldLink RX4 7 "CraneGuardModel" "row" "[I") (by decide +kernel)
  unfold fX4_note at hf
  refine lv_iload_n hx hb dX4_note_0 rfl (lv_at hl 1 rfl) ?_
  refine lv_iconst (v := (0 : Int32)) hx hb dX4_note_1 (by decide) ?_
  refine lv_aload_n hx hb dX4_note_2 rfl (lv_at hl 0 rfl) ?_
  refine va_get (D := D) (ci := 4) (v := .ref a1) (C := RX4) (T := TX4) (N := 6) hx hb hts hinX4 hown hK.1 hP 0 rfl rfl 0 (by decide) hfl7 (fun _ h9 => h9) rfl dX4_note_3 ?_
  refine lv_iconst (v := (3 : Int32)) hx hb dX4_note_6 (by decide) ?_
  obtain ⟨v1, h2, hf⟩ := kBind hf
  refine krd hx hb hK hP 1 rfl h2 dX4_note_7 ?_
  refine lv_iconst (v := (1 : Int32)) hx hb dX4_note_8 (by decide) ?_
  refine lv_isub hx hb dX4_note_9 ?_
  obtain ⟨v3, h4, hf⟩ := kBind hf
  refine kgoR (krunS (wc := ([] : va_W)) (As := [.int x1, .int (0 : Int32), .int (v1 - (1 : Int32))]) (rest := []) hx hb hml hown hts hK (kX4_in l D cI x1 (0 : Int32) (v1 - (1 : Int32)) v3 h4) gX4_note_X4_in rfl rfl rfl hdX4_in ⟨Nat.le_of_ble_eq_true rfl, Nat.le_of_ble_eq_true rfl⟩ k_P0 (k_D0 A) rfl hl.1 rfl (Nat.le_of_ble_eq_true rfl) dX4_note_10 ⟨Nat.zero_le _, Nat.zero_le _⟩) hP hD hS hA [] rfl (fun H locs hP hS => ?_)
  refine kif_neb (tgt := 19) hx hb dX4_note_13 (by decide) (fun c5 => ?_) (fun c5 => ?_)
  · have hf := kIfT c5 hf
    refine lv_iload_n hx hb dX4_note_19 rfl (lv_at hl 2 rfl) ?_
    refine lv_iconst (v := (0 : Int32)) hx hb dX4_note_20 (by decide) ?_
    refine lv_iconst (v := (3 : Int32)) hx hb dX4_note_21 (by decide) ?_
    obtain ⟨v6, h7, hf⟩ := kBind hf
    refine kgoR (krunS (wc := ([] : va_W)) (As := [.int x2, .int (0 : Int32), .int (3 : Int32)]) (rest := []) hx hb hml hown hts hK (kX4_in l D cI x2 (0 : Int32) (3 : Int32) v6 h7) gX4_note_X4_in rfl rfl rfl hdX4_in ⟨Nat.le_of_ble_eq_true rfl, Nat.le_of_ble_eq_true rfl⟩ k_P0 (k_D0 A) rfl hl.1 rfl (Nat.le_of_ble_eq_true rfl) dX4_note_22 ⟨Nat.zero_le _, Nat.zero_le _⟩) hP hD hS hA [] rfl (fun H locs hP hS => ?_)
    refine kif_eqb (tgt := 44) hx hb dX4_note_25 (by decide) (fun c8 => ?_) (fun c8 => ?_)
    · have hf := kIfF c8 hf
      refine lv_bipush (v := (-102 : Int32)) hx hb dX4_note_44 (by decide) ?_
      have he := Option.some.inj hf
      subst he
      exact kreti hx hb hr hlk hP hD hS dX4_note_46
    · have hf := kIfT c8 hf
      refine lv_aload_n hx hb dX4_note_28 rfl (lv_at hl 0 rfl) ?_
      refine va_get (D := D) (ci := 4) (v := .ref a1) (C := RX4) (T := TX4) (N := 6) hx hb hts hinX4 hown hK.1 hP 0 rfl rfl 0 (by decide) hfl7 (fun _ h9 => h9) rfl dX4_note_29 ?_
      refine lv_bipush (v := (88 : Int32)) hx hb dX4_note_32 (by decide) ?_
      refine lv_iconst (v := (4 : Int32)) hx hb dX4_note_34 (by decide) ?_
      refine lv_iload_n hx hb dX4_note_35 rfl (lv_at hl 1 rfl) ?_
      refine lv_imul hx hb dX4_note_36 ?_
      refine lv_iadd hx hb dX4_note_37 ?_
      refine lv_iload_n hx hb dX4_note_38 rfl (lv_at hl 2 rfl) ?_
      refine lv_iadd hx hb dX4_note_39 ?_
      obtain ⟨v9, h10, hf⟩ := kBind hf
      refine krd hx hb hK hP 1 rfl h10 dX4_note_40 ?_
      refine lv_goto (tgt := 46) hx hb dX4_note_41 (by decide) ?_
      have he := Option.some.inj hf
      subst he
      exact kreti hx hb hr hlk hP hD hS dX4_note_46
  · have hf := kIfF c5 hf
    refine lv_bipush (v := (-101 : Int32)) hx hb dX4_note_16 (by decide) ?_
    have he := Option.some.inj hf
    subst he
    exact kreti hx hb hr hlk hP hD hS dX4_note_18
set_option maxHeartbeats 4000000 in
set_option maxRecDepth 100000 in
theorem kX4_notes (l : Launch) (D : va_G) (cI : ClassId) (a0 a1 a2 : Nat) (M : (Nat → Int32)) (SV : Int32) (MX : (Nat → Int32)) (ML : Int32) (MA : Int32) (MH : Int64) (o : Int32) (hf : fX4_notes M = some o) : Ct l yX4_notes wsX4_notes { frames := 0, cells := 0, slots := 0, locals := 0 } D cI [.ref a0] (wX4 cI a0 a1 a2 M SV MX ML MA MH) (wX4 cI a0 a1 a2 M SV MX ML MA MH) (some (.int o)) := by
  refine Ct.of (cc := cX4_notes) (maxL := 1) (ret := (some .int)) (by decide) rfl (Nat.le_of_ble_eq_true rfl) ?_
  intro p e s m args below meth c A F hP hD hS ls hl
  obtain ⟨hx, hb, hml, hr, hown, hts, hlk, hK, hA⟩ := F
  have hown : s.vm.findClass RX4 = some m.cls := hown
  have hl : lv_has ls 1 [(0, .ref a0)] := hl
  have hinX4 : ∀ w ∈ wsX40, w ∈ wsX4_notes := by decide +kernel
  have hfl7 := hts (.fieldLink RX4 7 "CraneGuardModel" "row" "[I") (by decide +kernel)
  unfold fX4_notes at hf
  refine lv_aload_n hx hb dX4_notes_0 rfl (lv_at hl 0 rfl) ?_
  refine va_get (D := D) (ci := 4) (v := .ref a1) (C := RX4) (T := TX4) (N := 6) hx hb hts hinX4 hown hK.1 hP 0 rfl rfl 0 (by decide) hfl7 (fun _ h9 => h9) rfl dX4_notes_1 ?_
  refine lv_iconst (v := (3 : Int32)) hx hb dX4_notes_4 (by decide) ?_
  obtain ⟨v1, h2, hf⟩ := kBind hf
  refine krd hx hb hK hP 1 rfl h2 dX4_notes_5 ?_
  have he := Option.some.inj hf
  subst he
  exact kreti hx hb hr hlk hP hD hS dX4_notes_6
set_option maxHeartbeats 4000000 in
set_option maxRecDepth 100000 in
theorem kX4_occupants (l : Launch) (D : va_G) (cI : ClassId) (fu : Nat) (a0 a1 a2 : Nat) (M : (Nat → Int32)) (SV : Int32) (MX : (Nat → Int32)) (ML : Int32) (MA : Int32) (MH : Int64) (x1 : Int32) (o : Int32) (hf : fX4_occupants fu M x1 = some o) : Ct l yX4_occupants wsX4_occupants { frames := 4, cells := 0, slots := 0, locals := 92 } D cI [.ref a0, .int x1] (wX4 cI a0 a1 a2 M SV MX ML MA MH) (wX4 cI a0 a1 a2 M SV MX ML MA MH) (some (.int o)) := by
  refine Ct.of (cc := cX4_occupants) (maxL := 2) (ret := (some .int)) (by decide) rfl (Nat.le_of_ble_eq_true rfl) ?_
  intro p e s m args below meth c A F hP hD hS ls hl
  obtain ⟨hx, hb, hml, hr, hown, hts, hlk, hK, hA⟩ := F
  have hown : s.vm.findClass RX4 = some m.cls := hown
  have hl : lv_has ls 2 [(0, .ref a0), (1, .int x1)] := hl
  unfold fX4_occupants at hf
  refine lv_iload_n hx hb dX4_occupants_0 rfl (lv_at hl 1 rfl) ?_
  obtain ⟨v1, h2, hf⟩ := kBind hf
  refine kgoR (krunS (wc := ([] : va_W)) (As := [.int x1]) (rest := []) hx hb hml hown hts hK (kX4_isZone l D cI x1 v1 h2) gX4_occupants_X4_isZone rfl rfl rfl hdX4_isZone ⟨Nat.le_of_ble_eq_true rfl, Nat.le_of_ble_eq_true rfl⟩ k_P0 (k_D0 A) rfl hl.1 rfl (Nat.le_of_ble_eq_true rfl) dX4_occupants_1 ⟨Nat.zero_le _, Nat.zero_le _⟩) hP hD hS hA [] rfl (fun H locs hP hS => ?_)
  refine kif_eqb (tgt := 15) hx hb dX4_occupants_4 (by decide) (fun c3 => ?_) (fun c3 => ?_)
  · have hf := kIfF c3 hf
    refine lv_bipush (v := (-101 : Int32)) hx hb dX4_occupants_15 (by decide) ?_
    have he := Option.some.inj hf
    subst he
    exact kreti hx hb hr hlk hP hD hS dX4_occupants_17
  · have hf := kIfT c3 hf
    refine lv_aload_n hx hb dX4_occupants_7 rfl (lv_at hl 0 rfl) ?_
    refine lv_iload_n hx hb dX4_occupants_8 rfl (lv_at hl 1 rfl) ?_
    obtain ⟨v4, h5, hf⟩ := kBind hf
    refine kgoR (krunV (wc := (wX4 cI a0 a1 a2 M SV MX ML MA MH)) (As := [.int x1]) (rest := []) (ci := 4) hx hb hml hown hts hK (kX4_occupiers l D cI fu a0 a1 a2 M SV MX ML MA MH x1 v4 h5) gX4_occupants_X4_occupiers rfl rfl rfl hdX4_occupiers ⟨Nat.le_of_ble_eq_true rfl, Nat.le_of_ble_eq_true rfl⟩ hP hD rfl rfl rfl rfl hl.1 rfl (Nat.le_of_ble_eq_true rfl) dX4_occupants_9 ⟨Nat.zero_le _, Nat.zero_le _⟩) hP hD hS hA [0, 1, 2] rfl (fun H locs hP hS => ?_)
    refine lv_goto (tgt := 17) hx hb dX4_occupants_12 (by decide) ?_
    have he := Option.some.inj hf
    subst he
    exact kreti hx hb hr hlk hP hD hS dX4_occupants_17
set_option maxHeartbeats 4000000 in
set_option maxRecDepth 100000 in
theorem kX4_override (l : Launch) (D : va_G) (cI : ClassId) (fu : Nat) (a0 a1 a2 : Nat) (M : (Nat → Int32)) (SV : Int32) (MX : (Nat → Int32)) (ML : Int32) (MA : Int32) (MH : Int64) (x1 : Int32) (x2 : Int32) (o : Int32 × (Nat → Int32) × Int32) (hf : fX4_override fu M SV x1 x2 = some o) : Ct l yX4_override wsX4_override { frames := 6, cells := 0, slots := 0, locals := 136 } D cI [.ref a0, .int x1, .int x2] (wX4 cI a0 a1 a2 M SV MX ML MA MH) (wX4 cI a0 a1 a2 o.2.1 o.2.2 MX ML MA MH) (some (.int o.1)) := by
  refine Ct.of (cc := cX4_override) (maxL := 4) (ret := (some .int)) (by decide) rfl (Nat.le_of_ble_eq_true rfl) ?_
  intro p e s m args below meth c A F hP hD hS ls hl
  obtain ⟨hx, hb, hml, hr, hown, hts, hlk, hK, hA⟩ := F
  have hown : s.vm.findClass RX4 = some m.cls := hown
  have hl : lv_has ls 4 [(0, .ref a0), (1, .int x1), (2, .int x2)] := hl
  have hinX4 : ∀ w ∈ wsX40, w ∈ wsX4_override := by decide +kernel
  have hfl7 := hts (.fieldLink RX4 7 "CraneGuardModel" "row" "[I") (by decide +kernel)
  unfold fX4_override at hf
  refine lv_aload_n hx hb dX4_override_0 rfl (lv_at hl 0 rfl) ?_
  refine lv_iload_n hx hb dX4_override_1 rfl (lv_at hl 1 rfl) ?_
  obtain ⟨v1, h2, hf⟩ := kBind hf
  refine kgoR (krunV (wc := (wX4 cI a0 a1 a2 M SV MX ML MA MH)) (As := [.int x1]) (rest := []) (ci := 4) hx hb hml hown hts hK (kX4_isCrane l D cI a0 a1 a2 M SV MX ML MA MH x1 v1 h2) gX4_override_X4_isCrane rfl rfl rfl hdX4_isCrane ⟨Nat.le_of_ble_eq_true rfl, Nat.le_of_ble_eq_true rfl⟩ hP hD rfl rfl rfl rfl hl.1 rfl (Nat.le_of_ble_eq_true rfl) dX4_override_2 ⟨Nat.zero_le _, Nat.zero_le _⟩) hP hD hS hA [0, 1, 2] rfl (fun H locs hP hS => ?_)
  refine kif_neb (tgt := 11) hx hb dX4_override_5 (by decide) (fun c3 => ?_) (fun c3 => ?_)
  · have hf := kIfT c3 hf
    refine lv_iload_n hx hb dX4_override_11 rfl (lv_at hl 2 rfl) ?_
    refine lv_iconst (v := (1 : Int32)) hx hb dX4_override_12 (by decide) ?_
    refine lv_bipush (v := (9 : Int32)) hx hb dX4_override_13 (by decide) ?_
    obtain ⟨v4, h5, hf⟩ := kBind hf
    refine kgoR (krunS (wc := ([] : va_W)) (As := [.int x2, .int (1 : Int32), .int (9 : Int32)]) (rest := []) hx hb hml hown hts hK (kX4_in l D cI x2 (1 : Int32) (9 : Int32) v4 h5) gX4_override_X4_in rfl rfl rfl hdX4_in ⟨Nat.le_of_ble_eq_true rfl, Nat.le_of_ble_eq_true rfl⟩ k_P0 (k_D0 A) rfl hl.1 rfl (Nat.le_of_ble_eq_true rfl) dX4_override_15 ⟨Nat.zero_le _, Nat.zero_le _⟩) hP hD hS hA [] rfl (fun H locs hP hS => ?_)
    refine kif_neb (tgt := 24) hx hb dX4_override_18 (by decide) (fun c6 => ?_) (fun c6 => ?_)
    · have hf := kIfT c6 hf
      refine lv_aload_n hx hb dX4_override_24 rfl (lv_at hl 0 rfl) ?_
      refine lv_iload_n hx hb dX4_override_25 rfl (lv_at hl 1 rfl) ?_
      obtain ⟨v7, h8, hf⟩ := kBind hf
      refine kgoR (krunV (wc := (wX4 cI a0 a1 a2 M SV MX ML MA MH)) (As := [.int x1]) (rest := []) (ci := 4) hx hb hml hown hts hK (kX4_hasTarget l D cI a0 a1 a2 M SV MX ML MA MH x1 v7 h8) gX4_override_X4_hasTarget rfl rfl rfl hdX4_hasTarget ⟨Nat.le_of_ble_eq_true rfl, Nat.le_of_ble_eq_true rfl⟩ hP hD rfl rfl rfl rfl hl.1 rfl (Nat.le_of_ble_eq_true rfl) dX4_override_26 ⟨Nat.zero_le _, Nat.zero_le _⟩) hP hD hS hA [0, 1, 2] rfl (fun H locs hP hS => ?_)
      refine kif_eqb (tgt := 40) hx hb dX4_override_29 (by decide) (fun c9 => ?_) (fun c9 => ?_)
      · have hf := kIfF c9 hf
        refine lv_bipush (v := (-103 : Int32)) hx hb dX4_override_40 (by decide) ?_
        have he := Option.some.inj hf
        subst he
        exact kreti hx hb hr hlk hP hD hS dX4_override_42
      · have hf := kIfT c9 hf
        refine lv_aload_n hx hb dX4_override_32 rfl (lv_at hl 0 rfl) ?_
        refine lv_iload_n hx hb dX4_override_33 rfl (lv_at hl 1 rfl) ?_
        obtain ⟨v10, h11, hf⟩ := kBind hf
        refine kgoR (krunV (wc := (wX4 cI a0 a1 a2 M SV MX ML MA MH)) (As := [.int x1]) (rest := []) (ci := 4) hx hb hml hown hts hK (kX4_isOnStep l D cI a0 a1 a2 M SV MX ML MA MH x1 v10 h11) gX4_override_X4_isOnStep rfl rfl rfl hdX4_isOnStep ⟨Nat.le_of_ble_eq_true rfl, Nat.le_of_ble_eq_true rfl⟩ hP hD rfl rfl rfl rfl hl.1 rfl (Nat.le_of_ble_eq_true rfl) dX4_override_34 ⟨Nat.zero_le _, Nat.zero_le _⟩) hP hD hS hA [0, 1, 2] rfl (fun H locs hP hS => ?_)
        refine kif_eqb (tgt := 43) hx hb dX4_override_37 (by decide) (fun c12 => ?_) (fun c12 => ?_)
        · have hf := kIfF c12 hf
          refine lv_aload_n hx hb dX4_override_43 rfl (lv_at hl 0 rfl) ?_
          refine va_get (D := D) (ci := 4) (v := .ref a1) (C := RX4) (T := TX4) (N := 6) hx hb hts hinX4 hown hK.1 hP 0 rfl rfl 0 (by decide) hfl7 (fun _ h9 => h9) rfl dX4_override_44 ?_
          refine lv_iconst (v := (3 : Int32)) hx hb dX4_override_47 (by decide) ?_
          obtain ⟨v13, h14, hf⟩ := kBind hf
          refine krd hx hb hK hP 1 rfl h14 dX4_override_48 ?_
          refine lv_bipush (v := (10 : Int32)) hx hb dX4_override_49 (by decide) ?_
          refine lv_icmp_ne (tgt := 57) hx hb dX4_override_51 (by decide) (fun c15 => ?_) (fun c15 => ?_)
          · have hf := kIfF c15 hf
            refine lv_aload_n hx hb dX4_override_57 rfl (lv_at hl 0 rfl) ?_
            obtain ⟨v16, h17, hf⟩ := kBind hf
            refine kgoA (krunV (wc := (wX4 cI a0 a1 a2 M SV MX ML MA MH)) (As := []) (rest := []) (ci := 4) hx hb hml hown hts hK (kX4_saves l D cI fu a0 a1 a2 M SV MX ML MA MH v16 h17) gX4_override_X4_saves rfl rfl rfl hdX4_saves ⟨Nat.le_of_ble_eq_true rfl, Nat.le_of_ble_eq_true rfl⟩ hP hD rfl rfl rfl rfl hl.1 rfl (Nat.le_of_ble_eq_true rfl) dX4_override_58 ⟨Nat.zero_le _, Nat.zero_le _⟩) hD hS hA (fun H locs hP hD hS => ?_)
            refine lv_aload_n hx hb dX4_override_61 rfl (lv_at hl 0 rfl) ?_
            refine lv_iload_n hx hb dX4_override_62 rfl (lv_at hl 1 rfl) ?_
            obtain ⟨v18, h19, hf⟩ := kBind hf
            refine kgoA (krunV (wc := (wX4 cI a0 a1 a2 v16.1 v16.2 MX ML MA MH)) (As := [.int x1]) (rest := []) (ci := 4) hx hb hml hown hts hK (kX4_steps l D cI a0 a1 a2 v16.1 v16.2 MX ML MA MH x1 v18 h19) gX4_override_X4_steps rfl rfl rfl hdX4_steps ⟨Nat.le_of_ble_eq_true rfl, Nat.le_of_ble_eq_true rfl⟩ hP hD rfl rfl rfl rfl hl.1 rfl (Nat.le_of_ble_eq_true rfl) dX4_override_63 ⟨Nat.zero_le _, Nat.zero_le _⟩) hD hS hA (fun H locs hP hD hS => ?_)
            refine lv_bipush (v := (88 : Int32)) hx hb dX4_override_66 (by decide) ?_
            refine lv_iconst (v := (4 : Int32)) hx hb dX4_override_68 (by decide) ?_
            refine lv_aload_n hx hb dX4_override_69 rfl (lv_at hl 0 rfl) ?_
            refine va_get (D := D) (ci := 4) (v := .ref a1) (C := RX4) (T := TX4) (N := 6) hx hb hts hinX4 hown hK.1 hP 0 rfl rfl 0 (by decide) hfl7 (fun _ h9 => h9) rfl dX4_override_70 ?_
            refine lv_iconst (v := (3 : Int32)) hx hb dX4_override_73 (by decide) ?_
            obtain ⟨v20, h21, hf⟩ := kBind hf
            refine krd hx hb hK hP 1 rfl h21 dX4_override_74 ?_
            refine lv_imul hx hb dX4_override_75 ?_
            refine lv_iadd hx hb dX4_override_76 ?_
            refine lv_istore_n (lv' := [(3, .int ((88 : Int32) + ((4 : Int32) * v20))), (0, .ref a0), (1, .int x1), (2, .int x2)]) hx hb dX4_override_77 rfl hl (by decide) rfl (fun ls hl => ?_)
            refine lv_aload_n hx hb dX4_override_78 rfl (lv_at hl 1 rfl) ?_
            refine va_get (D := D) (ci := 4) (v := .ref a1) (C := RX4) (T := TX4) (N := 6) hx hb hts hinX4 hown hK.1 hP 0 rfl rfl 0 (by decide) hfl7 (fun _ h9 => h9) rfl dX4_override_79 ?_
            refine lv_iload_n hx hb dX4_override_82 rfl (lv_at hl 0 rfl) ?_
            refine lv_aload_n hx hb dX4_override_83 rfl (lv_at hl 1 rfl) ?_
            refine va_get (D := D) (ci := 4) (v := .ref a1) (C := RX4) (T := TX4) (N := 6) hx hb hts hinX4 hown hK.1 hP 0 rfl rfl 0 (by decide) hfl7 (fun _ h9 => h9) rfl dX4_override_84 ?_
            refine lv_iconst (v := (0 : Int32)) hx hb dX4_override_87 (by decide) ?_
            obtain ⟨v22, h23, hf⟩ := kBind hf
            refine krd hx hb hK hP 1 rfl h23 dX4_override_88 ?_
            obtain ⟨v24, h25, hf⟩ := kBind hf
            refine kwr hx hb hK hP hD hS 1 rfl h25 (wX4 cI a0 a1 a2 v24 v16.2 MX ML MA MH) rfl dX4_override_89 (fun H locs hP hD hS => ?_)
            refine lv_aload_n hx hb dX4_override_90 rfl (lv_at hl 1 rfl) ?_
            refine va_get (D := D) (ci := 4) (v := .ref a1) (C := RX4) (T := TX4) (N := 6) hx hb hts hinX4 hown hK.1 hP 0 rfl rfl 0 (by decide) hfl7 (fun _ h9 => h9) rfl dX4_override_91 ?_
            refine lv_iload_n hx hb dX4_override_94 rfl (lv_at hl 0 rfl) ?_
            refine lv_iconst (v := (1 : Int32)) hx hb dX4_override_95 (by decide) ?_
            refine lv_iadd hx hb dX4_override_96 ?_
            refine lv_iload_n hx hb dX4_override_97 rfl (lv_at hl 2 rfl) ?_
            obtain ⟨v26, h27, hf⟩ := kBind hf
            refine kwr hx hb hK hP hD hS 1 rfl h27 (wX4 cI a0 a1 a2 v26 v16.2 MX ML MA MH) rfl dX4_override_98 (fun H locs hP hD hS => ?_)
            refine lv_aload_n hx hb dX4_override_99 rfl (lv_at hl 1 rfl) ?_
            refine va_get (D := D) (ci := 4) (v := .ref a1) (C := RX4) (T := TX4) (N := 6) hx hb hts hinX4 hown hK.1 hP 0 rfl rfl 0 (by decide) hfl7 (fun _ h9 => h9) rfl dX4_override_100 ?_
            refine lv_iload_n hx hb dX4_override_103 rfl (lv_at hl 0 rfl) ?_
            refine lv_iconst (v := (2 : Int32)) hx hb dX4_override_104 (by decide) ?_
            refine lv_iadd hx hb dX4_override_105 ?_
            refine lv_iload_n hx hb dX4_override_106 rfl (lv_at hl 3 rfl) ?_
            obtain ⟨v28, h29, hf⟩ := kBind hf
            refine kwr hx hb hK hP hD hS 1 rfl h29 (wX4 cI a0 a1 a2 v28 v16.2 MX ML MA MH) rfl dX4_override_107 (fun H locs hP hD hS => ?_)
            refine lv_aload_n hx hb dX4_override_108 rfl (lv_at hl 1 rfl) ?_
            refine va_get (D := D) (ci := 4) (v := .ref a1) (C := RX4) (T := TX4) (N := 6) hx hb hts hinX4 hown hK.1 hP 0 rfl rfl 0 (by decide) hfl7 (fun _ h9 => h9) rfl dX4_override_109 ?_
            refine lv_iload_n hx hb dX4_override_112 rfl (lv_at hl 0 rfl) ?_
            refine lv_iconst (v := (3 : Int32)) hx hb dX4_override_113 (by decide) ?_
            refine lv_iadd hx hb dX4_override_114 ?_
            refine lv_aload_n hx hb dX4_override_115 rfl (lv_at hl 1 rfl) ?_
            obtain ⟨v30, h31, hf⟩ := kBind hf
            refine kgoR (krunV (wc := (wX4 cI a0 a1 a2 v28 v16.2 MX ML MA MH)) (As := []) (rest := [.int (((88 : Int32) + ((4 : Int32) * v20)) + (3 : Int32)), .ref a1]) (ci := 4) hx hb hml hown hts hK (kX4_clashes l D cI fu a0 a1 a2 v28 v16.2 MX ML MA MH v30 h31) gX4_override_X4_clashes rfl rfl rfl hdX4_clashes ⟨Nat.le_of_ble_eq_true rfl, Nat.le_of_ble_eq_true rfl⟩ hP hD rfl rfl rfl rfl hl.1 rfl (Nat.le_of_ble_eq_true rfl) dX4_override_116 ⟨Nat.zero_le _, Nat.zero_le _⟩) hP hD hS hA [0, 1, 2] rfl (fun H locs hP hS => ?_)
            obtain ⟨v32, h33, hf⟩ := kBind hf
            refine kwr hx hb hK hP hD hS 1 rfl h33 (wX4 cI a0 a1 a2 v32 v16.2 MX ML MA MH) rfl dX4_override_119 (fun H locs hP hD hS => ?_)
            refine lv_aload_n hx hb dX4_override_120 rfl (lv_at hl 1 rfl) ?_
            refine va_get (D := D) (ci := 4) (v := .ref a1) (C := RX4) (T := TX4) (N := 6) hx hb hts hinX4 hown hK.1 hP 0 rfl rfl 0 (by decide) hfl7 (fun _ h9 => h9) rfl dX4_override_121 ?_
            refine lv_iconst (v := (3 : Int32)) hx hb dX4_override_124 (by decide) ?_
            refine lv_dup2_11 hx hb dX4_override_125 rfl rfl ?_
            obtain ⟨v34, h35, hf⟩ := kBind hf
            refine krd hx hb hK hP 1 rfl h35 dX4_override_126 ?_
            refine lv_iconst (v := (1 : Int32)) hx hb dX4_override_127 (by decide) ?_
            refine lv_iadd hx hb dX4_override_128 ?_
            obtain ⟨v36, h37, hf⟩ := kBind hf
            refine kwr hx hb hK hP hD hS 1 rfl h37 (wX4 cI a0 a1 a2 v36 v16.2 MX ML MA MH) rfl dX4_override_129 (fun H locs hP hD hS => ?_)
            refine lv_aload_n hx hb dX4_override_130 rfl (lv_at hl 1 rfl) ?_
            refine va_get (D := D) (ci := 4) (v := .ref a1) (C := RX4) (T := TX4) (N := 6) hx hb hts hinX4 hown hK.1 hP 0 rfl rfl 0 (by decide) hfl7 (fun _ h9 => h9) rfl dX4_override_131 ?_
            refine lv_iload_n hx hb dX4_override_134 rfl (lv_at hl 0 rfl) ?_
            refine lv_iconst (v := (3 : Int32)) hx hb dX4_override_135 (by decide) ?_
            refine lv_iadd hx hb dX4_override_136 ?_
            obtain ⟨v38, h39, hf⟩ := kBind hf
            refine krd hx hb hK hP 1 rfl h39 dX4_override_137 ?_
            have he := Option.some.inj hf
            subst he
            exact kreti hx hb hr hlk hP hD hS dX4_override_138
          · have hf := kIfT c15 hf
            refine lv_bipush (v := (-104 : Int32)) hx hb dX4_override_54 (by decide) ?_
            have he := Option.some.inj hf
            subst he
            exact kreti hx hb hr hlk hP hD hS dX4_override_56
        · have hf := kIfT c12 hf
          refine lv_bipush (v := (-103 : Int32)) hx hb dX4_override_40 (by decide) ?_
          have he := Option.some.inj hf
          subst he
          exact kreti hx hb hr hlk hP hD hS dX4_override_42
    · have hf := kIfF c6 hf
      refine lv_bipush (v := (-102 : Int32)) hx hb dX4_override_21 (by decide) ?_
      have he := Option.some.inj hf
      subst he
      exact kreti hx hb hr hlk hP hD hS dX4_override_23
  · have hf := kIfF c3 hf
    refine lv_bipush (v := (-101 : Int32)) hx hb dX4_override_8 (by decide) ?_
    have he := Option.some.inj hf
    subst he
    exact kreti hx hb hr hlk hP hD hS dX4_override_10
set_option maxHeartbeats 4000000 in
set_option maxRecDepth 100000 in
theorem kX4_removeArc (l : Launch) (D : va_G) (cI : ClassId) (fu : Nat) (a0 a1 a2 : Nat) (M : (Nat → Int32)) (SV : Int32) (MX : (Nat → Int32)) (ML : Int32) (MA : Int32) (MH : Int64) (x1 : Int32) (x2 : Int32) (o : Int32 × (Nat → Int32) × Int32) (hf : fX4_removeArc fu M SV x1 x2 = some o) : Ct l yX4_removeArc wsX4_removeArc { frames := 2, cells := 0, slots := 0, locals := 44 } D cI [.ref a0, .int x1, .int x2] (wX4 cI a0 a1 a2 M SV MX ML MA MH) (wX4 cI a0 a1 a2 o.2.1 o.2.2 MX ML MA MH) (some (.int o.1)) := by
  refine Ct.of (cc := cX4_removeArc) (maxL := 4) (ret := (some .int)) (by decide) rfl (Nat.le_of_ble_eq_true rfl) ?_
  intro p e s m args below meth c A F hP hD hS ls hl
  obtain ⟨hx, hb, hml, hr, hown, hts, hlk, hK, hA⟩ := F
  have hown : s.vm.findClass RX4 = some m.cls := hown
  have hl : lv_has ls 4 [(0, .ref a0), (1, .int x1), (2, .int x2)] := hl
  unfold fX4_removeArc at hf
  refine lv_aload_n hx hb dX4_removeArc_0 rfl (lv_at hl 0 rfl) ?_
  refine lv_iload_n hx hb dX4_removeArc_1 rfl (lv_at hl 1 rfl) ?_
  obtain ⟨v1, h2, hf⟩ := kBind hf
  refine kgoR (krunV (wc := (wX4 cI a0 a1 a2 M SV MX ML MA MH)) (As := [.int x1]) (rest := []) (ci := 4) hx hb hml hown hts hK (kX4_isCrane l D cI a0 a1 a2 M SV MX ML MA MH x1 v1 h2) gX4_removeArc_X4_isCrane rfl rfl rfl hdX4_isCrane ⟨Nat.le_of_ble_eq_true rfl, Nat.le_of_ble_eq_true rfl⟩ hP hD rfl rfl rfl rfl hl.1 rfl (Nat.le_of_ble_eq_true rfl) dX4_removeArc_2 ⟨Nat.zero_le _, Nat.zero_le _⟩) hP hD hS hA [0, 1, 2] rfl (fun H locs hP hS => ?_)
  refine kif_eqb (tgt := 15) hx hb dX4_removeArc_5 (by decide) (fun c3 => ?_) (fun c3 => ?_)
  · have hf := kIfF c3 hf
    refine lv_bipush (v := (-101 : Int32)) hx hb dX4_removeArc_15 (by decide) ?_
    have he := Option.some.inj hf
    subst he
    exact kreti hx hb hr hlk hP hD hS dX4_removeArc_17
  · have hf := kIfT c3 hf
    refine lv_iload_n hx hb dX4_removeArc_8 rfl (lv_at hl 2 rfl) ?_
    obtain ⟨v4, h5, hf⟩ := kBind hf
    refine kgoR (krunS (wc := ([] : va_W)) (As := [.int x2]) (rest := []) hx hb hml hown hts hK (kX4_isZone l D cI x2 v4 h5) gX4_removeArc_X4_isZone rfl rfl rfl hdX4_isZone ⟨Nat.le_of_ble_eq_true rfl, Nat.le_of_ble_eq_true rfl⟩ k_P0 (k_D0 A) rfl hl.1 rfl (Nat.le_of_ble_eq_true rfl) dX4_removeArc_9 ⟨Nat.zero_le _, Nat.zero_le _⟩) hP hD hS hA [] rfl (fun H locs hP hS => ?_)
    refine kif_neb (tgt := 18) hx hb dX4_removeArc_12 (by decide) (fun c6 => ?_) (fun c6 => ?_)
    · have hf := kIfT c6 hf
      refine lv_aload_n hx hb dX4_removeArc_18 rfl (lv_at hl 0 rfl) ?_
      obtain ⟨v7, h8, hf⟩ := kBind hf
      refine kgoA (krunV (wc := (wX4 cI a0 a1 a2 M SV MX ML MA MH)) (As := []) (rest := []) (ci := 4) hx hb hml hown hts hK (kX4_saves l D cI fu a0 a1 a2 M SV MX ML MA MH v7 h8) gX4_removeArc_X4_saves rfl rfl rfl hdX4_saves ⟨Nat.le_of_ble_eq_true rfl, Nat.le_of_ble_eq_true rfl⟩ hP hD rfl rfl rfl rfl hl.1 rfl (Nat.le_of_ble_eq_true rfl) dX4_removeArc_19 ⟨Nat.zero_le _, Nat.zero_le _⟩) hD hS hA (fun H locs hP hD hS => ?_)
      refine lv_aload_n hx hb dX4_removeArc_22 rfl (lv_at hl 0 rfl) ?_
      refine lv_iload_n hx hb dX4_removeArc_23 rfl (lv_at hl 1 rfl) ?_
      refine lv_iload_n hx hb dX4_removeArc_24 rfl (lv_at hl 2 rfl) ?_
      obtain ⟨v9, h10, hf⟩ := kBind hf
      refine kgoR (krunV (wc := (wX4 cI a0 a1 a2 v7.1 v7.2 MX ML MA MH)) (As := [.int x1, .int x2]) (rest := []) (ci := 4) hx hb hml hown hts hK (kX4_hasArc l D cI a0 a1 a2 v7.1 v7.2 MX ML MA MH x1 x2 v9 h10) gX4_removeArc_X4_hasArc rfl rfl rfl hdX4_hasArc ⟨Nat.le_of_ble_eq_true rfl, Nat.le_of_ble_eq_true rfl⟩ hP hD rfl rfl rfl rfl hl.1 rfl (Nat.le_of_ble_eq_true rfl) dX4_removeArc_25 ⟨Nat.zero_le _, Nat.zero_le _⟩) hP hD hS hA [0, 1, 2] rfl (fun H locs hP hS => ?_)
      refine kif_eqb (tgt := 35) hx hb dX4_removeArc_28 (by decide) (fun c11 => ?_) (fun c11 => ?_)
      · have hf := kIfF c11 hf
        refine lv_iconst (v := (0 : Int32)) hx hb dX4_removeArc_35 (by decide) ?_
        refine lv_istore_n (lv' := [(3, .int (0 : Int32)), (0, .ref a0), (1, .int x1), (2, .int x2)]) hx hb dX4_removeArc_36 rfl hl (by decide) rfl (fun ls hl => ?_)
        refine lv_aload_n hx hb dX4_removeArc_37 rfl (lv_at hl 1 rfl) ?_
        refine lv_iload_n hx hb dX4_removeArc_38 rfl (lv_at hl 2 rfl) ?_
        refine lv_bipush (v := (9 : Int32)) hx hb dX4_removeArc_39 (by decide) ?_
        refine lv_iconst (v := (2 : Int32)) hx hb dX4_removeArc_41 (by decide) ?_
        refine lv_iload_n hx hb dX4_removeArc_42 rfl (lv_at hl 3 rfl) ?_
        refine lv_imul hx hb dX4_removeArc_43 ?_
        refine lv_iadd hx hb dX4_removeArc_44 ?_
        refine lv_bipush (v := (-100 : Int32)) hx hb dX4_removeArc_45 (by decide) ?_
        obtain ⟨v12, h13, hf⟩ := kBind hf
        refine kgoA (krunV (wc := (wX4 cI a0 a1 a2 v7.1 v7.2 MX ML MA MH)) (As := [.int x1, .int ((9 : Int32) + ((2 : Int32) * x2)), .int (-100 : Int32)]) (rest := []) (ci := 4) hx hb hml hown hts hK (kX4_sets l D cI a0 a1 a2 v7.1 v7.2 MX ML MA MH x1 ((9 : Int32) + ((2 : Int32) * x2)) (-100 : Int32) v12 h13) gX4_removeArc_X4_sets rfl rfl rfl hdX4_sets ⟨Nat.le_of_ble_eq_true rfl, Nat.le_of_ble_eq_true rfl⟩ hP hD rfl rfl rfl rfl hl.1 rfl (Nat.le_of_ble_eq_true rfl) dX4_removeArc_47 ⟨Nat.zero_le _, Nat.zero_le _⟩) hD hS hA (fun H locs hP hD hS => ?_)
        refine lv_aload_n hx hb dX4_removeArc_50 rfl (lv_at hl 1 rfl) ?_
        refine lv_iload_n hx hb dX4_removeArc_51 rfl (lv_at hl 2 rfl) ?_
        refine lv_bipush (v := (9 : Int32)) hx hb dX4_removeArc_52 (by decide) ?_
        refine lv_iconst (v := (2 : Int32)) hx hb dX4_removeArc_54 (by decide) ?_
        refine lv_iload_n hx hb dX4_removeArc_55 rfl (lv_at hl 3 rfl) ?_
        refine lv_imul hx hb dX4_removeArc_56 ?_
        refine lv_iadd hx hb dX4_removeArc_57 ?_
        refine lv_iconst (v := (1 : Int32)) hx hb dX4_removeArc_58 (by decide) ?_
        refine lv_iadd hx hb dX4_removeArc_59 ?_
        refine lv_bipush (v := (-100 : Int32)) hx hb dX4_removeArc_60 (by decide) ?_
        obtain ⟨v14, h15, hf⟩ := kBind hf
        refine kgoA (krunV (wc := (wX4 cI a0 a1 a2 v12 v7.2 MX ML MA MH)) (As := [.int x1, .int (((9 : Int32) + ((2 : Int32) * x2)) + (1 : Int32)), .int (-100 : Int32)]) (rest := []) (ci := 4) hx hb hml hown hts hK (kX4_sets l D cI a0 a1 a2 v12 v7.2 MX ML MA MH x1 (((9 : Int32) + ((2 : Int32) * x2)) + (1 : Int32)) (-100 : Int32) v14 h15) gX4_removeArc_X4_sets rfl rfl rfl hdX4_sets ⟨Nat.le_of_ble_eq_true rfl, Nat.le_of_ble_eq_true rfl⟩ hP hD rfl rfl rfl rfl hl.1 rfl (Nat.le_of_ble_eq_true rfl) dX4_removeArc_62 ⟨Nat.zero_le _, Nat.zero_le _⟩) hD hS hA (fun H locs hP hD hS => ?_)
        refine lv_iload_n hx hb dX4_removeArc_65 rfl (lv_at hl 0 rfl) ?_
        have he := Option.some.inj hf
        subst he
        exact kreti hx hb hr hlk hP hD hS dX4_removeArc_66
      · have hf := kIfT c11 hf
        refine lv_iconst (v := (1 : Int32)) hx hb dX4_removeArc_31 (by decide) ?_
        refine lv_goto (tgt := 36) hx hb dX4_removeArc_32 (by decide) ?_
        refine lv_istore_n (lv' := [(3, .int (1 : Int32)), (0, .ref a0), (1, .int x1), (2, .int x2)]) hx hb dX4_removeArc_36 rfl hl (by decide) rfl (fun ls hl => ?_)
        refine lv_aload_n hx hb dX4_removeArc_37 rfl (lv_at hl 1 rfl) ?_
        refine lv_iload_n hx hb dX4_removeArc_38 rfl (lv_at hl 2 rfl) ?_
        refine lv_bipush (v := (9 : Int32)) hx hb dX4_removeArc_39 (by decide) ?_
        refine lv_iconst (v := (2 : Int32)) hx hb dX4_removeArc_41 (by decide) ?_
        refine lv_iload_n hx hb dX4_removeArc_42 rfl (lv_at hl 3 rfl) ?_
        refine lv_imul hx hb dX4_removeArc_43 ?_
        refine lv_iadd hx hb dX4_removeArc_44 ?_
        refine lv_bipush (v := (-100 : Int32)) hx hb dX4_removeArc_45 (by decide) ?_
        obtain ⟨v16, h17, hf⟩ := kBind hf
        refine kgoA (krunV (wc := (wX4 cI a0 a1 a2 v7.1 v7.2 MX ML MA MH)) (As := [.int x1, .int ((9 : Int32) + ((2 : Int32) * x2)), .int (-100 : Int32)]) (rest := []) (ci := 4) hx hb hml hown hts hK (kX4_sets l D cI a0 a1 a2 v7.1 v7.2 MX ML MA MH x1 ((9 : Int32) + ((2 : Int32) * x2)) (-100 : Int32) v16 h17) gX4_removeArc_X4_sets rfl rfl rfl hdX4_sets ⟨Nat.le_of_ble_eq_true rfl, Nat.le_of_ble_eq_true rfl⟩ hP hD rfl rfl rfl rfl hl.1 rfl (Nat.le_of_ble_eq_true rfl) dX4_removeArc_47 ⟨Nat.zero_le _, Nat.zero_le _⟩) hD hS hA (fun H locs hP hD hS => ?_)
        refine lv_aload_n hx hb dX4_removeArc_50 rfl (lv_at hl 1 rfl) ?_
        refine lv_iload_n hx hb dX4_removeArc_51 rfl (lv_at hl 2 rfl) ?_
        refine lv_bipush (v := (9 : Int32)) hx hb dX4_removeArc_52 (by decide) ?_
        refine lv_iconst (v := (2 : Int32)) hx hb dX4_removeArc_54 (by decide) ?_
        refine lv_iload_n hx hb dX4_removeArc_55 rfl (lv_at hl 3 rfl) ?_
        refine lv_imul hx hb dX4_removeArc_56 ?_
        refine lv_iadd hx hb dX4_removeArc_57 ?_
        refine lv_iconst (v := (1 : Int32)) hx hb dX4_removeArc_58 (by decide) ?_
        refine lv_iadd hx hb dX4_removeArc_59 ?_
        refine lv_bipush (v := (-100 : Int32)) hx hb dX4_removeArc_60 (by decide) ?_
        obtain ⟨v18, h19, hf⟩ := kBind hf
        refine kgoA (krunV (wc := (wX4 cI a0 a1 a2 v16 v7.2 MX ML MA MH)) (As := [.int x1, .int (((9 : Int32) + ((2 : Int32) * x2)) + (1 : Int32)), .int (-100 : Int32)]) (rest := []) (ci := 4) hx hb hml hown hts hK (kX4_sets l D cI a0 a1 a2 v16 v7.2 MX ML MA MH x1 (((9 : Int32) + ((2 : Int32) * x2)) + (1 : Int32)) (-100 : Int32) v18 h19) gX4_removeArc_X4_sets rfl rfl rfl hdX4_sets ⟨Nat.le_of_ble_eq_true rfl, Nat.le_of_ble_eq_true rfl⟩ hP hD rfl rfl rfl rfl hl.1 rfl (Nat.le_of_ble_eq_true rfl) dX4_removeArc_62 ⟨Nat.zero_le _, Nat.zero_le _⟩) hD hS hA (fun H locs hP hD hS => ?_)
        refine lv_iload_n hx hb dX4_removeArc_65 rfl (lv_at hl 0 rfl) ?_
        have he := Option.some.inj hf
        subst he
        exact kreti hx hb hr hlk hP hD hS dX4_removeArc_66
    · have hf := kIfF c6 hf
      refine lv_bipush (v := (-101 : Int32)) hx hb dX4_removeArc_15 (by decide) ?_
      have he := Option.some.inj hf
      subst he
      exact kreti hx hb hr hlk hP hD hS dX4_removeArc_17
set_option maxHeartbeats 4000000 in
set_option maxRecDepth 100000 in
theorem kX4_setArc (l : Launch) (D : va_G) (cI : ClassId) (fu : Nat) (a0 a1 a2 : Nat) (M : (Nat → Int32)) (SV : Int32) (MX : (Nat → Int32)) (ML : Int32) (MA : Int32) (MH : Int64) (x1 : Int32) (x2 : Int32) (x3 : Int32) (x4 : Int32) (o : Int32 × (Nat → Int32) × Int32) (hf : fX4_setArc fu M SV x1 x2 x3 x4 = some o) : Ct l yX4_setArc wsX4_setArc { frames := 5, cells := 0, slots := 0, locals := 114 } D cI [.ref a0, .int x1, .int x2, .int x3, .int x4] (wX4 cI a0 a1 a2 M SV MX ML MA MH) (wX4 cI a0 a1 a2 o.2.1 o.2.2 MX ML MA MH) (some (.int o.1)) := by
  refine Ct.of (cc := cX4_setArc) (maxL := 9) (ret := (some .int)) (by decide) rfl (Nat.le_of_ble_eq_true rfl) ?_
  intro p e s m args below meth c A F hP hD hS ls hl
  obtain ⟨hx, hb, hml, hr, hown, hts, hlk, hK, hA⟩ := F
  have hown : s.vm.findClass RX4 = some m.cls := hown
  have hl : lv_has ls 9 [(0, .ref a0), (1, .int x1), (2, .int x2), (3, .int x3), (4, .int x4)] := hl
  unfold fX4_setArc at hf
  refine lv_aload_n hx hb dX4_setArc_0 rfl (lv_at hl 0 rfl) ?_
  refine lv_iload_n hx hb dX4_setArc_1 rfl (lv_at hl 1 rfl) ?_
  obtain ⟨v1, h2, hf⟩ := kBind hf
  refine kgoR (krunV (wc := (wX4 cI a0 a1 a2 M SV MX ML MA MH)) (As := [.int x1]) (rest := []) (ci := 4) hx hb hml hown hts hK (kX4_isCrane l D cI a0 a1 a2 M SV MX ML MA MH x1 v1 h2) gX4_setArc_X4_isCrane rfl rfl rfl hdX4_isCrane ⟨Nat.le_of_ble_eq_true rfl, Nat.le_of_ble_eq_true rfl⟩ hP hD rfl rfl rfl rfl hl.1 rfl (Nat.le_of_ble_eq_true rfl) dX4_setArc_2 ⟨Nat.zero_le _, Nat.zero_le _⟩) hP hD hS hA [0, 1, 2] rfl (fun H locs hP hS => ?_)
  refine kif_eqb (tgt := 15) hx hb dX4_setArc_5 (by decide) (fun c3 => ?_) (fun c3 => ?_)
  · have hf := kIfF c3 hf
    refine lv_bipush (v := (-101 : Int32)) hx hb dX4_setArc_15 (by decide) ?_
    have he := Option.some.inj hf
    subst he
    exact kreti hx hb hr hlk hP hD hS dX4_setArc_17
  · have hf := kIfT c3 hf
    refine lv_iload_n hx hb dX4_setArc_8 rfl (lv_at hl 2 rfl) ?_
    obtain ⟨v4, h5, hf⟩ := kBind hf
    refine kgoR (krunS (wc := ([] : va_W)) (As := [.int x2]) (rest := []) hx hb hml hown hts hK (kX4_isZone l D cI x2 v4 h5) gX4_setArc_X4_isZone rfl rfl rfl hdX4_isZone ⟨Nat.le_of_ble_eq_true rfl, Nat.le_of_ble_eq_true rfl⟩ k_P0 (k_D0 A) rfl hl.1 rfl (Nat.le_of_ble_eq_true rfl) dX4_setArc_9 ⟨Nat.zero_le _, Nat.zero_le _⟩) hP hD hS hA [] rfl (fun H locs hP hS => ?_)
    refine kif_neb (tgt := 18) hx hb dX4_setArc_12 (by decide) (fun c6 => ?_) (fun c6 => ?_)
    · have hf := kIfT c6 hf
      refine lv_iload_n hx hb dX4_setArc_18 rfl (lv_at hl 3 rfl) ?_
      obtain ⟨v7, h8, hf⟩ := kBind hf
      refine kgoR (krunS (wc := ([] : va_W)) (As := [.int x3]) (rest := []) hx hb hml hown hts hK (kX4_isAngle l D cI x3 v7 h8) gX4_setArc_X4_isAngle rfl rfl rfl hdX4_isAngle ⟨Nat.le_of_ble_eq_true rfl, Nat.le_of_ble_eq_true rfl⟩ k_P0 (k_D0 A) rfl hl.1 rfl (Nat.le_of_ble_eq_true rfl) dX4_setArc_19 ⟨Nat.zero_le _, Nat.zero_le _⟩) hP hD hS hA [] rfl (fun H locs hP hS => ?_)
      refine kif_eqb (tgt := 33) hx hb dX4_setArc_22 (by decide) (fun c9 => ?_) (fun c9 => ?_)
      · have hf := kIfF c9 hf
        refine lv_bipush (v := (-102 : Int32)) hx hb dX4_setArc_33 (by decide) ?_
        have he := Option.some.inj hf
        subst he
        exact kreti hx hb hr hlk hP hD hS dX4_setArc_35
      · have hf := kIfT c9 hf
        refine lv_iload hx hb dX4_setArc_25 (lv_at hl 4 rfl) ?_
        obtain ⟨v10, h11, hf⟩ := kBind hf
        refine kgoR (krunS (wc := ([] : va_W)) (As := [.int x4]) (rest := []) hx hb hml hown hts hK (kX4_isAngle l D cI x4 v10 h11) gX4_setArc_X4_isAngle rfl rfl rfl hdX4_isAngle ⟨Nat.le_of_ble_eq_true rfl, Nat.le_of_ble_eq_true rfl⟩ k_P0 (k_D0 A) rfl hl.1 rfl (Nat.le_of_ble_eq_true rfl) dX4_setArc_27 ⟨Nat.zero_le _, Nat.zero_le _⟩) hP hD hS hA [] rfl (fun H locs hP hS => ?_)
        refine kif_neb (tgt := 36) hx hb dX4_setArc_30 (by decide) (fun c12 => ?_) (fun c12 => ?_)
        · have hf := kIfT c12 hf
          refine lv_aload_n hx hb dX4_setArc_36 rfl (lv_at hl 0 rfl) ?_
          refine lv_iload_n hx hb dX4_setArc_37 rfl (lv_at hl 1 rfl) ?_
          refine lv_bipush (v := (7 : Int32)) hx hb dX4_setArc_38 (by decide) ?_
          obtain ⟨v13, h14, hf⟩ := kBind hf
          refine kgoR (krunV (wc := (wX4 cI a0 a1 a2 M SV MX ML MA MH)) (As := [.int x1, .int (7 : Int32)]) (rest := []) (ci := 4) hx hb hml hown hts hK (kX4_of l D cI a0 a1 a2 M SV MX ML MA MH x1 (7 : Int32) v13 h14) gX4_setArc_X4_of rfl rfl rfl hdX4_of ⟨Nat.le_of_ble_eq_true rfl, Nat.le_of_ble_eq_true rfl⟩ hP hD rfl rfl rfl rfl hl.1 rfl (Nat.le_of_ble_eq_true rfl) dX4_setArc_40 ⟨Nat.zero_le _, Nat.zero_le _⟩) hP hD hS hA [0, 1, 2] rfl (fun H locs hP hS => ?_)
          refine lv_iconst (v := (1 : Int32)) hx hb dX4_setArc_43 (by decide) ?_
          refine lv_icmp_ne (tgt := 50) hx hb dX4_setArc_44 (by decide) (fun c15 => ?_) (fun c15 => ?_)
          · have hf := kIfF c15 hf
            refine lv_aload_n hx hb dX4_setArc_50 rfl (lv_at hl 0 rfl) ?_
            refine lv_iload_n hx hb dX4_setArc_51 rfl (lv_at hl 1 rfl) ?_
            refine lv_bipush (v := (9 : Int32)) hx hb dX4_setArc_52 (by decide) ?_
            refine lv_iconst (v := (2 : Int32)) hx hb dX4_setArc_54 (by decide) ?_
            refine lv_iload_n hx hb dX4_setArc_55 rfl (lv_at hl 2 rfl) ?_
            refine lv_imul hx hb dX4_setArc_56 ?_
            refine lv_iadd hx hb dX4_setArc_57 ?_
            obtain ⟨v16, h17, hf⟩ := kBind hf
            refine kgoR (krunV (wc := (wX4 cI a0 a1 a2 M SV MX ML MA MH)) (As := [.int x1, .int ((9 : Int32) + ((2 : Int32) * x2))]) (rest := []) (ci := 4) hx hb hml hown hts hK (kX4_of l D cI a0 a1 a2 M SV MX ML MA MH x1 ((9 : Int32) + ((2 : Int32) * x2)) v16 h17) gX4_setArc_X4_of rfl rfl rfl hdX4_of ⟨Nat.le_of_ble_eq_true rfl, Nat.le_of_ble_eq_true rfl⟩ hP hD rfl rfl rfl rfl hl.1 rfl (Nat.le_of_ble_eq_true rfl) dX4_setArc_58 ⟨Nat.zero_le _, Nat.zero_le _⟩) hP hD hS hA [0, 1, 2] rfl (fun H locs hP hS => ?_)
            refine lv_istore (lv' := [(5, .int v16), (0, .ref a0), (1, .int x1), (2, .int x2), (3, .int x3), (4, .int x4)]) hx hb dX4_setArc_61 hl (by decide) rfl (fun ls hl => ?_)
            refine lv_aload_n hx hb dX4_setArc_63 rfl (lv_at hl 1 rfl) ?_
            refine lv_iload_n hx hb dX4_setArc_64 rfl (lv_at hl 2 rfl) ?_
            refine lv_bipush (v := (9 : Int32)) hx hb dX4_setArc_65 (by decide) ?_
            refine lv_iconst (v := (2 : Int32)) hx hb dX4_setArc_67 (by decide) ?_
            refine lv_iload_n hx hb dX4_setArc_68 rfl (lv_at hl 3 rfl) ?_
            refine lv_imul hx hb dX4_setArc_69 ?_
            refine lv_iadd hx hb dX4_setArc_70 ?_
            refine lv_iconst (v := (1 : Int32)) hx hb dX4_setArc_71 (by decide) ?_
            refine lv_iadd hx hb dX4_setArc_72 ?_
            obtain ⟨v18, h19, hf⟩ := kBind hf
            refine kgoR (krunV (wc := (wX4 cI a0 a1 a2 M SV MX ML MA MH)) (As := [.int x1, .int (((9 : Int32) + ((2 : Int32) * x2)) + (1 : Int32))]) (rest := []) (ci := 4) hx hb hml hown hts hK (kX4_of l D cI a0 a1 a2 M SV MX ML MA MH x1 (((9 : Int32) + ((2 : Int32) * x2)) + (1 : Int32)) v18 h19) gX4_setArc_X4_of rfl rfl rfl hdX4_of ⟨Nat.le_of_ble_eq_true rfl, Nat.le_of_ble_eq_true rfl⟩ hP hD rfl rfl rfl rfl hl.1 rfl (Nat.le_of_ble_eq_true rfl) dX4_setArc_73 ⟨Nat.zero_le _, Nat.zero_le _⟩) hP hD hS hA [0, 1, 2] rfl (fun H locs hP hS => ?_)
            refine lv_istore (lv' := [(6, .int v18), (5, .int v16), (0, .ref a0), (1, .int x1), (2, .int x2), (3, .int x3), (4, .int x4)]) hx hb dX4_setArc_76 hl (by decide) rfl (fun ls hl => ?_)
            refine lv_aload_n hx hb dX4_setArc_78 rfl (lv_at hl 2 rfl) ?_
            refine lv_iload_n hx hb dX4_setArc_79 rfl (lv_at hl 4 rfl) ?_
            obtain ⟨v20, h21, hf⟩ := kBind hf
            refine kgoR (krunV (wc := (wX4 cI a0 a1 a2 M SV MX ML MA MH)) (As := [.int x2]) (rest := []) (ci := 4) hx hb hml hown hts hK (kX4_isConflict l D cI fu a0 a1 a2 M SV MX ML MA MH x2 v20 h21) gX4_setArc_X4_isConflict rfl rfl rfl hdX4_isConflict ⟨Nat.le_of_ble_eq_true rfl, Nat.le_of_ble_eq_true rfl⟩ hP hD rfl rfl rfl rfl hl.1 rfl (Nat.le_of_ble_eq_true rfl) dX4_setArc_80 ⟨Nat.zero_le _, Nat.zero_le _⟩) hP hD hS hA [0, 1, 2] rfl (fun H locs hP hS => ?_)
            refine lv_istore (lv' := [(7, .int (bI v20)), (6, .int v18), (5, .int v16), (0, .ref a0), (1, .int x1), (2, .int x2), (3, .int x3), (4, .int x4)]) hx hb dX4_setArc_83 hl (by decide) rfl (fun ls hl => ?_)
            refine lv_aload_n hx hb dX4_setArc_85 rfl (lv_at hl 3 rfl) ?_
            refine lv_iload_n hx hb dX4_setArc_86 rfl (lv_at hl 4 rfl) ?_
            refine lv_bipush (v := (9 : Int32)) hx hb dX4_setArc_87 (by decide) ?_
            refine lv_iconst (v := (2 : Int32)) hx hb dX4_setArc_89 (by decide) ?_
            refine lv_iload_n hx hb dX4_setArc_90 rfl (lv_at hl 5 rfl) ?_
            refine lv_imul hx hb dX4_setArc_91 ?_
            refine lv_iadd hx hb dX4_setArc_92 ?_
            refine lv_iload_n hx hb dX4_setArc_93 rfl (lv_at hl 6 rfl) ?_
            obtain ⟨v22, h23, hf⟩ := kBind hf
            refine kgoA (krunV (wc := (wX4 cI a0 a1 a2 M SV MX ML MA MH)) (As := [.int x1, .int ((9 : Int32) + ((2 : Int32) * x2)), .int x3]) (rest := []) (ci := 4) hx hb hml hown hts hK (kX4_sets l D cI a0 a1 a2 M SV MX ML MA MH x1 ((9 : Int32) + ((2 : Int32) * x2)) x3 v22 h23) gX4_setArc_X4_sets rfl rfl rfl hdX4_sets ⟨Nat.le_of_ble_eq_true rfl, Nat.le_of_ble_eq_true rfl⟩ hP hD rfl rfl rfl rfl hl.1 rfl (Nat.le_of_ble_eq_true rfl) dX4_setArc_94 ⟨Nat.zero_le _, Nat.zero_le _⟩) hD hS hA (fun H locs hP hD hS => ?_)
            refine lv_aload_n hx hb dX4_setArc_97 rfl (lv_at hl 3 rfl) ?_
            refine lv_iload_n hx hb dX4_setArc_98 rfl (lv_at hl 4 rfl) ?_
            refine lv_bipush (v := (9 : Int32)) hx hb dX4_setArc_99 (by decide) ?_
            refine lv_iconst (v := (2 : Int32)) hx hb dX4_setArc_101 (by decide) ?_
            refine lv_iload_n hx hb dX4_setArc_102 rfl (lv_at hl 5 rfl) ?_
            refine lv_imul hx hb dX4_setArc_103 ?_
            refine lv_iadd hx hb dX4_setArc_104 ?_
            refine lv_iconst (v := (1 : Int32)) hx hb dX4_setArc_105 (by decide) ?_
            refine lv_iadd hx hb dX4_setArc_106 ?_
            refine lv_iload hx hb dX4_setArc_107 (lv_at hl 7 rfl) ?_
            obtain ⟨v24, h25, hf⟩ := kBind hf
            refine kgoA (krunV (wc := (wX4 cI a0 a1 a2 v22 SV MX ML MA MH)) (As := [.int x1, .int (((9 : Int32) + ((2 : Int32) * x2)) + (1 : Int32)), .int x4]) (rest := []) (ci := 4) hx hb hml hown hts hK (kX4_sets l D cI a0 a1 a2 v22 SV MX ML MA MH x1 (((9 : Int32) + ((2 : Int32) * x2)) + (1 : Int32)) x4 v24 h25) gX4_setArc_X4_sets rfl rfl rfl hdX4_sets ⟨Nat.le_of_ble_eq_true rfl, Nat.le_of_ble_eq_true rfl⟩ hP hD rfl rfl rfl rfl hl.1 rfl (Nat.le_of_ble_eq_true rfl) dX4_setArc_109 ⟨Nat.zero_le _, Nat.zero_le _⟩) hD hS hA (fun H locs hP hD hS => ?_)
            refine lv_aload_n hx hb dX4_setArc_112 rfl (lv_at hl 3 rfl) ?_
            refine lv_iload_n hx hb dX4_setArc_113 rfl (lv_at hl 5 rfl) ?_
            obtain ⟨v26, h27, hf⟩ := kBind hf
            refine kgoR (krunV (wc := (wX4 cI a0 a1 a2 v24 SV MX ML MA MH)) (As := [.int x2]) (rest := []) (ci := 4) hx hb hml hown hts hK (kX4_isConflict l D cI fu a0 a1 a2 v24 SV MX ML MA MH x2 v26 h27) gX4_setArc_X4_isConflict rfl rfl rfl hdX4_isConflict ⟨Nat.le_of_ble_eq_true rfl, Nat.le_of_ble_eq_true rfl⟩ hP hD rfl rfl rfl rfl hl.1 rfl (Nat.le_of_ble_eq_true rfl) dX4_setArc_114 ⟨Nat.zero_le _, Nat.zero_le _⟩) hP hD hS hA [0, 1, 2] rfl (fun H locs hP hS => ?_)
            refine lv_istore (lv' := [(8, .int (bI v26)), (7, .int (bI v20)), (6, .int v18), (5, .int v16), (0, .ref a0), (1, .int x1), (2, .int x2), (3, .int x3), (4, .int x4)]) hx hb dX4_setArc_117 hl (by decide) rfl (fun ls hl => ?_)
            refine lv_aload_n hx hb dX4_setArc_119 rfl (lv_at hl 4 rfl) ?_
            refine lv_iload_n hx hb dX4_setArc_120 rfl (lv_at hl 5 rfl) ?_
            refine lv_bipush (v := (9 : Int32)) hx hb dX4_setArc_121 (by decide) ?_
            refine lv_iconst (v := (2 : Int32)) hx hb dX4_setArc_123 (by decide) ?_
            refine lv_iload_n hx hb dX4_setArc_124 rfl (lv_at hl 6 rfl) ?_
            refine lv_imul hx hb dX4_setArc_125 ?_
            refine lv_iadd hx hb dX4_setArc_126 ?_
            refine lv_iload hx hb dX4_setArc_127 (lv_at hl 3 rfl) ?_
            obtain ⟨v28, h29, hf⟩ := kBind hf
            refine kgoA (krunV (wc := (wX4 cI a0 a1 a2 v24 SV MX ML MA MH)) (As := [.int x1, .int ((9 : Int32) + ((2 : Int32) * x2)), .int v16]) (rest := []) (ci := 4) hx hb hml hown hts hK (kX4_sets l D cI a0 a1 a2 v24 SV MX ML MA MH x1 ((9 : Int32) + ((2 : Int32) * x2)) v16 v28 h29) gX4_setArc_X4_sets rfl rfl rfl hdX4_sets ⟨Nat.le_of_ble_eq_true rfl, Nat.le_of_ble_eq_true rfl⟩ hP hD rfl rfl rfl rfl hl.1 rfl (Nat.le_of_ble_eq_true rfl) dX4_setArc_129 ⟨Nat.zero_le _, Nat.zero_le _⟩) hD hS hA (fun H locs hP hD hS => ?_)
            refine lv_aload_n hx hb dX4_setArc_132 rfl (lv_at hl 4 rfl) ?_
            refine lv_iload_n hx hb dX4_setArc_133 rfl (lv_at hl 5 rfl) ?_
            refine lv_bipush (v := (9 : Int32)) hx hb dX4_setArc_134 (by decide) ?_
            refine lv_iconst (v := (2 : Int32)) hx hb dX4_setArc_136 (by decide) ?_
            refine lv_iload_n hx hb dX4_setArc_137 rfl (lv_at hl 6 rfl) ?_
            refine lv_imul hx hb dX4_setArc_138 ?_
            refine lv_iadd hx hb dX4_setArc_139 ?_
            refine lv_iconst (v := (1 : Int32)) hx hb dX4_setArc_140 (by decide) ?_
            refine lv_iadd hx hb dX4_setArc_141 ?_
            refine lv_iload hx hb dX4_setArc_142 (lv_at hl 2 rfl) ?_
            obtain ⟨v30, h31, hf⟩ := kBind hf
            refine kgoA (krunV (wc := (wX4 cI a0 a1 a2 v28 SV MX ML MA MH)) (As := [.int x1, .int (((9 : Int32) + ((2 : Int32) * x2)) + (1 : Int32)), .int v18]) (rest := []) (ci := 4) hx hb hml hown hts hK (kX4_sets l D cI a0 a1 a2 v28 SV MX ML MA MH x1 (((9 : Int32) + ((2 : Int32) * x2)) + (1 : Int32)) v18 v30 h31) gX4_setArc_X4_sets rfl rfl rfl hdX4_sets ⟨Nat.le_of_ble_eq_true rfl, Nat.le_of_ble_eq_true rfl⟩ hP hD rfl rfl rfl rfl hl.1 rfl (Nat.le_of_ble_eq_true rfl) dX4_setArc_144 ⟨Nat.zero_le _, Nat.zero_le _⟩) hD hS hA (fun H locs hP hD hS => ?_)
            refine lv_iload hx hb dX4_setArc_147 (lv_at hl 0 rfl) ?_
            refine kif_eqb (tgt := 160) hx hb dX4_setArc_149 (by decide) (fun c32 => ?_) (fun c32 => ?_)
            · have hf := kIfF c32 hf
              refine lv_aload_n hx hb dX4_setArc_160 rfl (lv_at hl 4 rfl) ?_
              obtain ⟨v33, h34, hf⟩ := kBind hf
              refine kgoA (krunV (wc := (wX4 cI a0 a1 a2 v30 SV MX ML MA MH)) (As := []) (rest := []) (ci := 4) hx hb hml hown hts hK (kX4_saves l D cI fu a0 a1 a2 v30 SV MX ML MA MH v33 h34) gX4_setArc_X4_saves rfl rfl rfl hdX4_saves ⟨Nat.le_of_ble_eq_true rfl, Nat.le_of_ble_eq_true rfl⟩ hP hD rfl rfl rfl rfl hl.1 rfl (Nat.le_of_ble_eq_true rfl) dX4_setArc_161 ⟨Nat.zero_le _, Nat.zero_le _⟩) hD hS hA (fun H locs hP hD hS => ?_)
              refine lv_aload_n hx hb dX4_setArc_164 rfl (lv_at hl 4 rfl) ?_
              refine lv_iload_n hx hb dX4_setArc_165 rfl (lv_at hl 5 rfl) ?_
              refine lv_bipush (v := (9 : Int32)) hx hb dX4_setArc_166 (by decide) ?_
              refine lv_iconst (v := (2 : Int32)) hx hb dX4_setArc_168 (by decide) ?_
              refine lv_iload_n hx hb dX4_setArc_169 rfl (lv_at hl 6 rfl) ?_
              refine lv_imul hx hb dX4_setArc_170 ?_
              refine lv_iadd hx hb dX4_setArc_171 ?_
              refine lv_iload_n hx hb dX4_setArc_172 rfl (lv_at hl 7 rfl) ?_
              obtain ⟨v35, h36, hf⟩ := kBind hf
              refine kgoA (krunV (wc := (wX4 cI a0 a1 a2 v33.1 v33.2 MX ML MA MH)) (As := [.int x1, .int ((9 : Int32) + ((2 : Int32) * x2)), .int x3]) (rest := []) (ci := 4) hx hb hml hown hts hK (kX4_sets l D cI a0 a1 a2 v33.1 v33.2 MX ML MA MH x1 ((9 : Int32) + ((2 : Int32) * x2)) x3 v35 h36) gX4_setArc_X4_sets rfl rfl rfl hdX4_sets ⟨Nat.le_of_ble_eq_true rfl, Nat.le_of_ble_eq_true rfl⟩ hP hD rfl rfl rfl rfl hl.1 rfl (Nat.le_of_ble_eq_true rfl) dX4_setArc_173 ⟨Nat.zero_le _, Nat.zero_le _⟩) hD hS hA (fun H locs hP hD hS => ?_)
              refine lv_aload_n hx hb dX4_setArc_176 rfl (lv_at hl 4 rfl) ?_
              refine lv_iload_n hx hb dX4_setArc_177 rfl (lv_at hl 5 rfl) ?_
              refine lv_bipush (v := (9 : Int32)) hx hb dX4_setArc_178 (by decide) ?_
              refine lv_iconst (v := (2 : Int32)) hx hb dX4_setArc_180 (by decide) ?_
              refine lv_iload_n hx hb dX4_setArc_181 rfl (lv_at hl 6 rfl) ?_
              refine lv_imul hx hb dX4_setArc_182 ?_
              refine lv_iadd hx hb dX4_setArc_183 ?_
              refine lv_iconst (v := (1 : Int32)) hx hb dX4_setArc_184 (by decide) ?_
              refine lv_iadd hx hb dX4_setArc_185 ?_
              refine lv_iload hx hb dX4_setArc_186 (lv_at hl 8 rfl) ?_
              obtain ⟨v37, h38, hf⟩ := kBind hf
              refine kgoA (krunV (wc := (wX4 cI a0 a1 a2 v35 v33.2 MX ML MA MH)) (As := [.int x1, .int (((9 : Int32) + ((2 : Int32) * x2)) + (1 : Int32)), .int x4]) (rest := []) (ci := 4) hx hb hml hown hts hK (kX4_sets l D cI a0 a1 a2 v35 v33.2 MX ML MA MH x1 (((9 : Int32) + ((2 : Int32) * x2)) + (1 : Int32)) x4 v37 h38) gX4_setArc_X4_sets rfl rfl rfl hdX4_sets ⟨Nat.le_of_ble_eq_true rfl, Nat.le_of_ble_eq_true rfl⟩ hP hD rfl rfl rfl rfl hl.1 rfl (Nat.le_of_ble_eq_true rfl) dX4_setArc_188 ⟨Nat.zero_le _, Nat.zero_le _⟩) hD hS hA (fun H locs hP hD hS => ?_)
              refine lv_iload hx hb dX4_setArc_191 (lv_at hl 8 rfl) ?_
              refine lv_iload_n hx hb dX4_setArc_193 rfl (lv_at hl 7 rfl) ?_
              refine lv_isub hx hb dX4_setArc_194 ?_
              refine lv_bipush (v := (36 : Int32)) hx hb dX4_setArc_195 (by decide) ?_
              refine lv_iadd hx hb dX4_setArc_197 ?_
              refine lv_bipush (v := (36 : Int32)) hx hb dX4_setArc_198 (by decide) ?_
              refine kirem hx hb dX4_setArc_200 (by decide) ?_
              refine lv_iconst (v := (1 : Int32)) hx hb dX4_setArc_201 (by decide) ?_
              refine lv_iadd hx hb dX4_setArc_202 ?_
              obtain ⟨z39, hz39⟩ : ∃ z : Int32, z = (jrem ((x4 - x3) + (36 : Int32)) (36 : Int32)) + (1 : Int32) := ⟨_, rfl⟩
              rw [← hz39] at hf
              rw [← hz39]
              have he := Option.some.inj hf
              subst he
              exact kreti hx hb hr hlk hP hD hS dX4_setArc_203
            · have hf := kIfT c32 hf
              refine lv_iload hx hb dX4_setArc_152 (lv_at hl 1 rfl) ?_
              refine kif_neb (tgt := 160) hx hb dX4_setArc_154 (by decide) (fun c40 => ?_) (fun c40 => ?_)
              · have hf := kIfT c40 hf
                refine lv_aload_n hx hb dX4_setArc_160 rfl (lv_at hl 4 rfl) ?_
                obtain ⟨v41, h42, hf⟩ := kBind hf
                refine kgoA (krunV (wc := (wX4 cI a0 a1 a2 v30 SV MX ML MA MH)) (As := []) (rest := []) (ci := 4) hx hb hml hown hts hK (kX4_saves l D cI fu a0 a1 a2 v30 SV MX ML MA MH v41 h42) gX4_setArc_X4_saves rfl rfl rfl hdX4_saves ⟨Nat.le_of_ble_eq_true rfl, Nat.le_of_ble_eq_true rfl⟩ hP hD rfl rfl rfl rfl hl.1 rfl (Nat.le_of_ble_eq_true rfl) dX4_setArc_161 ⟨Nat.zero_le _, Nat.zero_le _⟩) hD hS hA (fun H locs hP hD hS => ?_)
                refine lv_aload_n hx hb dX4_setArc_164 rfl (lv_at hl 4 rfl) ?_
                refine lv_iload_n hx hb dX4_setArc_165 rfl (lv_at hl 5 rfl) ?_
                refine lv_bipush (v := (9 : Int32)) hx hb dX4_setArc_166 (by decide) ?_
                refine lv_iconst (v := (2 : Int32)) hx hb dX4_setArc_168 (by decide) ?_
                refine lv_iload_n hx hb dX4_setArc_169 rfl (lv_at hl 6 rfl) ?_
                refine lv_imul hx hb dX4_setArc_170 ?_
                refine lv_iadd hx hb dX4_setArc_171 ?_
                refine lv_iload_n hx hb dX4_setArc_172 rfl (lv_at hl 7 rfl) ?_
                obtain ⟨v43, h44, hf⟩ := kBind hf
                refine kgoA (krunV (wc := (wX4 cI a0 a1 a2 v41.1 v41.2 MX ML MA MH)) (As := [.int x1, .int ((9 : Int32) + ((2 : Int32) * x2)), .int x3]) (rest := []) (ci := 4) hx hb hml hown hts hK (kX4_sets l D cI a0 a1 a2 v41.1 v41.2 MX ML MA MH x1 ((9 : Int32) + ((2 : Int32) * x2)) x3 v43 h44) gX4_setArc_X4_sets rfl rfl rfl hdX4_sets ⟨Nat.le_of_ble_eq_true rfl, Nat.le_of_ble_eq_true rfl⟩ hP hD rfl rfl rfl rfl hl.1 rfl (Nat.le_of_ble_eq_true rfl) dX4_setArc_173 ⟨Nat.zero_le _, Nat.zero_le _⟩) hD hS hA (fun H locs hP hD hS => ?_)
                refine lv_aload_n hx hb dX4_setArc_176 rfl (lv_at hl 4 rfl) ?_
                refine lv_iload_n hx hb dX4_setArc_177 rfl (lv_at hl 5 rfl) ?_
                refine lv_bipush (v := (9 : Int32)) hx hb dX4_setArc_178 (by decide) ?_
                refine lv_iconst (v := (2 : Int32)) hx hb dX4_setArc_180 (by decide) ?_
                refine lv_iload_n hx hb dX4_setArc_181 rfl (lv_at hl 6 rfl) ?_
                refine lv_imul hx hb dX4_setArc_182 ?_
                refine lv_iadd hx hb dX4_setArc_183 ?_
                refine lv_iconst (v := (1 : Int32)) hx hb dX4_setArc_184 (by decide) ?_
                refine lv_iadd hx hb dX4_setArc_185 ?_
                refine lv_iload hx hb dX4_setArc_186 (lv_at hl 8 rfl) ?_
                obtain ⟨v45, h46, hf⟩ := kBind hf
                refine kgoA (krunV (wc := (wX4 cI a0 a1 a2 v43 v41.2 MX ML MA MH)) (As := [.int x1, .int (((9 : Int32) + ((2 : Int32) * x2)) + (1 : Int32)), .int x4]) (rest := []) (ci := 4) hx hb hml hown hts hK (kX4_sets l D cI a0 a1 a2 v43 v41.2 MX ML MA MH x1 (((9 : Int32) + ((2 : Int32) * x2)) + (1 : Int32)) x4 v45 h46) gX4_setArc_X4_sets rfl rfl rfl hdX4_sets ⟨Nat.le_of_ble_eq_true rfl, Nat.le_of_ble_eq_true rfl⟩ hP hD rfl rfl rfl rfl hl.1 rfl (Nat.le_of_ble_eq_true rfl) dX4_setArc_188 ⟨Nat.zero_le _, Nat.zero_le _⟩) hD hS hA (fun H locs hP hD hS => ?_)
                refine lv_iload hx hb dX4_setArc_191 (lv_at hl 8 rfl) ?_
                refine lv_iload_n hx hb dX4_setArc_193 rfl (lv_at hl 7 rfl) ?_
                refine lv_isub hx hb dX4_setArc_194 ?_
                refine lv_bipush (v := (36 : Int32)) hx hb dX4_setArc_195 (by decide) ?_
                refine lv_iadd hx hb dX4_setArc_197 ?_
                refine lv_bipush (v := (36 : Int32)) hx hb dX4_setArc_198 (by decide) ?_
                refine kirem hx hb dX4_setArc_200 (by decide) ?_
                refine lv_iconst (v := (1 : Int32)) hx hb dX4_setArc_201 (by decide) ?_
                refine lv_iadd hx hb dX4_setArc_202 ?_
                obtain ⟨z47, hz47⟩ : ∃ z : Int32, z = (jrem ((x4 - x3) + (36 : Int32)) (36 : Int32)) + (1 : Int32) := ⟨_, rfl⟩
                rw [← hz47] at hf
                rw [← hz47]
                have he := Option.some.inj hf
                subst he
                exact kreti hx hb hr hlk hP hD hS dX4_setArc_203
              · have hf := kIfF c40 hf
                refine lv_bipush (v := (-103 : Int32)) hx hb dX4_setArc_157 (by decide) ?_
                have he := Option.some.inj hf
                subst he
                exact kreti hx hb hr hlk hP hD hS dX4_setArc_159
          · have hf := kIfT c15 hf
            refine lv_bipush (v := (-103 : Int32)) hx hb dX4_setArc_47 (by decide) ?_
            have he := Option.some.inj hf
            subst he
            exact kreti hx hb hr hlk hP hD hS dX4_setArc_49
        · have hf := kIfF c12 hf
          refine lv_bipush (v := (-102 : Int32)) hx hb dX4_setArc_33 (by decide) ?_
          have he := Option.some.inj hf
          subst he
          exact kreti hx hb hr hlk hP hD hS dX4_setArc_35
    · have hf := kIfF c6 hf
      refine lv_bipush (v := (-101 : Int32)) hx hb dX4_setArc_15 (by decide) ?_
      have he := Option.some.inj hf
      subst he
      exact kreti hx hb hr hlk hP hD hS dX4_setArc_17
set_option maxHeartbeats 4000000 in
set_option maxRecDepth 100000 in
theorem kX4_setPriority (l : Launch) (D : va_G) (cI : ClassId) (fu : Nat) (a0 a1 a2 : Nat) (M : (Nat → Int32)) (SV : Int32) (MX : (Nat → Int32)) (ML : Int32) (MA : Int32) (MH : Int64) (x1 : Int32) (x2 : Int32) (o : Int32 × (Nat → Int32) × Int32) (hf : fX4_setPriority fu M SV x1 x2 = some o) : Ct l yX4_setPriority wsX4_setPriority { frames := 2, cells := 0, slots := 0, locals := 44 } D cI [.ref a0, .int x1, .int x2] (wX4 cI a0 a1 a2 M SV MX ML MA MH) (wX4 cI a0 a1 a2 o.2.1 o.2.2 MX ML MA MH) (some (.int o.1)) := by
  refine Ct.of (cc := cX4_setPriority) (maxL := 4) (ret := (some .int)) (by decide) rfl (Nat.le_of_ble_eq_true rfl) ?_
  intro p e s m args below meth c A F hP hD hS ls hl
  obtain ⟨hx, hb, hml, hr, hown, hts, hlk, hK, hA⟩ := F
  have hown : s.vm.findClass RX4 = some m.cls := hown
  have hl : lv_has ls 4 [(0, .ref a0), (1, .int x1), (2, .int x2)] := hl
  unfold fX4_setPriority at hf
  refine lv_aload_n hx hb dX4_setPriority_0 rfl (lv_at hl 0 rfl) ?_
  refine lv_iload_n hx hb dX4_setPriority_1 rfl (lv_at hl 1 rfl) ?_
  obtain ⟨v1, h2, hf⟩ := kBind hf
  refine kgoR (krunV (wc := (wX4 cI a0 a1 a2 M SV MX ML MA MH)) (As := [.int x1]) (rest := []) (ci := 4) hx hb hml hown hts hK (kX4_isCrane l D cI a0 a1 a2 M SV MX ML MA MH x1 v1 h2) gX4_setPriority_X4_isCrane rfl rfl rfl hdX4_isCrane ⟨Nat.le_of_ble_eq_true rfl, Nat.le_of_ble_eq_true rfl⟩ hP hD rfl rfl rfl rfl hl.1 rfl (Nat.le_of_ble_eq_true rfl) dX4_setPriority_2 ⟨Nat.zero_le _, Nat.zero_le _⟩) hP hD hS hA [0, 1, 2] rfl (fun H locs hP hS => ?_)
  refine kif_neb (tgt := 11) hx hb dX4_setPriority_5 (by decide) (fun c3 => ?_) (fun c3 => ?_)
  · have hf := kIfT c3 hf
    refine lv_iload_n hx hb dX4_setPriority_11 rfl (lv_at hl 2 rfl) ?_
    refine lv_iconst (v := (0 : Int32)) hx hb dX4_setPriority_12 (by decide) ?_
    refine lv_bipush (v := (9 : Int32)) hx hb dX4_setPriority_13 (by decide) ?_
    obtain ⟨v4, h5, hf⟩ := kBind hf
    refine kgoR (krunS (wc := ([] : va_W)) (As := [.int x2, .int (0 : Int32), .int (9 : Int32)]) (rest := []) hx hb hml hown hts hK (kX4_in l D cI x2 (0 : Int32) (9 : Int32) v4 h5) gX4_setPriority_X4_in rfl rfl rfl hdX4_in ⟨Nat.le_of_ble_eq_true rfl, Nat.le_of_ble_eq_true rfl⟩ k_P0 (k_D0 A) rfl hl.1 rfl (Nat.le_of_ble_eq_true rfl) dX4_setPriority_15 ⟨Nat.zero_le _, Nat.zero_le _⟩) hP hD hS hA [] rfl (fun H locs hP hS => ?_)
    refine kif_neb (tgt := 24) hx hb dX4_setPriority_18 (by decide) (fun c6 => ?_) (fun c6 => ?_)
    · have hf := kIfT c6 hf
      refine lv_aload_n hx hb dX4_setPriority_24 rfl (lv_at hl 0 rfl) ?_
      obtain ⟨v7, h8, hf⟩ := kBind hf
      refine kgoA (krunV (wc := (wX4 cI a0 a1 a2 M SV MX ML MA MH)) (As := []) (rest := []) (ci := 4) hx hb hml hown hts hK (kX4_saves l D cI fu a0 a1 a2 M SV MX ML MA MH v7 h8) gX4_setPriority_X4_saves rfl rfl rfl hdX4_saves ⟨Nat.le_of_ble_eq_true rfl, Nat.le_of_ble_eq_true rfl⟩ hP hD rfl rfl rfl rfl hl.1 rfl (Nat.le_of_ble_eq_true rfl) dX4_setPriority_25 ⟨Nat.zero_le _, Nat.zero_le _⟩) hD hS hA (fun H locs hP hD hS => ?_)
      refine lv_aload_n hx hb dX4_setPriority_28 rfl (lv_at hl 0 rfl) ?_
      refine lv_iload_n hx hb dX4_setPriority_29 rfl (lv_at hl 1 rfl) ?_
      refine lv_iconst (v := (2 : Int32)) hx hb dX4_setPriority_30 (by decide) ?_
      obtain ⟨v9, h10, hf⟩ := kBind hf
      refine kgoR (krunV (wc := (wX4 cI a0 a1 a2 v7.1 v7.2 MX ML MA MH)) (As := [.int x1, .int (2 : Int32)]) (rest := []) (ci := 4) hx hb hml hown hts hK (kX4_of l D cI a0 a1 a2 v7.1 v7.2 MX ML MA MH x1 (2 : Int32) v9 h10) gX4_setPriority_X4_of rfl rfl rfl hdX4_of ⟨Nat.le_of_ble_eq_true rfl, Nat.le_of_ble_eq_true rfl⟩ hP hD rfl rfl rfl rfl hl.1 rfl (Nat.le_of_ble_eq_true rfl) dX4_setPriority_31 ⟨Nat.zero_le _, Nat.zero_le _⟩) hP hD hS hA [0, 1, 2] rfl (fun H locs hP hS => ?_)
      refine lv_istore_n (lv' := [(3, .int v9), (0, .ref a0), (1, .int x1), (2, .int x2)]) hx hb dX4_setPriority_34 rfl hl (by decide) rfl (fun ls hl => ?_)
      refine lv_aload_n hx hb dX4_setPriority_35 rfl (lv_at hl 1 rfl) ?_
      refine lv_iload_n hx hb dX4_setPriority_36 rfl (lv_at hl 2 rfl) ?_
      refine lv_iconst (v := (2 : Int32)) hx hb dX4_setPriority_37 (by decide) ?_
      refine lv_iload_n hx hb dX4_setPriority_38 rfl (lv_at hl 3 rfl) ?_
      obtain ⟨v11, h12, hf⟩ := kBind hf
      refine kgoA (krunV (wc := (wX4 cI a0 a1 a2 v7.1 v7.2 MX ML MA MH)) (As := [.int x1, .int (2 : Int32), .int x2]) (rest := []) (ci := 4) hx hb hml hown hts hK (kX4_sets l D cI a0 a1 a2 v7.1 v7.2 MX ML MA MH x1 (2 : Int32) x2 v11 h12) gX4_setPriority_X4_sets rfl rfl rfl hdX4_sets ⟨Nat.le_of_ble_eq_true rfl, Nat.le_of_ble_eq_true rfl⟩ hP hD rfl rfl rfl rfl hl.1 rfl (Nat.le_of_ble_eq_true rfl) dX4_setPriority_39 ⟨Nat.zero_le _, Nat.zero_le _⟩) hD hS hA (fun H locs hP hD hS => ?_)
      refine lv_iload_n hx hb dX4_setPriority_42 rfl (lv_at hl 0 rfl) ?_
      have he := Option.some.inj hf
      subst he
      exact kreti hx hb hr hlk hP hD hS dX4_setPriority_43
    · have hf := kIfF c6 hf
      refine lv_bipush (v := (-102 : Int32)) hx hb dX4_setPriority_21 (by decide) ?_
      have he := Option.some.inj hf
      subst he
      exact kreti hx hb hr hlk hP hD hS dX4_setPriority_23
  · have hf := kIfF c3 hf
    refine lv_bipush (v := (-101 : Int32)) hx hb dX4_setPriority_8 (by decide) ?_
    have he := Option.some.inj hf
    subst he
    exact kreti hx hb hr hlk hP hD hS dX4_setPriority_10
set_option maxHeartbeats 4000000 in
set_option maxRecDepth 100000 in
theorem kX4_setWind (l : Launch) (D : va_G) (cI : ClassId) (fu : Nat) (a0 a1 a2 : Nat) (M : (Nat → Int32)) (SV : Int32) (MX : (Nat → Int32)) (ML : Int32) (MA : Int32) (MH : Int64) (x1 : Int32) (o : Int32 × (Nat → Int32) × Int32) (hf : fX4_setWind fu M SV x1 = some o) : Ct l yX4_setWind wsX4_setWind { frames := 2, cells := 0, slots := 0, locals := 44 } D cI [.ref a0, .int x1] (wX4 cI a0 a1 a2 M SV MX ML MA MH) (wX4 cI a0 a1 a2 o.2.1 o.2.2 MX ML MA MH) (some (.int o.1)) := by
  refine Ct.of (cc := cX4_setWind) (maxL := 3) (ret := (some .int)) (by decide) rfl (Nat.le_of_ble_eq_true rfl) ?_
  intro p e s m args below meth c A F hP hD hS ls hl
  obtain ⟨hx, hb, hml, hr, hown, hts, hlk, hK, hA⟩ := F
  have hown : s.vm.findClass RX4 = some m.cls := hown
  have hl : lv_has ls 3 [(0, .ref a0), (1, .int x1)] := hl
  have hinX4 : ∀ w ∈ wsX40, w ∈ wsX4_setWind := by decide +kernel
  have hfl7 := hts (.fieldLink RX4 7 "CraneGuardModel" "row" "[I") (by decide +kernel)
  unfold fX4_setWind at hf
  refine lv_iload_n hx hb dX4_setWind_0 rfl (lv_at hl 1 rfl) ?_
  obtain ⟨v1, h2, hf⟩ := kBind hf
  refine kgoR (krunS (wc := ([] : va_W)) (As := [.int x1]) (rest := []) hx hb hml hown hts hK (kX4_isAngle l D cI x1 v1 h2) gX4_setWind_X4_isAngle rfl rfl rfl hdX4_isAngle ⟨Nat.le_of_ble_eq_true rfl, Nat.le_of_ble_eq_true rfl⟩ k_P0 (k_D0 A) rfl hl.1 rfl (Nat.le_of_ble_eq_true rfl) dX4_setWind_1 ⟨Nat.zero_le _, Nat.zero_le _⟩) hP hD hS hA [] rfl (fun H locs hP hS => ?_)
  refine kif_neb (tgt := 10) hx hb dX4_setWind_4 (by decide) (fun c3 => ?_) (fun c3 => ?_)
  · have hf := kIfT c3 hf
    refine lv_aload_n hx hb dX4_setWind_10 rfl (lv_at hl 0 rfl) ?_
    obtain ⟨v4, h5, hf⟩ := kBind hf
    refine kgoA (krunV (wc := (wX4 cI a0 a1 a2 M SV MX ML MA MH)) (As := []) (rest := []) (ci := 4) hx hb hml hown hts hK (kX4_saves l D cI fu a0 a1 a2 M SV MX ML MA MH v4 h5) gX4_setWind_X4_saves rfl rfl rfl hdX4_saves ⟨Nat.le_of_ble_eq_true rfl, Nat.le_of_ble_eq_true rfl⟩ hP hD rfl rfl rfl rfl hl.1 rfl (Nat.le_of_ble_eq_true rfl) dX4_setWind_11 ⟨Nat.zero_le _, Nat.zero_le _⟩) hD hS hA (fun H locs hP hD hS => ?_)
    refine lv_aload_n hx hb dX4_setWind_14 rfl (lv_at hl 0 rfl) ?_
    refine va_get (D := D) (ci := 4) (v := .ref a1) (C := RX4) (T := TX4) (N := 6) hx hb hts hinX4 hown hK.1 hP 0 rfl rfl 0 (by decide) hfl7 (fun _ h9 => h9) rfl dX4_setWind_15 ?_
    refine lv_iconst (v := (1 : Int32)) hx hb dX4_setWind_18 (by decide) ?_
    obtain ⟨v6, h7, hf⟩ := kBind hf
    refine krd hx hb hK hP 1 rfl h7 dX4_setWind_19 ?_
    refine lv_istore_n (lv' := [(2, .int v6), (0, .ref a0), (1, .int x1)]) hx hb dX4_setWind_20 rfl hl (by decide) rfl (fun ls hl => ?_)
    refine lv_aload_n hx hb dX4_setWind_21 rfl (lv_at hl 1 rfl) ?_
    refine va_get (D := D) (ci := 4) (v := .ref a1) (C := RX4) (T := TX4) (N := 6) hx hb hts hinX4 hown hK.1 hP 0 rfl rfl 0 (by decide) hfl7 (fun _ h9 => h9) rfl dX4_setWind_22 ?_
    refine lv_iconst (v := (1 : Int32)) hx hb dX4_setWind_25 (by decide) ?_
    refine lv_iload_n hx hb dX4_setWind_26 rfl (lv_at hl 2 rfl) ?_
    obtain ⟨v8, h9, hf⟩ := kBind hf
    refine kwr hx hb hK hP hD hS 1 rfl h9 (wX4 cI a0 a1 a2 v8 v4.2 MX ML MA MH) rfl dX4_setWind_27 (fun H locs hP hD hS => ?_)
    refine lv_iload_n hx hb dX4_setWind_28 rfl (lv_at hl 0 rfl) ?_
    have he := Option.some.inj hf
    subst he
    exact kreti hx hb hr hlk hP hD hS dX4_setWind_29
  · have hf := kIfF c3 hf
    refine lv_bipush (v := (-102 : Int32)) hx hb dX4_setWind_7 (by decide) ?_
    have he := Option.some.inj hf
    subst he
    exact kreti hx hb hr hlk hP hD hS dX4_setWind_9
set_option maxHeartbeats 4000000 in
set_option maxRecDepth 100000 in
theorem kX4_slew (l : Launch) (D : va_G) (cI : ClassId) (fu : Nat) (a0 a1 a2 : Nat) (M : (Nat → Int32)) (SV : Int32) (MX : (Nat → Int32)) (ML : Int32) (MA : Int32) (MH : Int64) (x1 : Int32) (x2 : Int32) (x3 : Int32) (o : Int32 × (Nat → Int32) × Int32) (hf : fX4_slew fu M SV x1 x2 x3 = some o) : Ct l yX4_slew wsX4_slew { frames := 3, cells := 0, slots := 0, locals := 70 } D cI [.ref a0, .int x1, .int x2, .int x3] (wX4 cI a0 a1 a2 M SV MX ML MA MH) (wX4 cI a0 a1 a2 o.2.1 o.2.2 MX ML MA MH) (some (.int o.1)) := by
  refine Ct.of (cc := cX4_slew) (maxL := 4) (ret := (some .int)) (by decide) rfl (Nat.le_of_ble_eq_true rfl) ?_
  intro p e s m args below meth c A F hP hD hS ls hl
  obtain ⟨hx, hb, hml, hr, hown, hts, hlk, hK, hA⟩ := F
  have hown : s.vm.findClass RX4 = some m.cls := hown
  have hl : lv_has ls 4 [(0, .ref a0), (1, .int x1), (2, .int x2), (3, .int x3)] := hl
  unfold fX4_slew at hf
  refine lv_aload_n hx hb dX4_slew_0 rfl (lv_at hl 0 rfl) ?_
  refine lv_iload_n hx hb dX4_slew_1 rfl (lv_at hl 1 rfl) ?_
  obtain ⟨v1, h2, hf⟩ := kBind hf
  refine kgoR (krunV (wc := (wX4 cI a0 a1 a2 M SV MX ML MA MH)) (As := [.int x1]) (rest := []) (ci := 4) hx hb hml hown hts hK (kX4_isCrane l D cI a0 a1 a2 M SV MX ML MA MH x1 v1 h2) gX4_slew_X4_isCrane rfl rfl rfl hdX4_isCrane ⟨Nat.le_of_ble_eq_true rfl, Nat.le_of_ble_eq_true rfl⟩ hP hD rfl rfl rfl rfl hl.1 rfl (Nat.le_of_ble_eq_true rfl) dX4_slew_2 ⟨Nat.zero_le _, Nat.zero_le _⟩) hP hD hS hA [0, 1, 2] rfl (fun H locs hP hS => ?_)
  refine kif_neb (tgt := 11) hx hb dX4_slew_5 (by decide) (fun c3 => ?_) (fun c3 => ?_)
  · have hf := kIfT c3 hf
    refine lv_iload_n hx hb dX4_slew_11 rfl (lv_at hl 2 rfl) ?_
    obtain ⟨v4, h5, hf⟩ := kBind hf
    refine kgoR (krunS (wc := ([] : va_W)) (As := [.int x2]) (rest := []) hx hb hml hown hts hK (kX4_isAngle l D cI x2 v4 h5) gX4_slew_X4_isAngle rfl rfl rfl hdX4_isAngle ⟨Nat.le_of_ble_eq_true rfl, Nat.le_of_ble_eq_true rfl⟩ k_P0 (k_D0 A) rfl hl.1 rfl (Nat.le_of_ble_eq_true rfl) dX4_slew_12 ⟨Nat.zero_le _, Nat.zero_le _⟩) hP hD hS hA [] rfl (fun H locs hP hS => ?_)
    refine kif_eqb (tgt := 27) hx hb dX4_slew_15 (by decide) (fun c6 => ?_) (fun c6 => ?_)
    · have hf := kIfF c6 hf
      refine lv_bipush (v := (-102 : Int32)) hx hb dX4_slew_27 (by decide) ?_
      have he := Option.some.inj hf
      subst he
      exact kreti hx hb hr hlk hP hD hS dX4_slew_29
    · have hf := kIfT c6 hf
      refine lv_iload_n hx hb dX4_slew_18 rfl (lv_at hl 3 rfl) ?_
      refine lv_iconst (v := (-1 : Int32)) hx hb dX4_slew_19 (by decide) ?_
      refine lv_iconst (v := (1 : Int32)) hx hb dX4_slew_20 (by decide) ?_
      obtain ⟨v7, h8, hf⟩ := kBind hf
      refine kgoR (krunS (wc := ([] : va_W)) (As := [.int x3, .int (-1 : Int32), .int (1 : Int32)]) (rest := []) hx hb hml hown hts hK (kX4_in l D cI x3 (-1 : Int32) (1 : Int32) v7 h8) gX4_slew_X4_in rfl rfl rfl hdX4_in ⟨Nat.le_of_ble_eq_true rfl, Nat.le_of_ble_eq_true rfl⟩ k_P0 (k_D0 A) rfl hl.1 rfl (Nat.le_of_ble_eq_true rfl) dX4_slew_21 ⟨Nat.zero_le _, Nat.zero_le _⟩) hP hD hS hA [] rfl (fun H locs hP hS => ?_)
      refine kif_neb (tgt := 30) hx hb dX4_slew_24 (by decide) (fun c9 => ?_) (fun c9 => ?_)
      · have hf := kIfT c9 hf
        refine lv_aload_n hx hb dX4_slew_30 rfl (lv_at hl 0 rfl) ?_
        refine lv_iload_n hx hb dX4_slew_31 rfl (lv_at hl 1 rfl) ?_
        obtain ⟨v10, h11, hf⟩ := kBind hf
        refine kgoR (krunV (wc := (wX4 cI a0 a1 a2 M SV MX ML MA MH)) (As := [.int x1]) (rest := []) (ci := 4) hx hb hml hown hts hK (kX4_mayNotAim l D cI a0 a1 a2 M SV MX ML MA MH x1 v10 h11) gX4_slew_X4_mayNotAim rfl rfl rfl hdX4_mayNotAim ⟨Nat.le_of_ble_eq_true rfl, Nat.le_of_ble_eq_true rfl⟩ hP hD rfl rfl rfl rfl hl.1 rfl (Nat.le_of_ble_eq_true rfl) dX4_slew_32 ⟨Nat.zero_le _, Nat.zero_le _⟩) hP hD hS hA [0, 1, 2] rfl (fun H locs hP hS => ?_)
        refine kif_eqb (tgt := 41) hx hb dX4_slew_35 (by decide) (fun c12 => ?_) (fun c12 => ?_)
        · have hf := kIfF c12 hf
          refine lv_aload_n hx hb dX4_slew_41 rfl (lv_at hl 0 rfl) ?_
          obtain ⟨v13, h14, hf⟩ := kBind hf
          refine kgoA (krunV (wc := (wX4 cI a0 a1 a2 M SV MX ML MA MH)) (As := []) (rest := []) (ci := 4) hx hb hml hown hts hK (kX4_saves l D cI fu a0 a1 a2 M SV MX ML MA MH v13 h14) gX4_slew_X4_saves rfl rfl rfl hdX4_saves ⟨Nat.le_of_ble_eq_true rfl, Nat.le_of_ble_eq_true rfl⟩ hP hD rfl rfl rfl rfl hl.1 rfl (Nat.le_of_ble_eq_true rfl) dX4_slew_42 ⟨Nat.zero_le _, Nat.zero_le _⟩) hD hS hA (fun H locs hP hD hS => ?_)
          refine lv_aload_n hx hb dX4_slew_45 rfl (lv_at hl 0 rfl) ?_
          refine lv_iload_n hx hb dX4_slew_46 rfl (lv_at hl 1 rfl) ?_
          refine lv_iload_n hx hb dX4_slew_47 rfl (lv_at hl 2 rfl) ?_
          refine lv_iload_n hx hb dX4_slew_48 rfl (lv_at hl 3 rfl) ?_
          obtain ⟨v15, h16, hf⟩ := kBind hf
          refine kgoA (krunV (wc := (wX4 cI a0 a1 a2 v13.1 v13.2 MX ML MA MH)) (As := [.int x1, .int x2, .int x3]) (rest := []) (ci := 4) hx hb hml hown hts hK (kX4_aims l D cI a0 a1 a2 v13.1 v13.2 MX ML MA MH x1 x2 x3 v15 h16) gX4_slew_X4_aims rfl rfl rfl hdX4_aims ⟨Nat.le_of_ble_eq_true rfl, Nat.le_of_ble_eq_true rfl⟩ hP hD rfl rfl rfl rfl hl.1 rfl (Nat.le_of_ble_eq_true rfl) dX4_slew_49 ⟨Nat.zero_le _, Nat.zero_le _⟩) hD hS hA (fun H locs hP hD hS => ?_)
          have he := Option.some.inj hf
          subst he
          exact kreti hx hb hr hlk hP hD hS dX4_slew_52
        · have hf := kIfT c12 hf
          refine lv_bipush (v := (-103 : Int32)) hx hb dX4_slew_38 (by decide) ?_
          have he := Option.some.inj hf
          subst he
          exact kreti hx hb hr hlk hP hD hS dX4_slew_40
      · have hf := kIfF c9 hf
        refine lv_bipush (v := (-102 : Int32)) hx hb dX4_slew_27 (by decide) ?_
        have he := Option.some.inj hf
        subst he
        exact kreti hx hb hr hlk hP hD hS dX4_slew_29
  · have hf := kIfF c3 hf
    refine lv_bipush (v := (-101 : Int32)) hx hb dX4_slew_8 (by decide) ?_
    have he := Option.some.inj hf
    subst he
    exact kreti hx hb hr hlk hP hD hS dX4_slew_10
set_option maxHeartbeats 4000000 in
set_option maxRecDepth 100000 in
theorem kX4_stop (l : Launch) (D : va_G) (cI : ClassId) (fu : Nat) (a0 a1 a2 : Nat) (M : (Nat → Int32)) (SV : Int32) (MX : (Nat → Int32)) (ML : Int32) (MA : Int32) (MH : Int64) (x1 : Int32) (o : Int32 × (Nat → Int32) × Int32) (hf : fX4_stop fu M SV x1 = some o) : Ct l yX4_stop wsX4_stop { frames := 2, cells := 0, slots := 0, locals := 44 } D cI [.ref a0, .int x1] (wX4 cI a0 a1 a2 M SV MX ML MA MH) (wX4 cI a0 a1 a2 o.2.1 o.2.2 MX ML MA MH) (some (.int o.1)) := by
  refine Ct.of (cc := cX4_stop) (maxL := 3) (ret := (some .int)) (by decide) rfl (Nat.le_of_ble_eq_true rfl) ?_
  intro p e s m args below meth c A F hP hD hS ls hl
  obtain ⟨hx, hb, hml, hr, hown, hts, hlk, hK, hA⟩ := F
  have hown : s.vm.findClass RX4 = some m.cls := hown
  have hl : lv_has ls 3 [(0, .ref a0), (1, .int x1)] := hl
  unfold fX4_stop at hf
  refine lv_aload_n hx hb dX4_stop_0 rfl (lv_at hl 0 rfl) ?_
  refine lv_iload_n hx hb dX4_stop_1 rfl (lv_at hl 1 rfl) ?_
  obtain ⟨v1, h2, hf⟩ := kBind hf
  refine kgoR (krunV (wc := (wX4 cI a0 a1 a2 M SV MX ML MA MH)) (As := [.int x1]) (rest := []) (ci := 4) hx hb hml hown hts hK (kX4_isCrane l D cI a0 a1 a2 M SV MX ML MA MH x1 v1 h2) gX4_stop_X4_isCrane rfl rfl rfl hdX4_isCrane ⟨Nat.le_of_ble_eq_true rfl, Nat.le_of_ble_eq_true rfl⟩ hP hD rfl rfl rfl rfl hl.1 rfl (Nat.le_of_ble_eq_true rfl) dX4_stop_2 ⟨Nat.zero_le _, Nat.zero_le _⟩) hP hD hS hA [0, 1, 2] rfl (fun H locs hP hS => ?_)
  refine kif_neb (tgt := 11) hx hb dX4_stop_5 (by decide) (fun c3 => ?_) (fun c3 => ?_)
  · have hf := kIfT c3 hf
    refine lv_aload_n hx hb dX4_stop_11 rfl (lv_at hl 0 rfl) ?_
    refine lv_iload_n hx hb dX4_stop_12 rfl (lv_at hl 1 rfl) ?_
    obtain ⟨v4, h5, hf⟩ := kBind hf
    refine kgoR (krunV (wc := (wX4 cI a0 a1 a2 M SV MX ML MA MH)) (As := [.int x1]) (rest := []) (ci := 4) hx hb hml hown hts hK (kX4_isOnStep l D cI a0 a1 a2 M SV MX ML MA MH x1 v4 h5) gX4_stop_X4_isOnStep rfl rfl rfl hdX4_isOnStep ⟨Nat.le_of_ble_eq_true rfl, Nat.le_of_ble_eq_true rfl⟩ hP hD rfl rfl rfl rfl hl.1 rfl (Nat.le_of_ble_eq_true rfl) dX4_stop_13 ⟨Nat.zero_le _, Nat.zero_le _⟩) hP hD hS hA [0, 1, 2] rfl (fun H locs hP hS => ?_)
    refine kif_eqb (tgt := 22) hx hb dX4_stop_16 (by decide) (fun c6 => ?_) (fun c6 => ?_)
    · have hf := kIfF c6 hf
      refine lv_aload_n hx hb dX4_stop_22 rfl (lv_at hl 0 rfl) ?_
      obtain ⟨v7, h8, hf⟩ := kBind hf
      refine kgoA (krunV (wc := (wX4 cI a0 a1 a2 M SV MX ML MA MH)) (As := []) (rest := []) (ci := 4) hx hb hml hown hts hK (kX4_saves l D cI fu a0 a1 a2 M SV MX ML MA MH v7 h8) gX4_stop_X4_saves rfl rfl rfl hdX4_saves ⟨Nat.le_of_ble_eq_true rfl, Nat.le_of_ble_eq_true rfl⟩ hP hD rfl rfl rfl rfl hl.1 rfl (Nat.le_of_ble_eq_true rfl) dX4_stop_23 ⟨Nat.zero_le _, Nat.zero_le _⟩) hD hS hA (fun H locs hP hD hS => ?_)
      refine lv_aload_n hx hb dX4_stop_26 rfl (lv_at hl 0 rfl) ?_
      refine lv_iload_n hx hb dX4_stop_27 rfl (lv_at hl 1 rfl) ?_
      refine lv_iconst (v := (3 : Int32)) hx hb dX4_stop_28 (by decide) ?_
      obtain ⟨v9, h10, hf⟩ := kBind hf
      refine kgoR (krunV (wc := (wX4 cI a0 a1 a2 v7.1 v7.2 MX ML MA MH)) (As := [.int x1, .int (3 : Int32)]) (rest := []) (ci := 4) hx hb hml hown hts hK (kX4_of l D cI a0 a1 a2 v7.1 v7.2 MX ML MA MH x1 (3 : Int32) v9 h10) gX4_stop_X4_of rfl rfl rfl hdX4_of ⟨Nat.le_of_ble_eq_true rfl, Nat.le_of_ble_eq_true rfl⟩ hP hD rfl rfl rfl rfl hl.1 rfl (Nat.le_of_ble_eq_true rfl) dX4_stop_29 ⟨Nat.zero_le _, Nat.zero_le _⟩) hP hD hS hA [0, 1, 2] rfl (fun H locs hP hS => ?_)
      refine lv_istore_n (lv' := [(2, .int v9), (0, .ref a0), (1, .int x1)]) hx hb dX4_stop_32 rfl hl (by decide) rfl (fun ls hl => ?_)
      refine lv_aload_n hx hb dX4_stop_33 rfl (lv_at hl 1 rfl) ?_
      refine lv_iload_n hx hb dX4_stop_34 rfl (lv_at hl 2 rfl) ?_
      obtain ⟨v11, h12, hf⟩ := kBind hf
      refine kgoA (krunV (wc := (wX4 cI a0 a1 a2 v7.1 v7.2 MX ML MA MH)) (As := [.int x1]) (rest := []) (ci := 4) hx hb hml hown hts hK (kX4_noTarget l D cI a0 a1 a2 v7.1 v7.2 MX ML MA MH x1 v11 h12) gX4_stop_X4_noTarget rfl rfl rfl hdX4_noTarget ⟨Nat.le_of_ble_eq_true rfl, Nat.le_of_ble_eq_true rfl⟩ hP hD rfl rfl rfl rfl hl.1 rfl (Nat.le_of_ble_eq_true rfl) dX4_stop_35 ⟨Nat.zero_le _, Nat.zero_le _⟩) hD hS hA (fun H locs hP hD hS => ?_)
      refine lv_iload_n hx hb dX4_stop_38 rfl (lv_at hl 0 rfl) ?_
      have he := Option.some.inj hf
      subst he
      exact kreti hx hb hr hlk hP hD hS dX4_stop_39
    · have hf := kIfT c6 hf
      refine lv_bipush (v := (-103 : Int32)) hx hb dX4_stop_19 (by decide) ?_
      have he := Option.some.inj hf
      subst he
      exact kreti hx hb hr hlk hP hD hS dX4_stop_21
  · have hf := kIfF c3 hf
    refine lv_bipush (v := (-101 : Int32)) hx hb dX4_stop_8 (by decide) ?_
    have he := Option.some.inj hf
    subst he
    exact kreti hx hb hr hlk hP hD hS dX4_stop_10
set_option maxHeartbeats 4000000 in
set_option maxRecDepth 100000 in
theorem kX4_textFault (l : Launch) (D : va_G) (cI : ClassId) (fu : Nat) (a0 a1 a2 : Nat) (M : (Nat → Int32)) (SV : Int32) (MX : (Nat → Int32)) (ML : Int32) (MA : Int32) (MH : Int64) (o : Int32 × (Nat → Int32) × Int32) (hf : fX4_textFault fu M MX ML = some o) : Ct l yX4_textFault wsX4_textFault { frames := 5, cells := 0, slots := 0, locals := 120 } D cI [.ref a0] (wX4 cI a0 a1 a2 M SV MX ML MA MH) (wX4 cI a0 a1 a2 o.2.1 SV MX ML o.2.2 MH) (some (.int o.1)) := by
  refine Ct.of (cc := cX4_textFault) (maxL := 1) (ret := (some .int)) (by decide) rfl (Nat.le_of_ble_eq_true rfl) ?_
  intro p e s m args below meth c A F hP hD hS ls hl
  obtain ⟨hx, hb, hml, hr, hown, hts, hlk, hK, hA⟩ := F
  have hown : s.vm.findClass RX4 = some m.cls := hown
  have hl : lv_has ls 1 [(0, .ref a0)] := hl
  have hinX4 : ∀ w ∈ wsX40, w ∈ wsX4_textFault := by decide +kernel
  have hfl124 := hts (.fieldLink RX4 124 "CraneGuardModel" "at" "I") (by decide +kernel)
  unfold fX4_textFault at hf
  refine lv_aload_n hx hb dX4_textFault_0 rfl (lv_at hl 0 rfl) ?_
  refine lv_iconst (v := (0 : Int32)) hx hb dX4_textFault_1 (by decide) ?_
  obtain ⟨v1, h2, hf⟩ := kBind hf
  refine kgoA (krunV (wc := (wX4 cI a0 a1 a2 M SV MX ML MA MH)) (As := [.int (bI false)]) (rest := []) (ci := 4) hx hb hml hown hts hK (kX4_readsAll l D cI fu a0 a1 a2 M SV MX ML MA MH false v1 h2) gX4_textFault_X4_readsAll rfl rfl rfl hdX4_readsAll ⟨Nat.le_of_ble_eq_true rfl, Nat.le_of_ble_eq_true rfl⟩ hP hD rfl rfl rfl rfl hl.1 rfl (Nat.le_of_ble_eq_true rfl) dX4_textFault_2 ⟨Nat.zero_le _, Nat.zero_le _⟩) hD hS hA (fun H locs hP hD hS => ?_)
  refine kif_eqb (tgt := 13) hx hb dX4_textFault_5 (by decide) (fun c3 => ?_) (fun c3 => ?_)
  · have hf := kIfF c3 hf
    refine lv_aload_n hx hb dX4_textFault_13 rfl (lv_at hl 0 rfl) ?_
    refine va_get (D := D) (ci := 4) (v := .int v1.2.2) (C := RX4) (T := TX4) (N := 6) hx hb hts hinX4 hown hK.1 hP 0 rfl rfl 4 (by decide) hfl124 (fun _ h9 => h9) rfl dX4_textFault_14 ?_
    have he := Option.some.inj hf
    subst he
    exact kreti hx hb hr hlk hP hD hS dX4_textFault_17
  · have hf := kIfT c3 hf
    refine lv_bipush (v := (-100 : Int32)) hx hb dX4_textFault_8 (by decide) ?_
    refine lv_goto (tgt := 17) hx hb dX4_textFault_10 (by decide) ?_
    have he := Option.some.inj hf
    subst he
    exact kreti hx hb hr hlk hP hD hS dX4_textFault_17
set_option maxHeartbeats 4000000 in
set_option maxRecDepth 100000 in
theorem kX4_tick (l : Launch) (D : va_G) (cI : ClassId) (fu : Nat) (a0 a1 a2 : Nat) (M : (Nat → Int32)) (SV : Int32) (MX : (Nat → Int32)) (ML : Int32) (MA : Int32) (MH : Int64) (x1 : Int32) (o : Int32 × (Nat → Int32) × Int32) (hf : fX4_tick fu M SV x1 = some o) : Ct l yX4_tick wsX4_tick { frames := 7, cells := 0, slots := 0, locals := 158 } D cI [.ref a0, .int x1] (wX4 cI a0 a1 a2 M SV MX ML MA MH) (wX4 cI a0 a1 a2 o.2.1 o.2.2 MX ML MA MH) (some (.int o.1)) := by
  refine Ct.of (cc := cX4_tick) (maxL := 3) (ret := (some .int)) (by decide) rfl (Nat.le_of_ble_eq_true rfl) ?_
  intro p e s m args below meth c A F hP hD hS ls hl
  obtain ⟨hx, hb, hml, hr, hown, hts, hlk, hK, hA⟩ := F
  have hown : s.vm.findClass RX4 = some m.cls := hown
  have hl : lv_has ls 3 [(0, .ref a0), (1, .int x1)] := hl
  have hinX4 : ∀ w ∈ wsX40, w ∈ wsX4_tick := by decide +kernel
  have hfl7 := hts (.fieldLink RX4 7 "CraneGuardModel" "row" "[I") (by decide +kernel)
  unfold fX4_tick at hf
  refine lv_iload_n hx hb dX4_tick_0 rfl (lv_at hl 1 rfl) ?_
  refine lv_iconst (v := (1 : Int32)) hx hb dX4_tick_1 (by decide) ?_
  refine lv_sipush (v := (200 : Int32)) hx hb dX4_tick_2 (by decide) ?_
  obtain ⟨v1, h2, hf⟩ := kBind hf
  refine kgoR (krunS (wc := ([] : va_W)) (As := [.int x1, .int (1 : Int32), .int (200 : Int32)]) (rest := []) hx hb hml hown hts hK (kX4_in l D cI x1 (1 : Int32) (200 : Int32) v1 h2) gX4_tick_X4_in rfl rfl rfl hdX4_in ⟨Nat.le_of_ble_eq_true rfl, Nat.le_of_ble_eq_true rfl⟩ k_P0 (k_D0 A) rfl hl.1 rfl (Nat.le_of_ble_eq_true rfl) dX4_tick_5 ⟨Nat.zero_le _, Nat.zero_le _⟩) hP hD hS hA [] rfl (fun H locs hP hS => ?_)
  refine kif_neb (tgt := 14) hx hb dX4_tick_8 (by decide) (fun c3 => ?_) (fun c3 => ?_)
  · have hf := kIfT c3 hf
    refine lv_aload_n hx hb dX4_tick_14 rfl (lv_at hl 0 rfl) ?_
    refine va_get (D := D) (ci := 4) (v := .ref a1) (C := RX4) (T := TX4) (N := 6) hx hb hts hinX4 hown hK.1 hP 0 rfl rfl 0 (by decide) hfl7 (fun _ h9 => h9) rfl dX4_tick_15 ?_
    refine lv_iconst (v := (0 : Int32)) hx hb dX4_tick_18 (by decide) ?_
    obtain ⟨v4, h5, hf⟩ := kBind hf
    refine krd hx hb hK hP 1 rfl h5 dX4_tick_19 ?_
    refine lv_iload_n hx hb dX4_tick_20 rfl (lv_at hl 1 rfl) ?_
    refine lv_iadd hx hb dX4_tick_21 ?_
    refine lv_ldc (v := (100000 : Int32)) hx hb hown (hts (.constant RX4 111 (100000)) (by decide +kernel)) dX4_tick_22 ?_
    refine lv_icmp_le (tgt := 30) hx hb dX4_tick_24 (by decide) (fun c6 => ?_) (fun c6 => ?_)
    · have hf := kIfT c6 hf
      refine lv_aload_n hx hb dX4_tick_30 rfl (lv_at hl 0 rfl) ?_
      obtain ⟨v7, h8, hf⟩ := kBind hf
      refine kgoA (krunV (wc := (wX4 cI a0 a1 a2 M SV MX ML MA MH)) (As := []) (rest := []) (ci := 4) hx hb hml hown hts hK (kX4_saves l D cI fu a0 a1 a2 M SV MX ML MA MH v7 h8) gX4_tick_X4_saves rfl rfl rfl hdX4_saves ⟨Nat.le_of_ble_eq_true rfl, Nat.le_of_ble_eq_true rfl⟩ hP hD rfl rfl rfl rfl hl.1 rfl (Nat.le_of_ble_eq_true rfl) dX4_tick_31 ⟨Nat.zero_le _, Nat.zero_le _⟩) hD hS hA (fun H locs hP hD hS => ?_)
      refine lv_iconst (v := (0 : Int32)) hx hb dX4_tick_34 (by decide) ?_
      refine lv_istore_n (lv' := [(2, .int (0 : Int32)), (0, .ref a0), (1, .int x1)]) hx hb dX4_tick_35 rfl hl (by decide) rfl (fun ls hl => ?_)
      have hl : lv_has ls 3 [(2, .int (0 : Int32)), (0, .ref a0), (1, .int x1)] := hl
      refine klp hf (fun t36 : (Nat → Int32) × Int32 => (wX4 cI a0 a1 a2 t36.1 v7.2 MX ML MA MH)) 3 (fun t36 : (Nat → Int32) × Int32 => [(2, .int t36.2), (0, .ref a0), (1, .int x1)]) ?_ hP hD hS hl
      intro t36 x36_ hf hI1 hO1 H locs ls hP hD hS hl
      unfold fX4_tick_L36 at hf
      have hP : va_P D vwCl (wX4 cI a0 a1 a2 t36.1 v7.2 MX ML MA MH) H := hP
      have hD : va_D A (wX4 cI a0 a1 a2 t36.1 v7.2 MX ML MA MH) := hD
      have hl : lv_has ls 3 [(2, .int t36.2), (0, .ref a0), (1, .int x1)] := hl
      refine lv_iload_n hx hb dX4_tick_36 rfl (lv_at hl 0 rfl) ?_
      refine lv_iload_n hx hb dX4_tick_37 rfl (lv_at hl 2 rfl) ?_
      refine lv_icmp_ge (tgt := 51) hx hb dX4_tick_38 (by decide) (fun c15 => ?_) (fun c15 => ?_)
      · have hf := kIfT c15 hf
        refine lv_aload_n hx hb dX4_tick_51 rfl (lv_at hl 1 rfl) ?_
        refine va_get (D := D) (ci := 4) (v := .ref a1) (C := RX4) (T := TX4) (N := 6) hx hb hts hinX4 hown hK.1 hP 0 rfl rfl 0 (by decide) hfl7 (fun _ h9 => h9) rfl dX4_tick_52 ?_
        refine lv_iconst (v := (0 : Int32)) hx hb dX4_tick_55 (by decide) ?_
        obtain ⟨v16, h17, hf⟩ := kBind hf
        refine krd hx hb hK hP 1 rfl h17 dX4_tick_56 ?_
        have he := Option.some.inj hf
        have he := hO1 _ he.symm
        subst he
        exact kreti hx hb hr hlk hP hD hS dX4_tick_57
      · have hf := kIfF c15 hf
        refine lv_aload_n hx hb dX4_tick_41 rfl (lv_at hl 1 rfl) ?_
        obtain ⟨v18, h19, hf⟩ := kBind hf
        refine kgoA (krunV (wc := (wX4 cI a0 a1 a2 t36.1 v7.2 MX ML MA MH)) (As := []) (rest := []) (ci := 4) hx hb hml hown hts hK (kX4_ticks l D cI fu a0 a1 a2 t36.1 v7.2 MX ML MA MH v18 h19) gX4_tick_X4_ticks rfl rfl rfl hdX4_ticks ⟨Nat.le_of_ble_eq_true rfl, Nat.le_of_ble_eq_true rfl⟩ hP hD rfl rfl rfl rfl hl.1 rfl (Nat.le_of_ble_eq_true rfl) dX4_tick_42 ⟨Nat.zero_le _, Nat.zero_le _⟩) hD hS hA (fun H locs hP hD hS => ?_)
        refine lv_iinc (v := t36.2 + (1 : Int32)) (lv' := [(2, .int (t36.2 + (1 : Int32))), (0, .ref a0), (1, .int x1)]) hx hb dX4_tick_45 hl (k := 0) rfl rfl (by decide) rfl (fun ls hl => ?_)
        refine lv_goto (tgt := 36) hx hb dX4_tick_48 (by decide) ?_
        obtain ⟨z20, hz20⟩ : ∃ z : Int32, z = t36.2 + (1 : Int32) := ⟨_, rfl⟩
        rw [← hz20] at hf
        have he := (Option.some.inj hf).symm
        have hl : lv_has ls 3 [(2, .int z20), (0, .ref a0), (1, .int x1)] := by rw [hz20]; exact lv_sub hl [0, 1, 2] rfl
        exact hI1 _ he H locs ls hP hD hS hl
    · have hf := kIfF c6 hf
      refine lv_bipush (v := (-104 : Int32)) hx hb dX4_tick_27 (by decide) ?_
      have he := Option.some.inj hf
      subst he
      exact kreti hx hb hr hlk hP hD hS dX4_tick_29
  · have hf := kIfF c3 hf
    refine lv_bipush (v := (-102 : Int32)) hx hb dX4_tick_11 (by decide) ?_
    have he := Option.some.inj hf
    subst he
    exact kreti hx hb hr hlk hP hD hS dX4_tick_13
