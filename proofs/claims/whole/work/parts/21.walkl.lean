set_option maxHeartbeats 4000000 in
set_option maxRecDepth 100000 in
theorem kX4_time (l : Launch) (D : va_G) (cI : ClassId) (a0 a1 a2 : Nat) (M : (Nat → Int32)) (SV : Int32) (MX : (Nat → Int32)) (ML : Int32) (MA : Int32) (MH : Int64) (o : Int32) (hf : fX4_time M = some o) : Ct l yX4_time wsX4_time { frames := 0, cells := 0, slots := 0, locals := 0 } D cI [.ref a0] (wX4 cI a0 a1 a2 M SV MX ML MA MH) (wX4 cI a0 a1 a2 M SV MX ML MA MH) (some (.int o)) := by
  refine Ct.of (cc := cX4_time) (maxL := 1) (ret := (some .int)) (by decide) rfl (Nat.le_of_ble_eq_true rfl) ?_
  intro p e s m args below meth c A F hP hD hS ls hl
  obtain ⟨hx, hb, hml, hr, hown, hts, hlk, hK, hA⟩ := F
  have hown : s.vm.findClass RX4 = some m.cls := hown
  have hl : lv_has ls 1 [(0, .ref a0)] := hl
  have hinX4 : ∀ w ∈ wsX40, w ∈ wsX4_time := by decide +kernel
  have hfl7 := hts (.fieldLink RX4 7 "CraneGuardModel" "row" "[I") (by decide +kernel)
  unfold fX4_time at hf
  refine lv_aload_n hx hb dX4_time_0 rfl (lv_at hl 0 rfl) ?_
  refine va_get (D := D) (ci := 4) (v := .ref a1) (C := RX4) (T := TX4) (N := 6) hx hb hts hinX4 hown hK.1 hP 0 rfl rfl 0 (by decide) hfl7 (fun _ h9 => h9) rfl dX4_time_1 ?_
  refine lv_iconst (v := (0 : Int32)) hx hb dX4_time_4 (by decide) ?_
  obtain ⟨v1, h2, hf⟩ := kBind hf
  refine krd hx hb hK hP 1 rfl h2 dX4_time_5 ?_
  have he := Option.some.inj hf
  subst he
  exact kreti hx hb hr hlk hP hD hS dX4_time_6
set_option maxHeartbeats 4000000 in
set_option maxRecDepth 100000 in
theorem kX4_turnRound (l : Launch) (D : va_G) (cI : ClassId) (fu : Nat) (a0 a1 a2 : Nat) (M : (Nat → Int32)) (SV : Int32) (MX : (Nat → Int32)) (ML : Int32) (MA : Int32) (MH : Int64) (x1 : Int32) (o : Int32 × (Nat → Int32) × Int32) (hf : fX4_turnRound fu M SV x1 = some o) : Ct l yX4_turnRound wsX4_turnRound { frames := 2, cells := 0, slots := 0, locals := 45 } D cI [.ref a0, .int x1] (wX4 cI a0 a1 a2 M SV MX ML MA MH) (wX4 cI a0 a1 a2 o.2.1 o.2.2 MX ML MA MH) (some (.int o.1)) := by
  refine Ct.of (cc := cX4_turnRound) (maxL := 2) (ret := (some .int)) (by decide) rfl (Nat.le_of_ble_eq_true rfl) ?_
  intro p e s m args below meth c A F hP hD hS ls hl
  obtain ⟨hx, hb, hml, hr, hown, hts, hlk, hK, hA⟩ := F
  have hown : s.vm.findClass RX4 = some m.cls := hown
  have hl : lv_has ls 2 [(0, .ref a0), (1, .int x1)] := hl
  unfold fX4_turnRound at hf
  refine lv_aload_n hx hb dX4_turnRound_0 rfl (lv_at hl 0 rfl) ?_
  refine lv_iload_n hx hb dX4_turnRound_1 rfl (lv_at hl 1 rfl) ?_
  obtain ⟨v1, h2, hf⟩ := kBind hf
  refine kgoR (krunV (wc := (wX4 cI a0 a1 a2 M SV MX ML MA MH)) (As := [.int x1]) (rest := []) (ci := 4) hx hb hml hown hts hK (kX4_isCrane l D cI a0 a1 a2 M SV MX ML MA MH x1 v1 h2) gX4_turnRound_X4_isCrane rfl rfl rfl hdX4_isCrane ⟨Nat.le_of_ble_eq_true rfl, Nat.le_of_ble_eq_true rfl⟩ hP hD rfl rfl rfl rfl hl.1 rfl (Nat.le_of_ble_eq_true rfl) dX4_turnRound_2 ⟨Nat.zero_le _, Nat.zero_le _⟩) hP hD hS hA [0, 1, 2] rfl (fun H locs hP hS => ?_)
  refine kif_neb (tgt := 11) hx hb dX4_turnRound_5 (by decide) (fun c3 => ?_) (fun c3 => ?_)
  · have hf := kIfT c3 hf
    refine lv_aload_n hx hb dX4_turnRound_11 rfl (lv_at hl 0 rfl) ?_
    refine lv_iload_n hx hb dX4_turnRound_12 rfl (lv_at hl 1 rfl) ?_
    obtain ⟨v4, h5, hf⟩ := kBind hf
    refine kgoR (krunV (wc := (wX4 cI a0 a1 a2 M SV MX ML MA MH)) (As := [.int x1]) (rest := []) (ci := 4) hx hb hml hown hts hK (kX4_hasTarget l D cI a0 a1 a2 M SV MX ML MA MH x1 v4 h5) gX4_turnRound_X4_hasTarget rfl rfl rfl hdX4_hasTarget ⟨Nat.le_of_ble_eq_true rfl, Nat.le_of_ble_eq_true rfl⟩ hP hD rfl rfl rfl rfl hl.1 rfl (Nat.le_of_ble_eq_true rfl) dX4_turnRound_13 ⟨Nat.zero_le _, Nat.zero_le _⟩) hP hD hS hA [0, 1, 2] rfl (fun H locs hP hS => ?_)
    refine kif_eqb (tgt := 27) hx hb dX4_turnRound_16 (by decide) (fun c6 => ?_) (fun c6 => ?_)
    · have hf := kIfF c6 hf
      refine lv_bipush (v := (-103 : Int32)) hx hb dX4_turnRound_27 (by decide) ?_
      have he := Option.some.inj hf
      subst he
      exact kreti hx hb hr hlk hP hD hS dX4_turnRound_29
    · have hf := kIfT c6 hf
      refine lv_aload_n hx hb dX4_turnRound_19 rfl (lv_at hl 0 rfl) ?_
      refine lv_iload_n hx hb dX4_turnRound_20 rfl (lv_at hl 1 rfl) ?_
      obtain ⟨v7, h8, hf⟩ := kBind hf
      refine kgoR (krunV (wc := (wX4 cI a0 a1 a2 M SV MX ML MA MH)) (As := [.int x1]) (rest := []) (ci := 4) hx hb hml hown hts hK (kX4_isOnStep l D cI a0 a1 a2 M SV MX ML MA MH x1 v7 h8) gX4_turnRound_X4_isOnStep rfl rfl rfl hdX4_isOnStep ⟨Nat.le_of_ble_eq_true rfl, Nat.le_of_ble_eq_true rfl⟩ hP hD rfl rfl rfl rfl hl.1 rfl (Nat.le_of_ble_eq_true rfl) dX4_turnRound_21 ⟨Nat.zero_le _, Nat.zero_le _⟩) hP hD hS hA [0, 1, 2] rfl (fun H locs hP hS => ?_)
      refine kif_eqb (tgt := 30) hx hb dX4_turnRound_24 (by decide) (fun c9 => ?_) (fun c9 => ?_)
      · have hf := kIfF c9 hf
        refine lv_aload_n hx hb dX4_turnRound_30 rfl (lv_at hl 0 rfl) ?_
        obtain ⟨v10, h11, hf⟩ := kBind hf
        refine kgoA (krunV (wc := (wX4 cI a0 a1 a2 M SV MX ML MA MH)) (As := []) (rest := []) (ci := 4) hx hb hml hown hts hK (kX4_saves l D cI fu a0 a1 a2 M SV MX ML MA MH v10 h11) gX4_turnRound_X4_saves rfl rfl rfl hdX4_saves ⟨Nat.le_of_ble_eq_true rfl, Nat.le_of_ble_eq_true rfl⟩ hP hD rfl rfl rfl rfl hl.1 rfl (Nat.le_of_ble_eq_true rfl) dX4_turnRound_31 ⟨Nat.zero_le _, Nat.zero_le _⟩) hD hS hA (fun H locs hP hD hS => ?_)
        refine lv_aload_n hx hb dX4_turnRound_34 rfl (lv_at hl 0 rfl) ?_
        refine lv_iload_n hx hb dX4_turnRound_35 rfl (lv_at hl 1 rfl) ?_
        refine lv_iconst (v := (4 : Int32)) hx hb dX4_turnRound_36 (by decide) ?_
        refine lv_aload_n hx hb dX4_turnRound_37 rfl (lv_at hl 0 rfl) ?_
        refine lv_iload_n hx hb dX4_turnRound_38 rfl (lv_at hl 1 rfl) ?_
        refine lv_iconst (v := (4 : Int32)) hx hb dX4_turnRound_39 (by decide) ?_
        obtain ⟨v12, h13, hf⟩ := kBind hf
        refine kgoR (krunV (wc := (wX4 cI a0 a1 a2 v10.1 v10.2 MX ML MA MH)) (As := [.int x1, .int (4 : Int32)]) (rest := [.int (4 : Int32), .int x1, .ref a0]) (ci := 4) hx hb hml hown hts hK (kX4_of l D cI a0 a1 a2 v10.1 v10.2 MX ML MA MH x1 (4 : Int32) v12 h13) gX4_turnRound_X4_of rfl rfl rfl hdX4_of ⟨Nat.le_of_ble_eq_true rfl, Nat.le_of_ble_eq_true rfl⟩ hP hD rfl rfl rfl rfl hl.1 rfl (Nat.le_of_ble_eq_true rfl) dX4_turnRound_40 ⟨Nat.zero_le _, Nat.zero_le _⟩) hP hD hS hA [0, 1, 2] rfl (fun H locs hP hS => ?_)
        refine lv_ineg hx hb dX4_turnRound_43 ?_
        obtain ⟨v14, h15, hf⟩ := kBind hf
        refine kgoA (krunV (wc := (wX4 cI a0 a1 a2 v10.1 v10.2 MX ML MA MH)) (As := [.int x1, .int (4 : Int32), .int (-v12)]) (rest := []) (ci := 4) hx hb hml hown hts hK (kX4_sets l D cI a0 a1 a2 v10.1 v10.2 MX ML MA MH x1 (4 : Int32) (-v12) v14 h15) gX4_turnRound_X4_sets rfl rfl rfl hdX4_sets ⟨Nat.le_of_ble_eq_true rfl, Nat.le_of_ble_eq_true rfl⟩ hP hD rfl rfl rfl rfl hl.1 rfl (Nat.le_of_ble_eq_true rfl) dX4_turnRound_44 ⟨Nat.zero_le _, Nat.zero_le _⟩) hD hS hA (fun H locs hP hD hS => ?_)
        refine lv_aload_n hx hb dX4_turnRound_47 rfl (lv_at hl 0 rfl) ?_
        refine lv_iload_n hx hb dX4_turnRound_48 rfl (lv_at hl 1 rfl) ?_
        refine lv_aload_n hx hb dX4_turnRound_49 rfl (lv_at hl 0 rfl) ?_
        refine lv_iload_n hx hb dX4_turnRound_50 rfl (lv_at hl 1 rfl) ?_
        refine lv_iconst (v := (3 : Int32)) hx hb dX4_turnRound_51 (by decide) ?_
        obtain ⟨v16, h17, hf⟩ := kBind hf
        refine kgoR (krunV (wc := (wX4 cI a0 a1 a2 v14 v10.2 MX ML MA MH)) (As := [.int x1, .int (3 : Int32)]) (rest := [.int x1, .ref a0]) (ci := 4) hx hb hml hown hts hK (kX4_of l D cI a0 a1 a2 v14 v10.2 MX ML MA MH x1 (3 : Int32) v16 h17) gX4_turnRound_X4_of rfl rfl rfl hdX4_of ⟨Nat.le_of_ble_eq_true rfl, Nat.le_of_ble_eq_true rfl⟩ hP hD rfl rfl rfl rfl hl.1 rfl (Nat.le_of_ble_eq_true rfl) dX4_turnRound_52 ⟨Nat.zero_le _, Nat.zero_le _⟩) hP hD hS hA [0, 1, 2] rfl (fun H locs hP hS => ?_)
        refine lv_aload_n hx hb dX4_turnRound_55 rfl (lv_at hl 0 rfl) ?_
        refine lv_iload_n hx hb dX4_turnRound_56 rfl (lv_at hl 1 rfl) ?_
        refine lv_iconst (v := (4 : Int32)) hx hb dX4_turnRound_57 (by decide) ?_
        obtain ⟨v18, h19, hf⟩ := kBind hf
        refine kgoR (krunV (wc := (wX4 cI a0 a1 a2 v14 v10.2 MX ML MA MH)) (As := [.int x1, .int (4 : Int32)]) (rest := [.int v16, .int x1, .ref a0]) (ci := 4) hx hb hml hown hts hK (kX4_of l D cI a0 a1 a2 v14 v10.2 MX ML MA MH x1 (4 : Int32) v18 h19) gX4_turnRound_X4_of rfl rfl rfl hdX4_of ⟨Nat.le_of_ble_eq_true rfl, Nat.le_of_ble_eq_true rfl⟩ hP hD rfl rfl rfl rfl hl.1 rfl (Nat.le_of_ble_eq_true rfl) dX4_turnRound_58 ⟨Nat.zero_le _, Nat.zero_le _⟩) hP hD hS hA [0, 1, 2] rfl (fun H locs hP hS => ?_)
        obtain ⟨v20, h21, hf⟩ := kBind hf
        refine kgoR (krunV (wc := (wX4 cI a0 a1 a2 v14 v10.2 MX ML MA MH)) (As := [.int x1, .int v16, .int v18]) (rest := []) (ci := 4) hx hb hml hown hts hK (kX4_stepsTo l D cI a0 a1 a2 v14 v10.2 MX ML MA MH x1 v16 v18 v20 h21) gX4_turnRound_X4_stepsTo rfl rfl rfl hdX4_stepsTo ⟨Nat.le_of_ble_eq_true rfl, Nat.le_of_ble_eq_true rfl⟩ hP hD rfl rfl rfl rfl hl.1 rfl (Nat.le_of_ble_eq_true rfl) dX4_turnRound_61 ⟨Nat.zero_le _, Nat.zero_le _⟩) hP hD hS hA [0, 1, 2] rfl (fun H locs hP hS => ?_)
        have he := Option.some.inj hf
        subst he
        exact kreti hx hb hr hlk hP hD hS dX4_turnRound_64
      · have hf := kIfT c9 hf
        refine lv_bipush (v := (-103 : Int32)) hx hb dX4_turnRound_27 (by decide) ?_
        have he := Option.some.inj hf
        subst he
        exact kreti hx hb hr hlk hP hD hS dX4_turnRound_29
  · have hf := kIfF c3 hf
    refine lv_bipush (v := (-101 : Int32)) hx hb dX4_turnRound_8 (by decide) ?_
    have he := Option.some.inj hf
    subst he
    exact kreti hx hb hr hlk hP hD hS dX4_turnRound_10
set_option maxHeartbeats 4000000 in
set_option maxRecDepth 100000 in
theorem kX4_type (l : Launch) (D : va_G) (cI : ClassId) (a0 a1 a2 : Nat) (M : (Nat → Int32)) (SV : Int32) (MX : (Nat → Int32)) (ML : Int32) (MA : Int32) (MH : Int64) (x1 : Int32) (o : Int32 × (Nat → Int32) × Int32) (hf : fX4_type MX ML x1 = some o) : Ct l yX4_type wsX4_type { frames := 1, cells := 0, slots := 0, locals := 22 } D cI [.ref a0, .int x1] (wX4 cI a0 a1 a2 M SV MX ML MA MH) (wX4 cI a0 a1 a2 M SV o.2.1 o.2.2 MA MH) (some (.int o.1)) := by
  refine Ct.of (cc := cX4_type) (maxL := 2) (ret := (some .int)) (by decide) rfl (Nat.le_of_ble_eq_true rfl) ?_
  intro p e s m args below meth c A F hP hD hS ls hl
  obtain ⟨hx, hb, hml, hr, hown, hts, hlk, hK, hA⟩ := F
  have hown : s.vm.findClass RX4 = some m.cls := hown
  have hl : lv_has ls 2 [(0, .ref a0), (1, .int x1)] := hl
  have hinX4 : ∀ w ∈ wsX40, w ∈ wsX4_type := by decide +kernel
  have hfl13 := hts (.fieldLink RX4 13 "CraneGuardModel" "text" "[I") (by decide +kernel)
  have hfl121 := hts (.fieldLink RX4 121 "CraneGuardModel" "length" "I") (by decide +kernel)
  unfold fX4_type at hf
  refine lv_iload_n hx hb dX4_type_0 rfl (lv_at hl 1 rfl) ?_
  refine lv_iconst (v := (0 : Int32)) hx hb dX4_type_1 (by decide) ?_
  refine lv_sipush (v := (255 : Int32)) hx hb dX4_type_2 (by decide) ?_
  obtain ⟨v1, h2, hf⟩ := kBind hf
  refine kgoR (krunS (wc := ([] : va_W)) (As := [.int x1, .int (0 : Int32), .int (255 : Int32)]) (rest := []) hx hb hml hown hts hK (kX4_in l D cI x1 (0 : Int32) (255 : Int32) v1 h2) gX4_type_X4_in rfl rfl rfl hdX4_in ⟨Nat.le_of_ble_eq_true rfl, Nat.le_of_ble_eq_true rfl⟩ k_P0 (k_D0 A) rfl hl.1 rfl (Nat.le_of_ble_eq_true rfl) dX4_type_5 ⟨Nat.zero_le _, Nat.zero_le _⟩) hP hD hS hA [] rfl (fun H locs hP hS => ?_)
  refine kif_neb (tgt := 14) hx hb dX4_type_8 (by decide) (fun c3 => ?_) (fun c3 => ?_)
  · have hf := kIfT c3 hf
    refine lv_aload_n hx hb dX4_type_14 rfl (lv_at hl 0 rfl) ?_
    refine va_get (D := D) (ci := 4) (v := .int ML) (C := RX4) (T := TX4) (N := 6) hx hb hts hinX4 hown hK.1 hP 0 rfl rfl 3 (by decide) hfl121 (fun _ h9 => h9) rfl dX4_type_15 ?_
    refine lv_bipush (v := (80 : Int32)) hx hb dX4_type_18 (by decide) ?_
    refine lv_icmp_ne (tgt := 26) hx hb dX4_type_20 (by decide) (fun c4 => ?_) (fun c4 => ?_)
    · have hf := kIfF c4 hf
      refine lv_aload_n hx hb dX4_type_26 rfl (lv_at hl 0 rfl) ?_
      refine va_get (D := D) (ci := 4) (v := .ref a2) (C := RX4) (T := TX4) (N := 6) hx hb hts hinX4 hown hK.1 hP 0 rfl rfl 2 (by decide) hfl13 (fun _ h9 => h9) rfl dX4_type_27 ?_
      refine lv_aload_n hx hb dX4_type_30 rfl (lv_at hl 0 rfl) ?_
      refine va_get (D := D) (ci := 4) (v := .int ML) (C := RX4) (T := TX4) (N := 6) hx hb hts hinX4 hown hK.1 hP 0 rfl rfl 3 (by decide) hfl121 (fun _ h9 => h9) rfl dX4_type_31 ?_
      refine lv_iload_n hx hb dX4_type_34 rfl (lv_at hl 1 rfl) ?_
      obtain ⟨v5, h6, hf⟩ := kBind hf
      refine kwr hx hb hK hP hD hS 2 rfl h6 (wX4 cI a0 a1 a2 M SV v5 ML MA MH) rfl dX4_type_35 (fun H locs hP hD hS => ?_)
      refine lv_aload_n hx hb dX4_type_36 rfl (lv_at hl 0 rfl) ?_
      refine lv_dup hx hb dX4_type_37 rfl ?_
      refine va_get (D := D) (ci := 4) (v := .int ML) (C := RX4) (T := TX4) (N := 6) hx hb hts hinX4 hown hK.1 hP 0 rfl rfl 3 (by decide) hfl121 (fun _ h9 => h9) rfl dX4_type_38 ?_
      refine lv_iconst (v := (1 : Int32)) hx hb dX4_type_41 (by decide) ?_
      refine lv_iadd hx hb dX4_type_42 ?_
      refine va_put (D := D) (ci := 4) (v := .int (ML + (1 : Int32))) (ty := .int) (C := RX4) (T := TX4) (N := 6) hx hb hts hinX4 tyX4 tyX4_ok nmX4 hown hK.1 hP hD hS 0 rfl rfl 3 (by decide) hfl121 (fun _ h9 => h9) rfl (by decide +kernel) rfl rfl (Nat.le_of_ble_eq_true rfl) dX4_type_43 (fun H locs hP hD hS => ?_)
      have hP : va_P D vwCl (wX4 cI a0 a1 a2 M SV v5 (ML + (1 : Int32)) MA MH) H := hP
      have hD : va_D A (wX4 cI a0 a1 a2 M SV v5 (ML + (1 : Int32)) MA MH) := hD
      refine lv_aload_n hx hb dX4_type_46 rfl (lv_at hl 0 rfl) ?_
      refine va_get (D := D) (ci := 4) (v := .int (ML + (1 : Int32))) (C := RX4) (T := TX4) (N := 6) hx hb hts hinX4 hown hK.1 hP 0 rfl rfl 3 (by decide) hfl121 (fun _ h9 => h9) rfl dX4_type_47 ?_
      obtain ⟨z7, hz7⟩ : ∃ z : Int32, z = ML + (1 : Int32) := ⟨_, rfl⟩
      rw [← hz7] at hf
      rw [← hz7]
      have hP : va_P D vwCl (wX4 cI a0 a1 a2 M SV v5 z7 MA MH) H := by rw [hz7]; exact hP
      have hD : va_D A (wX4 cI a0 a1 a2 M SV v5 z7 MA MH) := by rw [hz7]; exact hD
      have he := Option.some.inj hf
      subst he
      exact kreti hx hb hr hlk hP hD hS dX4_type_50
    · have hf := kIfT c4 hf
      refine lv_bipush (v := (-104 : Int32)) hx hb dX4_type_23 (by decide) ?_
      have he := Option.some.inj hf
      subst he
      exact kreti hx hb hr hlk hP hD hS dX4_type_25
  · have hf := kIfF c3 hf
    refine lv_bipush (v := (-102 : Int32)) hx hb dX4_type_11 (by decide) ?_
    have he := Option.some.inj hf
    subst he
    exact kreti hx hb hr hlk hP hD hS dX4_type_13
set_option maxHeartbeats 4000000 in
set_option maxRecDepth 100000 in
theorem kX4_undo (l : Launch) (D : va_G) (cI : ClassId) (fu : Nat) (a0 a1 a2 : Nat) (M : (Nat → Int32)) (SV : Int32) (MX : (Nat → Int32)) (ML : Int32) (MA : Int32) (MH : Int64) (o : Int32 × (Nat → Int32) × Int32) (hf : fX4_undo fu M SV = some o) : Ct l yX4_undo wsX4_undo { frames := 1, cells := 0, slots := 0, locals := 23 } D cI [.ref a0] (wX4 cI a0 a1 a2 M SV MX ML MA MH) (wX4 cI a0 a1 a2 o.2.1 o.2.2 MX ML MA MH) (some (.int o.1)) := by
  refine Ct.of (cc := cX4_undo) (maxL := 1) (ret := (some .int)) (by decide) rfl (Nat.le_of_ble_eq_true rfl) ?_
  intro p e s m args below meth c A F hP hD hS ls hl
  obtain ⟨hx, hb, hml, hr, hown, hts, hlk, hK, hA⟩ := F
  have hown : s.vm.findClass RX4 = some m.cls := hown
  have hl : lv_has ls 1 [(0, .ref a0)] := hl
  have hinX4 : ∀ w ∈ wsX40, w ∈ wsX4_undo := by decide +kernel
  have hfl16 := hts (.fieldLink RX4 16 "CraneGuardModel" "saved" "I") (by decide +kernel)
  unfold fX4_undo at hf
  refine lv_aload_n hx hb dX4_undo_0 rfl (lv_at hl 0 rfl) ?_
  refine va_get (D := D) (ci := 4) (v := .int SV) (C := RX4) (T := TX4) (N := 6) hx hb hts hinX4 hown hK.1 hP 0 rfl rfl 1 (by decide) hfl16 (fun _ h9 => h9) rfl dX4_undo_1 ?_
  refine lv_if_ne (tgt := 10) hx hb dX4_undo_4 (by decide) (fun c1 => ?_) (fun c1 => ?_)
  · have hf := kIfF c1 hf
    refine lv_aload_n hx hb dX4_undo_10 rfl (lv_at hl 0 rfl) ?_
    refine lv_aload_n hx hb dX4_undo_11 rfl (lv_at hl 0 rfl) ?_
    refine va_get (D := D) (ci := 4) (v := .int SV) (C := RX4) (T := TX4) (N := 6) hx hb hts hinX4 hown hK.1 hP 0 rfl rfl 1 (by decide) hfl16 (fun _ h9 => h9) rfl dX4_undo_12 ?_
    refine lv_iconst (v := (0 : Int32)) hx hb dX4_undo_15 (by decide) ?_
    obtain ⟨v2, h3, hf⟩ := kBind hf
    refine kgoA (krunV (wc := (wX4 cI a0 a1 a2 M SV MX ML MA MH)) (As := [.int SV, .int (0 : Int32)]) (rest := []) (ci := 4) hx hb hml hown hts hK (kX4_copies l D cI fu a0 a1 a2 M SV MX ML MA MH SV (0 : Int32) v2 h3) gX4_undo_X4_copies rfl rfl rfl hdX4_copies ⟨Nat.le_of_ble_eq_true rfl, Nat.le_of_ble_eq_true rfl⟩ hP hD rfl rfl rfl rfl hl.1 rfl (Nat.le_of_ble_eq_true rfl) dX4_undo_16 ⟨Nat.zero_le _, Nat.zero_le _⟩) hD hS hA (fun H locs hP hD hS => ?_)
    refine lv_aload_n hx hb dX4_undo_19 rfl (lv_at hl 0 rfl) ?_
    refine lv_dup hx hb dX4_undo_20 rfl ?_
    refine va_get (D := D) (ci := 4) (v := .int SV) (C := RX4) (T := TX4) (N := 6) hx hb hts hinX4 hown hK.1 hP 0 rfl rfl 1 (by decide) hfl16 (fun _ h9 => h9) rfl dX4_undo_21 ?_
    refine lv_iconst (v := (1 : Int32)) hx hb dX4_undo_24 (by decide) ?_
    refine lv_isub hx hb dX4_undo_25 ?_
    refine va_put (D := D) (ci := 4) (v := .int (SV - (1 : Int32))) (ty := .int) (C := RX4) (T := TX4) (N := 6) hx hb hts hinX4 tyX4 tyX4_ok nmX4 hown hK.1 hP hD hS 0 rfl rfl 1 (by decide) hfl16 (fun _ h9 => h9) rfl (by decide +kernel) rfl rfl (Nat.le_of_ble_eq_true rfl) dX4_undo_26 (fun H locs hP hD hS => ?_)
    have hP : va_P D vwCl (wX4 cI a0 a1 a2 v2 (SV - (1 : Int32)) MX ML MA MH) H := hP
    have hD : va_D A (wX4 cI a0 a1 a2 v2 (SV - (1 : Int32)) MX ML MA MH) := hD
    refine lv_aload_n hx hb dX4_undo_29 rfl (lv_at hl 0 rfl) ?_
    refine va_get (D := D) (ci := 4) (v := .int (SV - (1 : Int32))) (C := RX4) (T := TX4) (N := 6) hx hb hts hinX4 hown hK.1 hP 0 rfl rfl 1 (by decide) hfl16 (fun _ h9 => h9) rfl dX4_undo_30 ?_
    obtain ⟨z4, hz4⟩ : ∃ z : Int32, z = SV - (1 : Int32) := ⟨_, rfl⟩
    rw [← hz4] at hf
    rw [← hz4]
    have hP : va_P D vwCl (wX4 cI a0 a1 a2 v2 z4 MX ML MA MH) H := by rw [hz4]; exact hP
    have hD : va_D A (wX4 cI a0 a1 a2 v2 z4 MX ML MA MH) := by rw [hz4]; exact hD
    have he := Option.some.inj hf
    subst he
    exact kreti hx hb hr hlk hP hD hS dX4_undo_33
  · have hf := kIfT c1 hf
    refine lv_bipush (v := (-103 : Int32)) hx hb dX4_undo_7 (by decide) ?_
    have he := Option.some.inj hf
    subst he
    exact kreti hx hb hr hlk hP hD hS dX4_undo_9
set_option maxHeartbeats 4000000 in
set_option maxRecDepth 100000 in
theorem kX4_waits (l : Launch) (D : va_G) (cI : ClassId) (fu : Nat) (a0 a1 a2 : Nat) (M : (Nat → Int32)) (SV : Int32) (MX : (Nat → Int32)) (ML : Int32) (MA : Int32) (MH : Int64) (x1 : Int32) (x2 : Int32) (o : Int32 × (Nat → Int32)) (hf : fX4_waits fu M x1 x2 = some o) : Ct l yX4_waits wsX4_waits { frames := 7, cells := 0, slots := 0, locals := 158 } D cI [.ref a0, .int x1, .int x2] (wX4 cI a0 a1 a2 M SV MX ML MA MH) (wX4 cI a0 a1 a2 o.2 SV MX ML MA MH) (some (.int o.1)) := by
  refine Ct.of (cc := cX4_waits) (maxL := 5) (ret := (some .int)) (by decide) rfl (Nat.le_of_ble_eq_true rfl) ?_
  intro p e s m args below meth c A F hP hD hS ls hl
  obtain ⟨hx, hb, hml, hr, hown, hts, hlk, hK, hA⟩ := F
  have hown : s.vm.findClass RX4 = some m.cls := hown
  have hl : lv_has ls 5 [(0, .ref a0), (1, .int x1), (2, .int x2)] := hl
  unfold fX4_waits at hf
  refine lv_aload_n hx hb dX4_waits_0 rfl (lv_at hl 0 rfl) ?_
  refine lv_iload_n hx hb dX4_waits_1 rfl (lv_at hl 1 rfl) ?_
  obtain ⟨v1, h2, hf⟩ := kBind hf
  refine kgoR (krunV (wc := (wX4 cI a0 a1 a2 M SV MX ML MA MH)) (As := [.int x1]) (rest := []) (ci := 4) hx hb hml hown hts hK (kX4_isCrane l D cI a0 a1 a2 M SV MX ML MA MH x1 v1 h2) gX4_waits_X4_isCrane rfl rfl rfl hdX4_isCrane ⟨Nat.le_of_ble_eq_true rfl, Nat.le_of_ble_eq_true rfl⟩ hP hD rfl rfl rfl rfl hl.1 rfl (Nat.le_of_ble_eq_true rfl) dX4_waits_2 ⟨Nat.zero_le _, Nat.zero_le _⟩) hP hD hS hA [0, 1, 2] rfl (fun H locs hP hS => ?_)
  refine kif_neb (tgt := 11) hx hb dX4_waits_5 (by decide) (fun c3 => ?_) (fun c3 => ?_)
  · have hf := kIfT c3 hf
    refine lv_iload_n hx hb dX4_waits_11 rfl (lv_at hl 2 rfl) ?_
    refine lv_iconst (v := (1 : Int32)) hx hb dX4_waits_12 (by decide) ?_
    refine lv_sipush (v := (1000 : Int32)) hx hb dX4_waits_13 (by decide) ?_
    obtain ⟨v4, h5, hf⟩ := kBind hf
    refine kgoR (krunS (wc := ([] : va_W)) (As := [.int x2, .int (1 : Int32), .int (1000 : Int32)]) (rest := []) hx hb hml hown hts hK (kX4_in l D cI x2 (1 : Int32) (1000 : Int32) v4 h5) gX4_waits_X4_in rfl rfl rfl hdX4_in ⟨Nat.le_of_ble_eq_true rfl, Nat.le_of_ble_eq_true rfl⟩ k_P0 (k_D0 A) rfl hl.1 rfl (Nat.le_of_ble_eq_true rfl) dX4_waits_16 ⟨Nat.zero_le _, Nat.zero_le _⟩) hP hD hS hA [] rfl (fun H locs hP hS => ?_)
    refine kif_neb (tgt := 25) hx hb dX4_waits_19 (by decide) (fun c6 => ?_) (fun c6 => ?_)
    · have hf := kIfT c6 hf
      refine lv_aload_n hx hb dX4_waits_25 rfl (lv_at hl 0 rfl) ?_
      refine lv_iconst (v := (0 : Int32)) hx hb dX4_waits_26 (by decide) ?_
      refine lv_bipush (v := (6 : Int32)) hx hb dX4_waits_27 (by decide) ?_
      obtain ⟨v7, h8, hf⟩ := kBind hf
      refine kgoA (krunV (wc := (wX4 cI a0 a1 a2 M SV MX ML MA MH)) (As := [.int (0 : Int32), .int (6 : Int32)]) (rest := []) (ci := 4) hx hb hml hown hts hK (kX4_copies l D cI fu a0 a1 a2 M SV MX ML MA MH (0 : Int32) (6 : Int32) v7 h8) gX4_waits_X4_copies rfl rfl rfl hdX4_copies ⟨Nat.le_of_ble_eq_true rfl, Nat.le_of_ble_eq_true rfl⟩ hP hD rfl rfl rfl rfl hl.1 rfl (Nat.le_of_ble_eq_true rfl) dX4_waits_29 ⟨Nat.zero_le _, Nat.zero_le _⟩) hD hS hA (fun H locs hP hD hS => ?_)
      refine lv_aload_n hx hb dX4_waits_32 rfl (lv_at hl 0 rfl) ?_
      refine lv_iload_n hx hb dX4_waits_33 rfl (lv_at hl 1 rfl) ?_
      refine lv_bipush (v := (6 : Int32)) hx hb dX4_waits_34 (by decide) ?_
      obtain ⟨v9, h10, hf⟩ := kBind hf
      refine kgoR (krunV (wc := (wX4 cI a0 a1 a2 v7 SV MX ML MA MH)) (As := [.int x1, .int (6 : Int32)]) (rest := []) (ci := 4) hx hb hml hown hts hK (kX4_of l D cI a0 a1 a2 v7 SV MX ML MA MH x1 (6 : Int32) v9 h10) gX4_waits_X4_of rfl rfl rfl hdX4_of ⟨Nat.le_of_ble_eq_true rfl, Nat.le_of_ble_eq_true rfl⟩ hP hD rfl rfl rfl rfl hl.1 rfl (Nat.le_of_ble_eq_true rfl) dX4_waits_36 ⟨Nat.zero_le _, Nat.zero_le _⟩) hP hD hS hA [0, 1, 2] rfl (fun H locs hP hS => ?_)
      refine lv_istore_n (lv' := [(3, .int v9), (0, .ref a0), (1, .int x1), (2, .int x2)]) hx hb dX4_waits_39 rfl hl (by decide) rfl (fun ls hl => ?_)
      refine lv_iconst (v := (0 : Int32)) hx hb dX4_waits_40 (by decide) ?_
      refine lv_istore (lv' := [(4, .int (0 : Int32)), (3, .int v9), (0, .ref a0), (1, .int x1), (2, .int x2)]) hx hb dX4_waits_41 hl (by decide) rfl (fun ls hl => ?_)
      have hl : lv_has ls 5 [(4, .int (0 : Int32)), (3, .int v9), (0, .ref a0), (1, .int x1), (2, .int x2)] := hl
      refine klp hf (fun t43 : (Nat → Int32) × Int32 => (wX4 cI a0 a1 a2 t43.1 SV MX ML MA MH)) 5 (fun t43 : (Nat → Int32) × Int32 => [(4, .int t43.2), (3, .int v9), (0, .ref a0), (1, .int x1), (2, .int x2)]) ?_ hP hD hS hl
      intro t43 x43_ hf hI1 hO1 H locs ls hP hD hS hl
      unfold fX4_waits_L43 at hf
      have hP : va_P D vwCl (wX4 cI a0 a1 a2 t43.1 SV MX ML MA MH) H := hP
      have hD : va_D A (wX4 cI a0 a1 a2 t43.1 SV MX ML MA MH) := hD
      have hl : lv_has ls 5 [(4, .int t43.2), (3, .int v9), (0, .ref a0), (1, .int x1), (2, .int x2)] := hl
      refine lv_iload hx hb dX4_waits_43 (lv_at hl 0 rfl) ?_
      refine lv_iload_n hx hb dX4_waits_45 rfl (lv_at hl 4 rfl) ?_
      refine lv_icmp_ge (tgt := 59) hx hb dX4_waits_46 (by decide) (fun c20 => ?_) (fun c20 => ?_)
      · have hf := kIfT c20 hf
        refine lv_aload_n hx hb dX4_waits_59 rfl (lv_at hl 2 rfl) ?_
        refine lv_iload_n hx hb dX4_waits_60 rfl (lv_at hl 3 rfl) ?_
        refine lv_bipush (v := (6 : Int32)) hx hb dX4_waits_61 (by decide) ?_
        obtain ⟨v21, h22, hf⟩ := kBind hf
        refine kgoR (krunV (wc := (wX4 cI a0 a1 a2 t43.1 SV MX ML MA MH)) (As := [.int x1, .int (6 : Int32)]) (rest := []) (ci := 4) hx hb hml hown hts hK (kX4_of l D cI a0 a1 a2 t43.1 SV MX ML MA MH x1 (6 : Int32) v21 h22) gX4_waits_X4_of rfl rfl rfl hdX4_of ⟨Nat.le_of_ble_eq_true rfl, Nat.le_of_ble_eq_true rfl⟩ hP hD rfl rfl rfl rfl hl.1 rfl (Nat.le_of_ble_eq_true rfl) dX4_waits_63 ⟨Nat.zero_le _, Nat.zero_le _⟩) hP hD hS hA [0, 1, 2] rfl (fun H locs hP hS => ?_)
        refine lv_iload_n hx hb dX4_waits_66 rfl (lv_at hl 1 rfl) ?_
        refine lv_isub hx hb dX4_waits_67 ?_
        refine lv_istore (lv' := [(4, .int (v21 - v9)), (3, .int v9), (0, .ref a0), (1, .int x1), (2, .int x2)]) hx hb dX4_waits_68 hl (by decide) rfl (fun ls hl => ?_)
        refine lv_aload_n hx hb dX4_waits_70 rfl (lv_at hl 2 rfl) ?_
        refine lv_bipush (v := (6 : Int32)) hx hb dX4_waits_71 (by decide) ?_
        refine lv_iconst (v := (0 : Int32)) hx hb dX4_waits_73 (by decide) ?_
        obtain ⟨v23, h24, hf⟩ := kBind hf
        refine kgoA (krunV (wc := (wX4 cI a0 a1 a2 t43.1 SV MX ML MA MH)) (As := [.int (6 : Int32), .int (0 : Int32)]) (rest := []) (ci := 4) hx hb hml hown hts hK (kX4_copies l D cI fu a0 a1 a2 t43.1 SV MX ML MA MH (6 : Int32) (0 : Int32) v23 h24) gX4_waits_X4_copies rfl rfl rfl hdX4_copies ⟨Nat.le_of_ble_eq_true rfl, Nat.le_of_ble_eq_true rfl⟩ hP hD rfl rfl rfl rfl hl.1 rfl (Nat.le_of_ble_eq_true rfl) dX4_waits_74 ⟨Nat.zero_le _, Nat.zero_le _⟩) hD hS hA (fun H locs hP hD hS => ?_)
        refine lv_iload hx hb dX4_waits_77 (lv_at hl 0 rfl) ?_
        obtain ⟨z25, hz25⟩ : ∃ z : Int32, z = v21 - v9 := ⟨_, rfl⟩
        rw [← hz25] at hf
        rw [← hz25]
        have he := Option.some.inj hf
        have he := hO1 _ he.symm
        subst he
        exact kreti hx hb hr hlk hP hD hS dX4_waits_79
      · have hf := kIfF c20 hf
        refine lv_aload_n hx hb dX4_waits_49 rfl (lv_at hl 2 rfl) ?_
        obtain ⟨v26, h27, hf⟩ := kBind hf
        refine kgoA (krunV (wc := (wX4 cI a0 a1 a2 t43.1 SV MX ML MA MH)) (As := []) (rest := []) (ci := 4) hx hb hml hown hts hK (kX4_ticks l D cI fu a0 a1 a2 t43.1 SV MX ML MA MH v26 h27) gX4_waits_X4_ticks rfl rfl rfl hdX4_ticks ⟨Nat.le_of_ble_eq_true rfl, Nat.le_of_ble_eq_true rfl⟩ hP hD rfl rfl rfl rfl hl.1 rfl (Nat.le_of_ble_eq_true rfl) dX4_waits_50 ⟨Nat.zero_le _, Nat.zero_le _⟩) hD hS hA (fun H locs hP hD hS => ?_)
        refine lv_iinc (v := t43.2 + (1 : Int32)) (lv' := [(4, .int (t43.2 + (1 : Int32))), (3, .int v9), (0, .ref a0), (1, .int x1), (2, .int x2)]) hx hb dX4_waits_53 hl (k := 0) rfl rfl (by decide) rfl (fun ls hl => ?_)
        refine lv_goto (tgt := 43) hx hb dX4_waits_56 (by decide) ?_
        obtain ⟨z28, hz28⟩ : ∃ z : Int32, z = t43.2 + (1 : Int32) := ⟨_, rfl⟩
        rw [← hz28] at hf
        have he := (Option.some.inj hf).symm
        have hl : lv_has ls 5 [(4, .int z28), (3, .int v9), (0, .ref a0), (1, .int x1), (2, .int x2)] := by rw [hz28]; exact lv_sub hl [0, 1, 2, 3, 4] rfl
        exact hI1 _ he H locs ls hP hD hS hl
    · have hf := kIfF c6 hf
      refine lv_bipush (v := (-102 : Int32)) hx hb dX4_waits_22 (by decide) ?_
      have he := Option.some.inj hf
      subst he
      exact kreti hx hb hr hlk hP hD hS dX4_waits_24
  · have hf := kIfF c3 hf
    refine lv_bipush (v := (-101 : Int32)) hx hb dX4_waits_8 (by decide) ?_
    have he := Option.some.inj hf
    subst he
    exact kreti hx hb hr hlk hP hD hS dX4_waits_10
